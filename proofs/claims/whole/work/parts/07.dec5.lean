theorem dX12_feed_10 : decode cX12_feed 10 = .ok (.if_icmp .le 5, 3) := by decide +kernel
theorem dX12_feed_13 : decode cX12_feed 13 = .ok (.iconst (-1), 1) := by decide +kernel
theorem dX12_feed_14 : decode cX12_feed 14 = .ok (.ireturn, 1) := by decide +kernel
theorem dX12_feed_15 : decode cX12_feed 15 = .ok (.aload_n 0, 1) := by decide +kernel
theorem dX12_feed_16 : decode cX12_feed 16 = .ok (.iload_n 1, 1) := by decide +kernel
theorem dX12_feed_17 : decode cX12_feed 17 = .ok (.invokevirtual 177, 3) := by decide +kernel
theorem dX12_feed_20 : decode cX12_feed 20 = .ok (.aload_n 0, 1) := by decide +kernel
theorem dX12_feed_21 : decode cX12_feed 21 = .ok (.iload_n 2, 1) := by decide +kernel
theorem dX12_feed_22 : decode cX12_feed 22 = .ok (.invokevirtual 177, 3) := by decide +kernel
theorem dX12_feed_25 : decode cX12_feed 25 = .ok (.aload_n 0, 1) := by decide +kernel
theorem dX12_feed_26 : decode cX12_feed 26 = .ok (.iload_n 3, 1) := by decide +kernel
theorem dX12_feed_27 : decode cX12_feed 27 = .ok (.invokevirtual 177, 3) := by decide +kernel
theorem dX12_feed_30 : decode cX12_feed 30 = .ok (.aload_n 0, 1) := by decide +kernel
theorem dX12_feed_31 : decode cX12_feed 31 = .ok (.iload 4, 2) := by decide +kernel
theorem dX12_feed_33 : decode cX12_feed 33 = .ok (.invokevirtual 177, 3) := by decide +kernel
theorem dX12_feed_36 : decode cX12_feed 36 = .ok (.aload_n 0, 1) := by decide +kernel
theorem dX12_feed_37 : decode cX12_feed 37 = .ok (.iload 5, 2) := by decide +kernel
theorem dX12_feed_39 : decode cX12_feed 39 = .ok (.invokevirtual 177, 3) := by decide +kernel
theorem dX12_feed_42 : decode cX12_feed 42 = .ok (.aload_n 0, 1) := by decide +kernel
theorem dX12_feed_43 : decode cX12_feed 43 = .ok (.getfield 174, 3) := by decide +kernel
theorem dX12_feed_46 : decode cX12_feed 46 = .ok (.ireturn, 1) := by decide +kernel
theorem dX12_here_0 : decode cX12_here 0 = .ok (.aload_n 0, 1) := by decide +kernel
theorem dX12_here_1 : decode cX12_here 1 = .ok (.getfield 181, 3) := by decide +kernel
theorem dX12_here_4 : decode cX12_here 4 = .ok (.aload_n 0, 1) := by decide +kernel
theorem dX12_here_5 : decode cX12_here 5 = .ok (.getfield 184, 3) := by decide +kernel
theorem dX12_here_8 : decode cX12_here 8 = .ok (.if_icmp .ge 19, 3) := by decide +kernel
theorem dX12_here_11 : decode cX12_here 11 = .ok (.aload_n 0, 1) := by decide +kernel
theorem dX12_here_12 : decode cX12_here 12 = .ok (.getfield 7, 3) := by decide +kernel
theorem dX12_here_15 : decode cX12_here 15 = .ok (.aload_n 0, 1) := by decide +kernel
theorem dX12_here_16 : decode cX12_here 16 = .ok (.getfield 181, 3) := by decide +kernel
theorem dX12_here_19 : decode cX12_here 19 = .ok (.baload, 1) := by decide +kernel
theorem dX12_here_20 : decode cX12_here 20 = .ok (.sipush 255, 3) := by decide +kernel
theorem dX12_here_23 : decode cX12_here 23 = .ok (.iand, 1) := by decide +kernel
theorem dX12_here_24 : decode cX12_here 24 = .ok (.goto 4, 3) := by decide +kernel
theorem dX12_here_27 : decode cX12_here 27 = .ok (.iconst 0, 1) := by decide +kernel
theorem dX12_here_28 : decode cX12_here 28 = .ok (.ireturn, 1) := by decide +kernel
theorem dX12_wrongs_0 : decode cX12_wrongs 0 = .ok (.aload_n 0, 1) := by decide +kernel
theorem dX12_wrongs_1 : decode cX12_wrongs 1 = .ok (.aload_n 0, 1) := by decide +kernel
theorem dX12_wrongs_2 : decode cX12_wrongs 2 = .ok (.getfield 187, 3) := by decide +kernel
theorem dX12_wrongs_5 : decode cX12_wrongs 5 = .ok (.ifCond .ge 10, 3) := by decide +kernel
theorem dX12_wrongs_8 : decode cX12_wrongs 8 = .ok (.aload_n 0, 1) := by decide +kernel
theorem dX12_wrongs_9 : decode cX12_wrongs 9 = .ok (.getfield 187, 3) := by decide +kernel
theorem dX12_wrongs_12 : decode cX12_wrongs 12 = .ok (.goto 10, 3) := by decide +kernel
theorem dX12_wrongs_15 : decode cX12_wrongs 15 = .ok (.sipush (-1000), 3) := by decide +kernel
theorem dX12_wrongs_18 : decode cX12_wrongs 18 = .ok (.iload_n 1, 1) := by decide +kernel
theorem dX12_wrongs_19 : decode cX12_wrongs 19 = .ok (.imul, 1) := by decide +kernel
theorem dX12_wrongs_20 : decode cX12_wrongs 20 = .ok (.iload_n 2, 1) := by decide +kernel
theorem dX12_wrongs_21 : decode cX12_wrongs 21 = .ok (.isub, 1) := by decide +kernel
theorem dX12_wrongs_22 : decode cX12_wrongs 22 = .ok (.putfield 187, 3) := by decide +kernel
theorem dX12_wrongs_25 : decode cX12_wrongs 25 = .ok (.return_, 1) := by decide +kernel
theorem dX12_isGood_0 : decode cX12_isGood 0 = .ok (.aload_n 0, 1) := by decide +kernel
theorem dX12_isGood_1 : decode cX12_isGood 1 = .ok (.getfield 187, 3) := by decide +kernel
theorem dX12_isGood_4 : decode cX12_isGood 4 = .ok (.ifCond .ne 7, 3) := by decide +kernel
theorem dX12_isGood_7 : decode cX12_isGood 7 = .ok (.iconst 1, 1) := by decide +kernel
theorem dX12_isGood_8 : decode cX12_isGood 8 = .ok (.goto 4, 3) := by decide +kernel
theorem dX12_isGood_11 : decode cX12_isGood 11 = .ok (.iconst 0, 1) := by decide +kernel
theorem dX12_isGood_12 : decode cX12_isGood 12 = .ok (.ireturn, 1) := by decide +kernel
theorem dX12_emit_0 : decode cX12_emit 0 = .ok (.aload_n 0, 1) := by decide +kernel
theorem dX12_emit_1 : decode cX12_emit 1 = .ok (.invokevirtual 190, 3) := by decide +kernel
theorem dX12_emit_4 : decode cX12_emit 4 = .ok (.ifCond .ne 4, 3) := by decide +kernel
theorem dX12_emit_7 : decode cX12_emit 7 = .ok (.return_, 1) := by decide +kernel
theorem dX12_emit_8 : decode cX12_emit 8 = .ok (.aload_n 0, 1) := by decide +kernel
theorem dX12_emit_9 : decode cX12_emit 9 = .ok (.getfield 69, 3) := by decide +kernel
theorem dX12_emit_12 : decode cX12_emit 12 = .ok (.aload_n 0, 1) := by decide +kernel
theorem dX12_emit_13 : decode cX12_emit 13 = .ok (.getfield 194, 3) := by decide +kernel
theorem dX12_emit_16 : decode cX12_emit 16 = .ok (.iload_n 1, 1) := by decide +kernel
theorem dX12_emit_17 : decode cX12_emit 17 = .ok (.iastore, 1) := by decide +kernel
theorem dX12_emit_18 : decode cX12_emit 18 = .ok (.aload_n 0, 1) := by decide +kernel
theorem dX12_emit_19 : decode cX12_emit 19 = .ok (.getfield 72, 3) := by decide +kernel
theorem dX12_emit_22 : decode cX12_emit 22 = .ok (.aload_n 0, 1) := by decide +kernel
theorem dX12_emit_23 : decode cX12_emit 23 = .ok (.getfield 194, 3) := by decide +kernel
theorem dX12_emit_26 : decode cX12_emit 26 = .ok (.iload_n 2, 1) := by decide +kernel
theorem dX12_emit_27 : decode cX12_emit 27 = .ok (.iastore, 1) := by decide +kernel
theorem dX12_emit_28 : decode cX12_emit 28 = .ok (.aload_n 0, 1) := by decide +kernel
theorem dX12_emit_29 : decode cX12_emit 29 = .ok (.dup, 1) := by decide +kernel
theorem dX12_emit_30 : decode cX12_emit 30 = .ok (.getfield 194, 3) := by decide +kernel
theorem dX12_emit_33 : decode cX12_emit 33 = .ok (.iconst 1, 1) := by decide +kernel
theorem dX12_emit_34 : decode cX12_emit 34 = .ok (.iadd, 1) := by decide +kernel
theorem dX12_emit_35 : decode cX12_emit 35 = .ok (.putfield 194, 3) := by decide +kernel
theorem dX12_emit_38 : decode cX12_emit 38 = .ok (.return_, 1) := by decide +kernel
theorem dX12_top_0 : decode cX12_top 0 = .ok (.aload_n 0, 1) := by decide +kernel
theorem dX12_top_1 : decode cX12_top 1 = .ok (.getfield 197, 3) := by decide +kernel
theorem dX12_top_4 : decode cX12_top 4 = .ok (.ifCond .le 17, 3) := by decide +kernel
theorem dX12_top_7 : decode cX12_top 7 = .ok (.aload_n 0, 1) := by decide +kernel
theorem dX12_top_8 : decode cX12_top 8 = .ok (.getfield 75, 3) := by decide +kernel
theorem dX12_top_11 : decode cX12_top 11 = .ok (.aload_n 0, 1) := by decide +kernel
theorem dX12_top_12 : decode cX12_top 12 = .ok (.getfield 197, 3) := by decide +kernel
theorem dX12_top_15 : decode cX12_top 15 = .ok (.iconst 1, 1) := by decide +kernel
theorem dX12_top_16 : decode cX12_top 16 = .ok (.isub, 1) := by decide +kernel
theorem dX12_top_17 : decode cX12_top 17 = .ok (.iaload, 1) := by decide +kernel
theorem dX12_top_18 : decode cX12_top 18 = .ok (.goto 4, 3) := by decide +kernel
theorem dX12_top_21 : decode cX12_top 21 = .ok (.iconst 0, 1) := by decide +kernel
theorem dX12_top_22 : decode cX12_top 22 = .ok (.ireturn, 1) := by decide +kernel
theorem dX12_puts_0 : decode cX12_puts 0 = .ok (.aload_n 0, 1) := by decide +kernel
theorem dX12_puts_1 : decode cX12_puts 1 = .ok (.getfield 75, 3) := by decide +kernel
theorem dX12_puts_4 : decode cX12_puts 4 = .ok (.aload_n 0, 1) := by decide +kernel
theorem dX12_puts_5 : decode cX12_puts 5 = .ok (.getfield 197, 3) := by decide +kernel
theorem dX12_puts_8 : decode cX12_puts 8 = .ok (.iload_n 1, 1) := by decide +kernel
theorem dX12_puts_9 : decode cX12_puts 9 = .ok (.iastore, 1) := by decide +kernel
theorem dX12_puts_10 : decode cX12_puts 10 = .ok (.aload_n 0, 1) := by decide +kernel
theorem dX12_puts_11 : decode cX12_puts 11 = .ok (.dup, 1) := by decide +kernel
theorem dX12_puts_12 : decode cX12_puts 12 = .ok (.getfield 197, 3) := by decide +kernel
theorem dX12_puts_15 : decode cX12_puts 15 = .ok (.iconst 1, 1) := by decide +kernel
theorem dX12_puts_16 : decode cX12_puts 16 = .ok (.iadd, 1) := by decide +kernel
theorem dX12_puts_17 : decode cX12_puts 17 = .ok (.putfield 197, 3) := by decide +kernel
theorem dX12_puts_20 : decode cX12_puts 20 = .ok (.aload_n 0, 1) := by decide +kernel
theorem dX12_puts_21 : decode cX12_puts 21 = .ok (.dup, 1) := by decide +kernel
theorem dX12_puts_22 : decode cX12_puts 22 = .ok (.getfield 181, 3) := by decide +kernel
theorem dX12_puts_25 : decode cX12_puts 25 = .ok (.iconst 1, 1) := by decide +kernel
theorem dX12_puts_26 : decode cX12_puts 26 = .ok (.iadd, 1) := by decide +kernel
theorem dX12_puts_27 : decode cX12_puts 27 = .ok (.putfield 181, 3) := by decide +kernel
theorem dX12_puts_30 : decode cX12_puts 30 = .ok (.return_, 1) := by decide +kernel
theorem dX12_opens_0 : decode cX12_opens 0 = .ok (.aload_n 0, 1) := by decide +kernel
theorem dX12_opens_1 : decode cX12_opens 1 = .ok (.getfield 200, 3) := by decide +kernel
theorem dX12_opens_4 : decode cX12_opens 4 = .ok (.bipush 6, 2) := by decide +kernel
theorem dX12_opens_6 : decode cX12_opens 6 = .ok (.if_icmp .ne 12, 3) := by decide +kernel
theorem dX12_opens_9 : decode cX12_opens 9 = .ok (.aload_n 0, 1) := by decide +kernel
theorem dX12_opens_10 : decode cX12_opens 10 = .ok (.iconst 5, 1) := by decide +kernel
theorem dX12_opens_11 : decode cX12_opens 11 = .ok (.aload_n 0, 1) := by decide +kernel
theorem dX12_opens_12 : decode cX12_opens 12 = .ok (.getfield 181, 3) := by decide +kernel
theorem dX12_opens_15 : decode cX12_opens 15 = .ok (.invokevirtual 203, 3) := by decide +kernel
theorem dX12_opens_18 : decode cX12_opens 18 = .ok (.aload_n 0, 1) := by decide +kernel
theorem dX12_opens_19 : decode cX12_opens 19 = .ok (.dup, 1) := by decide +kernel
theorem dX12_opens_20 : decode cX12_opens 20 = .ok (.getfield 200, 3) := by decide +kernel
theorem dX12_opens_23 : decode cX12_opens 23 = .ok (.iconst 1, 1) := by decide +kernel
theorem dX12_opens_24 : decode cX12_opens 24 = .ok (.iadd, 1) := by decide +kernel
theorem dX12_opens_25 : decode cX12_opens 25 = .ok (.putfield 200, 3) := by decide +kernel
theorem dX12_opens_28 : decode cX12_opens 28 = .ok (.aload_n 0, 1) := by decide +kernel
theorem dX12_opens_29 : decode cX12_opens 29 = .ok (.aload_n 0, 1) := by decide +kernel
theorem dX12_opens_30 : decode cX12_opens 30 = .ok (.invokevirtual 207, 3) := by decide +kernel
theorem dX12_opens_33 : decode cX12_opens 33 = .ok (.invokevirtual 211, 3) := by decide +kernel
theorem dX12_opens_36 : decode cX12_opens 36 = .ok (.return_, 1) := by decide +kernel
theorem dX12_seesDigit_0 : decode cX12_seesDigit 0 = .ok (.aload_n 0, 1) := by decide +kernel
theorem dX12_seesDigit_1 : decode cX12_seesDigit 1 = .ok (.invokevirtual 207, 3) := by decide +kernel
theorem dX12_seesDigit_4 : decode cX12_seesDigit 4 = .ok (.i2l, 1) := by decide +kernel
theorem dX12_seesDigit_5 : decode cX12_seesDigit 5 = .ok (.ldc2_w 214, 3) := by decide +kernel
theorem dX12_seesDigit_8 : decode cX12_seesDigit 8 = .ok (.ldc2_w 216, 3) := by decide +kernel
theorem dX12_seesDigit_11 : decode cX12_seesDigit 11 = .ok (.invokestatic 138, 3) := by decide +kernel
theorem dX12_seesDigit_14 : decode cX12_seesDigit 14 = .ok (.ireturn, 1) := by decide +kernel
theorem dX12_reads_0 : decode cX12_reads 0 = .ok (.aload_n 0, 1) := by decide +kernel
theorem dX12_reads_1 : decode cX12_reads 1 = .ok (.getfield 181, 3) := by decide +kernel
theorem dX12_reads_4 : decode cX12_reads 4 = .ok (.istore_n 1, 1) := by decide +kernel
theorem dX12_reads_5 : decode cX12_reads 5 = .ok (.iconst 0, 1) := by decide +kernel
theorem dX12_reads_6 : decode cX12_reads 6 = .ok (.istore_n 2, 1) := by decide +kernel
theorem dX12_reads_7 : decode cX12_reads 7 = .ok (.aload_n 0, 1) := by decide +kernel
theorem dX12_reads_8 : decode cX12_reads 8 = .ok (.invokevirtual 190, 3) := by decide +kernel
theorem dX12_reads_11 : decode cX12_reads 11 = .ok (.ifCond .eq 55, 3) := by decide +kernel
theorem dX12_reads_14 : decode cX12_reads 14 = .ok (.aload_n 0, 1) := by decide +kernel
theorem dX12_reads_15 : decode cX12_reads 15 = .ok (.invokevirtual 218, 3) := by decide +kernel
theorem dX12_reads_18 : decode cX12_reads 18 = .ok (.ifCond .eq 48, 3) := by decide +kernel
theorem dX12_reads_21 : decode cX12_reads 21 = .ok (.aload_n 0, 1) := by decide +kernel
theorem dX12_reads_22 : decode cX12_reads 22 = .ok (.getfield 181, 3) := by decide +kernel
theorem dX12_reads_25 : decode cX12_reads 25 = .ok (.iload_n 1, 1) := by decide +kernel
theorem dX12_reads_26 : decode cX12_reads 26 = .ok (.iconst 5, 1) := by decide +kernel
theorem dX12_reads_27 : decode cX12_reads 27 = .ok (.iadd, 1) := by decide +kernel
theorem dX12_reads_28 : decode cX12_reads 28 = .ok (.if_icmp .ne 12, 3) := by decide +kernel
theorem dX12_reads_31 : decode cX12_reads 31 = .ok (.aload_n 0, 1) := by decide +kernel
theorem dX12_reads_32 : decode cX12_reads 32 = .ok (.iconst 2, 1) := by decide +kernel
theorem dX12_reads_33 : decode cX12_reads 33 = .ok (.aload_n 0, 1) := by decide +kernel
theorem dX12_reads_34 : decode cX12_reads 34 = .ok (.getfield 181, 3) := by decide +kernel
theorem dX12_reads_37 : decode cX12_reads 37 = .ok (.invokevirtual 203, 3) := by decide +kernel
theorem dX12_reads_40 : decode cX12_reads 40 = .ok (.bipush 10, 2) := by decide +kernel
theorem dX12_reads_42 : decode cX12_reads 42 = .ok (.iload_n 2, 1) := by decide +kernel
theorem dX12_reads_43 : decode cX12_reads 43 = .ok (.imul, 1) := by decide +kernel
theorem dX12_reads_44 : decode cX12_reads 44 = .ok (.aload_n 0, 1) := by decide +kernel
theorem dX12_reads_45 : decode cX12_reads 45 = .ok (.invokevirtual 207, 3) := by decide +kernel
theorem dX12_reads_48 : decode cX12_reads 48 = .ok (.iadd, 1) := by decide +kernel
theorem dX12_reads_49 : decode cX12_reads 49 = .ok (.bipush 48, 2) := by decide +kernel
theorem dX12_reads_51 : decode cX12_reads 51 = .ok (.isub, 1) := by decide +kernel
theorem dX12_reads_52 : decode cX12_reads 52 = .ok (.istore_n 2, 1) := by decide +kernel
theorem dX12_reads_53 : decode cX12_reads 53 = .ok (.aload_n 0, 1) := by decide +kernel
theorem dX12_reads_54 : decode cX12_reads 54 = .ok (.dup, 1) := by decide +kernel
theorem dX12_reads_55 : decode cX12_reads 55 = .ok (.getfield 181, 3) := by decide +kernel
theorem dX12_reads_58 : decode cX12_reads 58 = .ok (.iconst 1, 1) := by decide +kernel
theorem dX12_reads_59 : decode cX12_reads 59 = .ok (.iadd, 1) := by decide +kernel
theorem dX12_reads_60 : decode cX12_reads 60 = .ok (.putfield 181, 3) := by decide +kernel
theorem dX12_reads_63 : decode cX12_reads 63 = .ok (.goto (-56), 3) := by decide +kernel
theorem dX12_reads_66 : decode cX12_reads 66 = .ok (.iload_n 2, 1) := by decide +kernel
theorem dX12_reads_67 : decode cX12_reads 67 = .ok (.ireturn, 1) := by decide +kernel
theorem dX12_isTimes_0 : decode cX12_isTimes 0 = .ok (.iload_n 0, 1) := by decide +kernel
theorem dX12_isTimes_1 : decode cX12_isTimes 1 = .ok (.bipush 42, 2) := by decide +kernel
theorem dX12_isTimes_3 : decode cX12_isTimes 3 = .ok (.if_icmp .eq 15, 3) := by decide +kernel
theorem dX12_isTimes_6 : decode cX12_isTimes 6 = .ok (.iload_n 0, 1) := by decide +kernel
theorem dX12_isTimes_7 : decode cX12_isTimes 7 = .ok (.bipush 47, 2) := by decide +kernel
theorem dX12_isTimes_9 : decode cX12_isTimes 9 = .ok (.if_icmp .eq 9, 3) := by decide +kernel
theorem dX12_isTimes_12 : decode cX12_isTimes 12 = .ok (.iload_n 0, 1) := by decide +kernel
theorem dX12_isTimes_13 : decode cX12_isTimes 13 = .ok (.bipush 37, 2) := by decide +kernel
theorem dX12_isTimes_15 : decode cX12_isTimes 15 = .ok (.if_icmp .ne 7, 3) := by decide +kernel
theorem dX12_isTimes_18 : decode cX12_isTimes 18 = .ok (.iconst 1, 1) := by decide +kernel
theorem dX12_isTimes_19 : decode cX12_isTimes 19 = .ok (.goto 4, 3) := by decide +kernel
theorem dX12_isTimes_22 : decode cX12_isTimes 22 = .ok (.iconst 0, 1) := by decide +kernel
theorem dX12_isTimes_23 : decode cX12_isTimes 23 = .ok (.ireturn, 1) := by decide +kernel
theorem dX12_isPlus_0 : decode cX12_isPlus 0 = .ok (.iload_n 0, 1) := by decide +kernel
theorem dX12_isPlus_1 : decode cX12_isPlus 1 = .ok (.bipush 43, 2) := by decide +kernel
theorem dX12_isPlus_3 : decode cX12_isPlus 3 = .ok (.if_icmp .eq 9, 3) := by decide +kernel
theorem dX12_isPlus_6 : decode cX12_isPlus 6 = .ok (.iload_n 0, 1) := by decide +kernel
theorem dX12_isPlus_7 : decode cX12_isPlus 7 = .ok (.bipush 45, 2) := by decide +kernel
theorem dX12_isPlus_9 : decode cX12_isPlus 9 = .ok (.if_icmp .ne 7, 3) := by decide +kernel
theorem dX12_isPlus_12 : decode cX12_isPlus 12 = .ok (.iconst 1, 1) := by decide +kernel
theorem dX12_isPlus_13 : decode cX12_isPlus 13 = .ok (.goto 4, 3) := by decide +kernel
theorem dX12_isPlus_16 : decode cX12_isPlus 16 = .ok (.iconst 0, 1) := by decide +kernel
theorem dX12_isPlus_17 : decode cX12_isPlus 17 = .ok (.ireturn, 1) := by decide +kernel
theorem dX12_isSign_0 : decode cX12_isSign 0 = .ok (.iload_n 0, 1) := by decide +kernel
theorem dX12_isSign_1 : decode cX12_isSign 1 = .ok (.bipush 60, 2) := by decide +kernel
theorem dX12_isSign_3 : decode cX12_isSign 3 = .ok (.if_icmp .eq 15, 3) := by decide +kernel
theorem dX12_isSign_6 : decode cX12_isSign 6 = .ok (.iload_n 0, 1) := by decide +kernel
theorem dX12_isSign_7 : decode cX12_isSign 7 = .ok (.bipush 62, 2) := by decide +kernel
theorem dX12_isSign_9 : decode cX12_isSign 9 = .ok (.if_icmp .eq 9, 3) := by decide +kernel
theorem dX12_isSign_12 : decode cX12_isSign 12 = .ok (.iload_n 0, 1) := by decide +kernel
theorem dX12_isSign_13 : decode cX12_isSign 13 = .ok (.bipush 61, 2) := by decide +kernel
theorem dX12_isSign_15 : decode cX12_isSign 15 = .ok (.if_icmp .ne 7, 3) := by decide +kernel
theorem dX12_isSign_18 : decode cX12_isSign 18 = .ok (.iconst 1, 1) := by decide +kernel
theorem dX12_isSign_19 : decode cX12_isSign 19 = .ok (.goto 4, 3) := by decide +kernel
theorem dX12_isSign_22 : decode cX12_isSign 22 = .ok (.iconst 0, 1) := by decide +kernel
theorem dX12_isSign_23 : decode cX12_isSign 23 = .ok (.ireturn, 1) := by decide +kernel
theorem dX12_isValue_0 : decode cX12_isValue 0 = .ok (.iload_n 0, 1) := by decide +kernel
theorem dX12_isValue_1 : decode cX12_isValue 1 = .ok (.bipush 119, 2) := by decide +kernel
theorem dX12_isValue_3 : decode cX12_isValue 3 = .ok (.if_icmp .eq 45, 3) := by decide +kernel
theorem dX12_isValue_6 : decode cX12_isValue 6 = .ok (.iload_n 0, 1) := by decide +kernel
theorem dX12_isValue_7 : decode cX12_isValue 7 = .ok (.bipush 115, 2) := by decide +kernel
theorem dX12_isValue_9 : decode cX12_isValue 9 = .ok (.if_icmp .eq 39, 3) := by decide +kernel
theorem dX12_isValue_12 : decode cX12_isValue 12 = .ok (.iload_n 0, 1) := by decide +kernel
theorem dX12_isValue_13 : decode cX12_isValue 13 = .ok (.bipush 98, 2) := by decide +kernel
theorem dX12_isValue_15 : decode cX12_isValue 15 = .ok (.if_icmp .eq 33, 3) := by decide +kernel
theorem dX12_isValue_18 : decode cX12_isValue 18 = .ok (.iload_n 0, 1) := by decide +kernel
theorem dX12_isValue_19 : decode cX12_isValue 19 = .ok (.bipush 120, 2) := by decide +kernel
theorem dX12_isValue_21 : decode cX12_isValue 21 = .ok (.if_icmp .eq 27, 3) := by decide +kernel
theorem dX12_isValue_24 : decode cX12_isValue 24 = .ok (.iload_n 0, 1) := by decide +kernel
theorem dX12_isValue_25 : decode cX12_isValue 25 = .ok (.bipush 121, 2) := by decide +kernel
theorem dX12_isValue_27 : decode cX12_isValue 27 = .ok (.if_icmp .eq 21, 3) := by decide +kernel
theorem dX12_isValue_30 : decode cX12_isValue 30 = .ok (.iload_n 0, 1) := by decide +kernel
theorem dX12_isValue_31 : decode cX12_isValue 31 = .ok (.bipush 97, 2) := by decide +kernel
theorem dX12_isValue_33 : decode cX12_isValue 33 = .ok (.if_icmp .eq 15, 3) := by decide +kernel
theorem dX12_isValue_36 : decode cX12_isValue 36 = .ok (.iload_n 0, 1) := by decide +kernel
theorem dX12_isValue_37 : decode cX12_isValue 37 = .ok (.bipush 99, 2) := by decide +kernel
theorem dX12_isValue_39 : decode cX12_isValue 39 = .ok (.if_icmp .eq 9, 3) := by decide +kernel
theorem dX12_isValue_42 : decode cX12_isValue 42 = .ok (.iload_n 0, 1) := by decide +kernel
theorem dX12_isValue_43 : decode cX12_isValue 43 = .ok (.bipush 108, 2) := by decide +kernel
theorem dX12_isValue_45 : decode cX12_isValue 45 = .ok (.if_icmp .ne 7, 3) := by decide +kernel
theorem dX12_isValue_48 : decode cX12_isValue 48 = .ok (.iconst 1, 1) := by decide +kernel
theorem dX12_isValue_49 : decode cX12_isValue 49 = .ok (.goto 4, 3) := by decide +kernel
theorem dX12_isValue_52 : decode cX12_isValue 52 = .ok (.iconst 0, 1) := by decide +kernel
theorem dX12_isValue_53 : decode cX12_isValue 53 = .ok (.ireturn, 1) := by decide +kernel
theorem dX12_sums_0 : decode cX12_sums 0 = .ok (.aload_n 0, 1) := by decide +kernel
theorem dX12_sums_1 : decode cX12_sums 1 = .ok (.invokevirtual 221, 3) := by decide +kernel
theorem dX12_sums_4 : decode cX12_sums 4 = .ok (.invokestatic 224, 3) := by decide +kernel
theorem dX12_sums_7 : decode cX12_sums 7 = .ok (.ifCond .ne 17, 3) := by decide +kernel
theorem dX12_sums_10 : decode cX12_sums 10 = .ok (.iload_n 1, 1) := by decide +kernel
theorem dX12_sums_11 : decode cX12_sums 11 = .ok (.ifCond .eq 35, 3) := by decide +kernel
theorem dX12_sums_14 : decode cX12_sums 14 = .ok (.aload_n 0, 1) := by decide +kernel
theorem dX12_sums_15 : decode cX12_sums 15 = .ok (.invokevirtual 221, 3) := by decide +kernel
theorem dX12_sums_18 : decode cX12_sums 18 = .ok (.invokestatic 227, 3) := by decide +kernel
theorem dX12_sums_21 : decode cX12_sums 21 = .ok (.ifCond .eq 25, 3) := by decide +kernel
theorem dX12_sums_24 : decode cX12_sums 24 = .ok (.aload_n 0, 1) := by decide +kernel
theorem dX12_sums_25 : decode cX12_sums 25 = .ok (.aload_n 0, 1) := by decide +kernel
theorem dX12_sums_26 : decode cX12_sums 26 = .ok (.invokevirtual 221, 3) := by decide +kernel
theorem dX12_sums_29 : decode cX12_sums 29 = .ok (.iconst 0, 1) := by decide +kernel
theorem dX12_sums_30 : decode cX12_sums 30 = .ok (.invokevirtual 230, 3) := by decide +kernel
theorem dX12_sums_33 : decode cX12_sums 33 = .ok (.aload_n 0, 1) := by decide +kernel
theorem dX12_sums_34 : decode cX12_sums 34 = .ok (.dup, 1) := by decide +kernel
theorem dX12_sums_35 : decode cX12_sums 35 = .ok (.getfield 197, 3) := by decide +kernel
theorem dX12_sums_38 : decode cX12_sums 38 = .ok (.iconst 1, 1) := by decide +kernel
theorem dX12_sums_39 : decode cX12_sums 39 = .ok (.isub, 1) := by decide +kernel
theorem dX12_sums_40 : decode cX12_sums 40 = .ok (.putfield 197, 3) := by decide +kernel
theorem dX12_sums_43 : decode cX12_sums 43 = .ok (.goto (-43), 3) := by decide +kernel
theorem dX12_sums_46 : decode cX12_sums 46 = .ok (.return_, 1) := by decide +kernel
theorem dX12_joins_0 : decode cX12_joins 0 = .ok (.aload_n 0, 1) := by decide +kernel
theorem dX12_joins_1 : decode cX12_joins 1 = .ok (.invokevirtual 221, 3) := by decide +kernel
theorem dX12_joins_4 : decode cX12_joins 4 = .ok (.bipush 38, 2) := by decide +kernel
theorem dX12_joins_6 : decode cX12_joins 6 = .ok (.if_icmp .eq 16, 3) := by decide +kernel
theorem dX12_joins_9 : decode cX12_joins 9 = .ok (.iload_n 1, 1) := by decide +kernel
theorem dX12_joins_10 : decode cX12_joins 10 = .ok (.ifCond .eq 34, 3) := by decide +kernel
theorem dX12_joins_13 : decode cX12_joins 13 = .ok (.aload_n 0, 1) := by decide +kernel
theorem dX12_joins_14 : decode cX12_joins 14 = .ok (.invokevirtual 221, 3) := by decide +kernel
theorem dX12_joins_17 : decode cX12_joins 17 = .ok (.bipush 124, 2) := by decide +kernel
theorem dX12_joins_19 : decode cX12_joins 19 = .ok (.if_icmp .ne 25, 3) := by decide +kernel
theorem dX12_joins_22 : decode cX12_joins 22 = .ok (.aload_n 0, 1) := by decide +kernel
theorem dX12_joins_23 : decode cX12_joins 23 = .ok (.aload_n 0, 1) := by decide +kernel
theorem dX12_joins_24 : decode cX12_joins 24 = .ok (.invokevirtual 221, 3) := by decide +kernel
theorem dX12_joins_27 : decode cX12_joins 27 = .ok (.iconst 0, 1) := by decide +kernel
theorem dX12_joins_28 : decode cX12_joins 28 = .ok (.invokevirtual 230, 3) := by decide +kernel
theorem dX12_joins_31 : decode cX12_joins 31 = .ok (.aload_n 0, 1) := by decide +kernel
theorem dX12_joins_32 : decode cX12_joins 32 = .ok (.dup, 1) := by decide +kernel
theorem dX12_joins_33 : decode cX12_joins 33 = .ok (.getfield 197, 3) := by decide +kernel
theorem dX12_joins_36 : decode cX12_joins 36 = .ok (.iconst 1, 1) := by decide +kernel
theorem dX12_joins_37 : decode cX12_joins 37 = .ok (.isub, 1) := by decide +kernel
theorem dX12_joins_38 : decode cX12_joins 38 = .ok (.putfield 197, 3) := by decide +kernel
theorem dX12_joins_41 : decode cX12_joins 41 = .ok (.goto (-41), 3) := by decide +kernel
theorem dX12_joins_44 : decode cX12_joins 44 = .ok (.return_, 1) := by decide +kernel
theorem dX12_ends_0 : decode cX12_ends 0 = .ok (.aload_n 0, 1) := by decide +kernel
theorem dX12_ends_1 : decode cX12_ends 1 = .ok (.invokevirtual 221, 3) := by decide +kernel
theorem dX12_ends_4 : decode cX12_ends 4 = .ok (.bipush 33, 2) := by decide +kernel
theorem dX12_ends_6 : decode cX12_ends 6 = .ok (.if_icmp .ne 32, 3) := by decide +kernel
theorem dX12_ends_9 : decode cX12_ends 9 = .ok (.aload_n 0, 1) := by decide +kernel
theorem dX12_ends_10 : decode cX12_ends 10 = .ok (.iconst 2, 1) := by decide +kernel
theorem dX12_ends_11 : decode cX12_ends 11 = .ok (.iconst 0, 1) := by decide +kernel
theorem dX12_ends_12 : decode cX12_ends 12 = .ok (.invokevirtual 230, 3) := by decide +kernel
theorem dX12_ends_15 : decode cX12_ends 15 = .ok (.aload_n 0, 1) := by decide +kernel
theorem dX12_ends_16 : decode cX12_ends 16 = .ok (.dup, 1) := by decide +kernel
theorem dX12_ends_17 : decode cX12_ends 17 = .ok (.getfield 197, 3) := by decide +kernel
theorem dX12_ends_20 : decode cX12_ends 20 = .ok (.iconst 1, 1) := by decide +kernel
theorem dX12_ends_21 : decode cX12_ends 21 = .ok (.isub, 1) := by decide +kernel
theorem dX12_ends_22 : decode cX12_ends 22 = .ok (.putfield 197, 3) := by decide +kernel
theorem dX12_ends_25 : decode cX12_ends 25 = .ok (.aload_n 0, 1) := by decide +kernel
theorem dX12_ends_26 : decode cX12_ends 26 = .ok (.dup, 1) := by decide +kernel
theorem dX12_ends_27 : decode cX12_ends 27 = .ok (.getfield 200, 3) := by decide +kernel
theorem dX12_ends_30 : decode cX12_ends 30 = .ok (.iconst 1, 1) := by decide +kernel
theorem dX12_ends_31 : decode cX12_ends 31 = .ok (.isub, 1) := by decide +kernel
theorem dX12_ends_32 : decode cX12_ends 32 = .ok (.putfield 200, 3) := by decide +kernel
theorem dX12_ends_35 : decode cX12_ends 35 = .ok (.goto (-35), 3) := by decide +kernel
theorem dX12_ends_38 : decode cX12_ends 38 = .ok (.return_, 1) := by decide +kernel
theorem dX12_factor_0 : decode cX12_factor 0 = .ok (.aload_n 0, 1) := by decide +kernel
theorem dX12_factor_1 : decode cX12_factor 1 = .ok (.invokevirtual 190, 3) := by decide +kernel
theorem dX12_factor_4 : decode cX12_factor 4 = .ok (.ifCond .eq 19, 3) := by decide +kernel
theorem dX12_factor_7 : decode cX12_factor 7 = .ok (.aload_n 0, 1) := by decide +kernel
theorem dX12_factor_8 : decode cX12_factor 8 = .ok (.invokevirtual 207, 3) := by decide +kernel
theorem dX12_factor_11 : decode cX12_factor 11 = .ok (.bipush 91, 2) := by decide +kernel
theorem dX12_factor_13 : decode cX12_factor 13 = .ok (.if_icmp .ne 10, 3) := by decide +kernel
theorem dX12_factor_16 : decode cX12_factor 16 = .ok (.aload_n 0, 1) := by decide +kernel
theorem dX12_factor_17 : decode cX12_factor 17 = .ok (.invokevirtual 233, 3) := by decide +kernel
theorem dX12_factor_20 : decode cX12_factor 20 = .ok (.goto (-20), 3) := by decide +kernel
theorem dX12_factor_23 : decode cX12_factor 23 = .ok (.aload_n 0, 1) := by decide +kernel
theorem dX12_factor_24 : decode cX12_factor 24 = .ok (.invokevirtual 190, 3) := by decide +kernel
theorem dX12_factor_27 : decode cX12_factor 27 = .ok (.ifCond .ne 4, 3) := by decide +kernel
theorem dX12_factor_30 : decode cX12_factor 30 = .ok (.return_, 1) := by decide +kernel
theorem dX12_factor_31 : decode cX12_factor 31 = .ok (.aload_n 0, 1) := by decide +kernel
theorem dX12_factor_32 : decode cX12_factor 32 = .ok (.invokevirtual 218, 3) := by decide +kernel
theorem dX12_factor_35 : decode cX12_factor 35 = .ok (.ifCond .eq 15, 3) := by decide +kernel
theorem dX12_factor_38 : decode cX12_factor 38 = .ok (.aload_n 0, 1) := by decide +kernel
theorem dX12_factor_39 : decode cX12_factor 39 = .ok (.iconst 0, 1) := by decide +kernel
theorem dX12_factor_40 : decode cX12_factor 40 = .ok (.aload_n 0, 1) := by decide +kernel
theorem dX12_factor_41 : decode cX12_factor 41 = .ok (.invokevirtual 236, 3) := by decide +kernel
theorem dX12_factor_44 : decode cX12_factor 44 = .ok (.invokevirtual 230, 3) := by decide +kernel
theorem dX12_factor_47 : decode cX12_factor 47 = .ok (.goto 44, 3) := by decide +kernel
theorem dX12_factor_50 : decode cX12_factor 50 = .ok (.aload_n 0, 1) := by decide +kernel
theorem dX12_factor_51 : decode cX12_factor 51 = .ok (.invokevirtual 207, 3) := by decide +kernel
theorem dX12_factor_54 : decode cX12_factor 54 = .ok (.invokestatic 239, 3) := by decide +kernel
theorem dX12_factor_57 : decode cX12_factor 57 = .ok (.ifCond .eq 25, 3) := by decide +kernel
theorem dX12_factor_60 : decode cX12_factor 60 = .ok (.aload_n 0, 1) := by decide +kernel
theorem dX12_factor_61 : decode cX12_factor 61 = .ok (.iconst 1, 1) := by decide +kernel
theorem dX12_factor_62 : decode cX12_factor 62 = .ok (.aload_n 0, 1) := by decide +kernel
theorem dX12_factor_63 : decode cX12_factor 63 = .ok (.invokevirtual 207, 3) := by decide +kernel
theorem dX12_factor_66 : decode cX12_factor 66 = .ok (.invokevirtual 230, 3) := by decide +kernel
theorem dX12_factor_69 : decode cX12_factor 69 = .ok (.aload_n 0, 1) := by decide +kernel
theorem dX12_factor_70 : decode cX12_factor 70 = .ok (.dup, 1) := by decide +kernel
theorem dX12_factor_71 : decode cX12_factor 71 = .ok (.getfield 181, 3) := by decide +kernel
theorem dX12_factor_74 : decode cX12_factor 74 = .ok (.iconst 1, 1) := by decide +kernel
theorem dX12_factor_75 : decode cX12_factor 75 = .ok (.iadd, 1) := by decide +kernel
theorem dX12_factor_76 : decode cX12_factor 76 = .ok (.putfield 181, 3) := by decide +kernel
theorem dX12_factor_79 : decode cX12_factor 79 = .ok (.goto 12, 3) := by decide +kernel
theorem dX12_factor_82 : decode cX12_factor 82 = .ok (.aload_n 0, 1) := by decide +kernel
theorem dX12_factor_83 : decode cX12_factor 83 = .ok (.iconst 1, 1) := by decide +kernel
theorem dX12_factor_84 : decode cX12_factor 84 = .ok (.aload_n 0, 1) := by decide +kernel
theorem dX12_factor_85 : decode cX12_factor 85 = .ok (.getfield 181, 3) := by decide +kernel
theorem dX12_factor_88 : decode cX12_factor 88 = .ok (.invokevirtual 203, 3) := by decide +kernel
theorem dX12_factor_91 : decode cX12_factor 91 = .ok (.return_, 1) := by decide +kernel
theorem dX12_stays_0 : decode cX12_stays 0 = .ok (.aload_n 0, 1) := by decide +kernel
theorem dX12_stays_1 : decode cX12_stays 1 = .ok (.invokevirtual 207, 3) := by decide +kernel
theorem dX12_stays_4 : decode cX12_stays 4 = .ok (.istore_n 1, 1) := by decide +kernel
theorem dX12_stays_5 : decode cX12_stays 5 = .ok (.iload_n 1, 1) := by decide +kernel
theorem dX12_stays_6 : decode cX12_stays 6 = .ok (.invokestatic 224, 3) := by decide +kernel
theorem dX12_stays_9 : decode cX12_stays 9 = .ok (.ifCond .ne 10, 3) := by decide +kernel
theorem dX12_stays_12 : decode cX12_stays 12 = .ok (.iload_n 1, 1) := by decide +kernel
theorem dX12_stays_13 : decode cX12_stays 13 = .ok (.invokestatic 227, 3) := by decide +kernel
theorem dX12_stays_16 : decode cX12_stays 16 = .ok (.ifCond .eq 18, 3) := by decide +kernel
theorem dX12_stays_19 : decode cX12_stays 19 = .ok (.aload_n 0, 1) := by decide +kernel
theorem dX12_stays_20 : decode cX12_stays 20 = .ok (.iload_n 1, 1) := by decide +kernel
theorem dX12_stays_21 : decode cX12_stays 21 = .ok (.invokestatic 227, 3) := by decide +kernel
theorem dX12_stays_24 : decode cX12_stays 24 = .ok (.invokevirtual 242, 3) := by decide +kernel
theorem dX12_stays_27 : decode cX12_stays 27 = .ok (.aload_n 0, 1) := by decide +kernel
theorem dX12_stays_28 : decode cX12_stays 28 = .ok (.iload_n 1, 1) := by decide +kernel
theorem dX12_stays_29 : decode cX12_stays 29 = .ok (.invokevirtual 211, 3) := by decide +kernel
theorem dX12_stays_32 : decode cX12_stays 32 = .ok (.iconst 1, 1) := by decide +kernel
theorem dX12_stays_33 : decode cX12_stays 33 = .ok (.ireturn, 1) := by decide +kernel
theorem dX12_stays_34 : decode cX12_stays 34 = .ok (.aload_n 0, 1) := by decide +kernel
theorem dX12_stays_35 : decode cX12_stays 35 = .ok (.iconst 1, 1) := by decide +kernel
theorem dX12_stays_36 : decode cX12_stays 36 = .ok (.invokevirtual 242, 3) := by decide +kernel
theorem dX12_stays_39 : decode cX12_stays 39 = .ok (.iload_n 1, 1) := by decide +kernel
theorem dX12_stays_40 : decode cX12_stays 40 = .ok (.bipush 93, 2) := by decide +kernel
theorem dX12_stays_42 : decode cX12_stays 42 = .ok (.if_icmp .eq 5, 3) := by decide +kernel
theorem dX12_stays_45 : decode cX12_stays 45 = .ok (.iconst 0, 1) := by decide +kernel
theorem dX12_stays_46 : decode cX12_stays 46 = .ok (.ireturn, 1) := by decide +kernel
theorem dX12_stays_47 : decode cX12_stays 47 = .ok (.aload_n 0, 1) := by decide +kernel
theorem dX12_stays_48 : decode cX12_stays 48 = .ok (.invokevirtual 221, 3) := by decide +kernel
theorem dX12_stays_51 : decode cX12_stays 51 = .ok (.bipush 91, 2) := by decide +kernel
theorem dX12_stays_53 : decode cX12_stays 53 = .ok (.if_icmp .eq 14, 3) := by decide +kernel
theorem dX12_stays_56 : decode cX12_stays 56 = .ok (.aload_n 0, 1) := by decide +kernel
theorem dX12_stays_57 : decode cX12_stays 57 = .ok (.iconst 1, 1) := by decide +kernel
theorem dX12_stays_58 : decode cX12_stays 58 = .ok (.aload_n 0, 1) := by decide +kernel
theorem dX12_stays_59 : decode cX12_stays 59 = .ok (.getfield 181, 3) := by decide +kernel
theorem dX12_stays_62 : decode cX12_stays 62 = .ok (.invokevirtual 203, 3) := by decide +kernel
theorem dX12_stays_65 : decode cX12_stays 65 = .ok (.iconst 0, 1) := by decide +kernel
theorem dX12_stays_66 : decode cX12_stays 66 = .ok (.ireturn, 1) := by decide +kernel
theorem dX12_stays_67 : decode cX12_stays 67 = .ok (.aload_n 0, 1) := by decide +kernel
theorem dX12_stays_68 : decode cX12_stays 68 = .ok (.dup, 1) := by decide +kernel
theorem dX12_stays_69 : decode cX12_stays 69 = .ok (.getfield 197, 3) := by decide +kernel
theorem dX12_stays_72 : decode cX12_stays 72 = .ok (.iconst 1, 1) := by decide +kernel
theorem dX12_stays_73 : decode cX12_stays 73 = .ok (.isub, 1) := by decide +kernel
theorem dX12_stays_74 : decode cX12_stays 74 = .ok (.putfield 197, 3) := by decide +kernel
theorem dX12_stays_77 : decode cX12_stays 77 = .ok (.aload_n 0, 1) := by decide +kernel
theorem dX12_stays_78 : decode cX12_stays 78 = .ok (.dup, 1) := by decide +kernel
theorem dX12_stays_79 : decode cX12_stays 79 = .ok (.getfield 200, 3) := by decide +kernel
theorem dX12_stays_82 : decode cX12_stays 82 = .ok (.iconst 1, 1) := by decide +kernel
theorem dX12_stays_83 : decode cX12_stays 83 = .ok (.isub, 1) := by decide +kernel
theorem dX12_stays_84 : decode cX12_stays 84 = .ok (.putfield 200, 3) := by decide +kernel
theorem dX12_stays_87 : decode cX12_stays 87 = .ok (.aload_n 0, 1) := by decide +kernel
theorem dX12_stays_88 : decode cX12_stays 88 = .ok (.dup, 1) := by decide +kernel
theorem dX12_stays_89 : decode cX12_stays 89 = .ok (.getfield 181, 3) := by decide +kernel
theorem dX12_stays_92 : decode cX12_stays 92 = .ok (.iconst 1, 1) := by decide +kernel
theorem dX12_stays_93 : decode cX12_stays 93 = .ok (.iadd, 1) := by decide +kernel
theorem dX12_stays_94 : decode cX12_stays 94 = .ok (.putfield 181, 3) := by decide +kernel
theorem dX12_stays_97 : decode cX12_stays 97 = .ok (.aload_n 0, 1) := by decide +kernel
theorem dX12_stays_98 : decode cX12_stays 98 = .ok (.iconst 1, 1) := by decide +kernel
theorem dX12_stays_99 : decode cX12_stays 99 = .ok (.putfield 246, 3) := by decide +kernel
theorem dX12_stays_102 : decode cX12_stays 102 = .ok (.iconst 1, 1) := by decide +kernel
theorem dX12_stays_103 : decode cX12_stays 103 = .ok (.ireturn, 1) := by decide +kernel
theorem dX12_value_0 : decode cX12_value 0 = .ok (.iconst 1, 1) := by decide +kernel
theorem dX12_value_1 : decode cX12_value 1 = .ok (.istore_n 1, 1) := by decide +kernel
theorem dX12_value_2 : decode cX12_value 2 = .ok (.aload_n 0, 1) := by decide +kernel
theorem dX12_value_3 : decode cX12_value 3 = .ok (.iconst 0, 1) := by decide +kernel
theorem dX12_value_4 : decode cX12_value 4 = .ok (.putfield 246, 3) := by decide +kernel
theorem dX12_value_7 : decode cX12_value 7 = .ok (.iload_n 1, 1) := by decide +kernel
theorem dX12_value_8 : decode cX12_value 8 = .ok (.ifCond .eq 49, 3) := by decide +kernel
theorem dX12_value_11 : decode cX12_value 11 = .ok (.aload_n 0, 1) := by decide +kernel
theorem dX12_value_12 : decode cX12_value 12 = .ok (.invokevirtual 190, 3) := by decide +kernel
theorem dX12_value_15 : decode cX12_value 15 = .ok (.ifCond .eq 42, 3) := by decide +kernel
theorem dX12_value_18 : decode cX12_value 18 = .ok (.aload_n 0, 1) := by decide +kernel
theorem dX12_value_19 : decode cX12_value 19 = .ok (.getfield 246, 3) := by decide +kernel
theorem dX12_value_22 : decode cX12_value 22 = .ok (.ifCond .ne 7, 3) := by decide +kernel
theorem dX12_value_25 : decode cX12_value 25 = .ok (.aload_n 0, 1) := by decide +kernel
theorem dX12_value_26 : decode cX12_value 26 = .ok (.invokevirtual 250, 3) := by decide +kernel
theorem dX12_value_29 : decode cX12_value 29 = .ok (.aload_n 0, 1) := by decide +kernel
theorem dX12_value_30 : decode cX12_value 30 = .ok (.iconst 0, 1) := by decide +kernel
theorem dX12_value_31 : decode cX12_value 31 = .ok (.putfield 246, 3) := by decide +kernel
theorem dX12_value_34 : decode cX12_value 34 = .ok (.aload_n 0, 1) := by decide +kernel
theorem dX12_value_35 : decode cX12_value 35 = .ok (.invokevirtual 190, 3) := by decide +kernel
theorem dX12_value_38 : decode cX12_value 38 = .ok (.ifCond .eq 14, 3) := by decide +kernel
theorem dX12_value_41 : decode cX12_value 41 = .ok (.aload_n 0, 1) := by decide +kernel
theorem dX12_value_42 : decode cX12_value 42 = .ok (.invokevirtual 253, 3) := by decide +kernel
theorem dX12_value_45 : decode cX12_value 45 = .ok (.ifCond .eq 7, 3) := by decide +kernel
theorem dX12_value_48 : decode cX12_value 48 = .ok (.iconst 1, 1) := by decide +kernel
theorem dX12_value_49 : decode cX12_value 49 = .ok (.goto 4, 3) := by decide +kernel
theorem dX12_value_52 : decode cX12_value 52 = .ok (.iconst 0, 1) := by decide +kernel
theorem dX12_value_53 : decode cX12_value 53 = .ok (.istore_n 1, 1) := by decide +kernel
theorem dX12_value_54 : decode cX12_value 54 = .ok (.goto (-47), 3) := by decide +kernel
theorem dX12_value_57 : decode cX12_value 57 = .ok (.aload_n 0, 1) := by decide +kernel
theorem dX12_value_58 : decode cX12_value 58 = .ok (.invokevirtual 190, 3) := by decide +kernel
theorem dX12_value_61 : decode cX12_value 61 = .ok (.ifCond .eq 21, 3) := by decide +kernel
theorem dX12_value_64 : decode cX12_value 64 = .ok (.aload_n 0, 1) := by decide +kernel
theorem dX12_value_65 : decode cX12_value 65 = .ok (.invokevirtual 221, 3) := by decide +kernel
theorem dX12_value_68 : decode cX12_value 68 = .ok (.bipush 91, 2) := by decide +kernel
theorem dX12_value_70 : decode cX12_value 70 = .ok (.if_icmp .ne 12, 3) := by decide +kernel
theorem dX12_value_73 : decode cX12_value 73 = .ok (.aload_n 0, 1) := by decide +kernel
theorem dX12_value_74 : decode cX12_value 74 = .ok (.iconst 1, 1) := by decide +kernel
theorem dX12_value_75 : decode cX12_value 75 = .ok (.aload_n 0, 1) := by decide +kernel
theorem dX12_value_76 : decode cX12_value 76 = .ok (.getfield 181, 3) := by decide +kernel
theorem dX12_value_79 : decode cX12_value 79 = .ok (.invokevirtual 203, 3) := by decide +kernel
theorem dX12_value_82 : decode cX12_value 82 = .ok (.return_, 1) := by decide +kernel
theorem dX12_pieceOfC_0 : decode cX12_pieceOfC 0 = .ok (.aload_n 0, 1) := by decide +kernel
theorem dX12_pieceOfC_1 : decode cX12_pieceOfC 1 = .ok (.invokevirtual 190, 3) := by decide +kernel
theorem dX12_pieceOfC_4 : decode cX12_pieceOfC 4 = .ok (.ifCond .eq 28, 3) := by decide +kernel
theorem dX12_pieceOfC_7 : decode cX12_pieceOfC 7 = .ok (.aload_n 0, 1) := by decide +kernel
theorem dX12_pieceOfC_8 : decode cX12_pieceOfC 8 = .ok (.invokevirtual 207, 3) := by decide +kernel
theorem dX12_pieceOfC_11 : decode cX12_pieceOfC 11 = .ok (.bipush 33, 2) := by decide +kernel
theorem dX12_pieceOfC_13 : decode cX12_pieceOfC 13 = .ok (.if_icmp .eq 12, 3) := by decide +kernel
theorem dX12_pieceOfC_16 : decode cX12_pieceOfC 16 = .ok (.aload_n 0, 1) := by decide +kernel
theorem dX12_pieceOfC_17 : decode cX12_pieceOfC 17 = .ok (.invokevirtual 207, 3) := by decide +kernel
theorem dX12_pieceOfC_20 : decode cX12_pieceOfC 20 = .ok (.bipush 40, 2) := by decide +kernel
theorem dX12_pieceOfC_22 : decode cX12_pieceOfC 22 = .ok (.if_icmp .ne 10, 3) := by decide +kernel
theorem dX12_pieceOfC_25 : decode cX12_pieceOfC 25 = .ok (.aload_n 0, 1) := by decide +kernel
theorem dX12_pieceOfC_26 : decode cX12_pieceOfC 26 = .ok (.invokevirtual 233, 3) := by decide +kernel
theorem dX12_pieceOfC_29 : decode cX12_pieceOfC 29 = .ok (.goto (-29), 3) := by decide +kernel
theorem dX12_pieceOfC_32 : decode cX12_pieceOfC 32 = .ok (.aload_n 0, 1) := by decide +kernel
theorem dX12_pieceOfC_33 : decode cX12_pieceOfC 33 = .ok (.invokevirtual 190, 3) := by decide +kernel
theorem dX12_pieceOfC_36 : decode cX12_pieceOfC 36 = .ok (.ifCond .eq 7, 3) := by decide +kernel
theorem dX12_pieceOfC_39 : decode cX12_pieceOfC 39 = .ok (.aload_n 0, 1) := by decide +kernel
theorem dX12_pieceOfC_40 : decode cX12_pieceOfC 40 = .ok (.invokevirtual 256, 3) := by decide +kernel
theorem dX12_pieceOfC_43 : decode cX12_pieceOfC 43 = .ok (.aload_n 0, 1) := by decide +kernel
theorem dX12_pieceOfC_44 : decode cX12_pieceOfC 44 = .ok (.invokevirtual 190, 3) := by decide +kernel
theorem dX12_pieceOfC_47 : decode cX12_pieceOfC 47 = .ok (.ifCond .ne 4, 3) := by decide +kernel
theorem dX12_pieceOfC_50 : decode cX12_pieceOfC 50 = .ok (.return_, 1) := by decide +kernel
theorem dX12_pieceOfC_51 : decode cX12_pieceOfC 51 = .ok (.aload_n 0, 1) := by decide +kernel
theorem dX12_pieceOfC_52 : decode cX12_pieceOfC 52 = .ok (.invokevirtual 207, 3) := by decide +kernel
theorem dX12_pieceOfC_55 : decode cX12_pieceOfC 55 = .ok (.istore_n 1, 1) := by decide +kernel
theorem dX12_pieceOfC_56 : decode cX12_pieceOfC 56 = .ok (.iload_n 1, 1) := by decide +kernel
theorem dX12_pieceOfC_57 : decode cX12_pieceOfC 57 = .ok (.invokestatic 259, 3) := by decide +kernel
theorem dX12_pieceOfC_60 : decode cX12_pieceOfC 60 = .ok (.ifCond .ne 13, 3) := by decide +kernel
theorem dX12_pieceOfC_63 : decode cX12_pieceOfC 63 = .ok (.aload_n 0, 1) := by decide +kernel
theorem dX12_pieceOfC_64 : decode cX12_pieceOfC 64 = .ok (.iconst 1, 1) := by decide +kernel
theorem dX12_pieceOfC_65 : decode cX12_pieceOfC 65 = .ok (.aload_n 0, 1) := by decide +kernel
theorem dX12_pieceOfC_66 : decode cX12_pieceOfC 66 = .ok (.getfield 181, 3) := by decide +kernel
theorem dX12_pieceOfC_69 : decode cX12_pieceOfC 69 = .ok (.invokevirtual 203, 3) := by decide +kernel
theorem dX12_pieceOfC_72 : decode cX12_pieceOfC 72 = .ok (.return_, 1) := by decide +kernel
theorem dX12_pieceOfC_73 : decode cX12_pieceOfC 73 = .ok (.aload_n 0, 1) := by decide +kernel
theorem dX12_pieceOfC_74 : decode cX12_pieceOfC 74 = .ok (.iload_n 1, 1) := by decide +kernel
theorem dX12_pieceOfC_75 : decode cX12_pieceOfC 75 = .ok (.invokevirtual 211, 3) := by decide +kernel
theorem dX12_pieceOfC_78 : decode cX12_pieceOfC 78 = .ok (.aload_n 0, 1) := by decide +kernel
theorem dX12_pieceOfC_79 : decode cX12_pieceOfC 79 = .ok (.invokevirtual 256, 3) := by decide +kernel
theorem dX12_pieceOfC_82 : decode cX12_pieceOfC 82 = .ok (.aload_n 0, 1) := by decide +kernel
theorem dX12_pieceOfC_83 : decode cX12_pieceOfC 83 = .ok (.invokevirtual 190, 3) := by decide +kernel
theorem dX12_pieceOfC_86 : decode cX12_pieceOfC 86 = .ok (.ifCond .ne 4, 3) := by decide +kernel
theorem dX12_pieceOfC_89 : decode cX12_pieceOfC 89 = .ok (.return_, 1) := by decide +kernel
theorem dX12_pieceOfC_90 : decode cX12_pieceOfC 90 = .ok (.aload_n 0, 1) := by decide +kernel
theorem dX12_pieceOfC_91 : decode cX12_pieceOfC 91 = .ok (.aload_n 0, 1) := by decide +kernel
theorem dX12_pieceOfC_92 : decode cX12_pieceOfC 92 = .ok (.invokevirtual 221, 3) := by decide +kernel
theorem dX12_pieceOfC_95 : decode cX12_pieceOfC 95 = .ok (.iconst 0, 1) := by decide +kernel
theorem dX12_pieceOfC_96 : decode cX12_pieceOfC 96 = .ok (.invokevirtual 230, 3) := by decide +kernel
theorem dX12_pieceOfC_99 : decode cX12_pieceOfC 99 = .ok (.aload_n 0, 1) := by decide +kernel
theorem dX12_pieceOfC_100 : decode cX12_pieceOfC 100 = .ok (.dup, 1) := by decide +kernel
theorem dX12_pieceOfC_101 : decode cX12_pieceOfC 101 = .ok (.getfield 197, 3) := by decide +kernel
theorem dX12_pieceOfC_104 : decode cX12_pieceOfC 104 = .ok (.iconst 1, 1) := by decide +kernel
theorem dX12_pieceOfC_105 : decode cX12_pieceOfC 105 = .ok (.isub, 1) := by decide +kernel
theorem dX12_pieceOfC_106 : decode cX12_pieceOfC 106 = .ok (.putfield 197, 3) := by decide +kernel
theorem dX12_pieceOfC_109 : decode cX12_pieceOfC 109 = .ok (.aload_n 0, 1) := by decide +kernel
theorem dX12_pieceOfC_110 : decode cX12_pieceOfC 110 = .ok (.invokevirtual 262, 3) := by decide +kernel
theorem dX12_pieceOfC_113 : decode cX12_pieceOfC 113 = .ok (.return_, 1) := by decide +kernel
theorem dX12_goesBehind_0 : decode cX12_goesBehind 0 = .ok (.aload_n 0, 1) := by decide +kernel
theorem dX12_goesBehind_1 : decode cX12_goesBehind 1 = .ok (.invokevirtual 207, 3) := by decide +kernel
theorem dX12_goesBehind_4 : decode cX12_goesBehind 4 = .ok (.istore_n 1, 1) := by decide +kernel
theorem dX12_goesBehind_5 : decode cX12_goesBehind 5 = .ok (.iload_n 1, 1) := by decide +kernel
theorem dX12_goesBehind_6 : decode cX12_goesBehind 6 = .ok (.bipush 38, 2) := by decide +kernel
theorem dX12_goesBehind_8 : decode cX12_goesBehind 8 = .ok (.if_icmp .eq 9, 3) := by decide +kernel
theorem dX12_goesBehind_11 : decode cX12_goesBehind 11 = .ok (.iload_n 1, 1) := by decide +kernel
theorem dX12_goesBehind_12 : decode cX12_goesBehind 12 = .ok (.bipush 124, 2) := by decide +kernel
theorem dX12_goesBehind_14 : decode cX12_goesBehind 14 = .ok (.if_icmp .ne 25, 3) := by decide +kernel
theorem dX12_goesBehind_17 : decode cX12_goesBehind 17 = .ok (.aload_n 0, 1) := by decide +kernel
theorem dX12_goesBehind_18 : decode cX12_goesBehind 18 = .ok (.iload_n 1, 1) := by decide +kernel
theorem dX12_goesBehind_19 : decode cX12_goesBehind 19 = .ok (.bipush 124, 2) := by decide +kernel
theorem dX12_goesBehind_21 : decode cX12_goesBehind 21 = .ok (.if_icmp .ne 7, 3) := by decide +kernel
theorem dX12_goesBehind_24 : decode cX12_goesBehind 24 = .ok (.iconst 1, 1) := by decide +kernel
theorem dX12_goesBehind_25 : decode cX12_goesBehind 25 = .ok (.goto 4, 3) := by decide +kernel
theorem dX12_goesBehind_28 : decode cX12_goesBehind 28 = .ok (.iconst 0, 1) := by decide +kernel
theorem dX12_goesBehind_29 : decode cX12_goesBehind 29 = .ok (.invokevirtual 265, 3) := by decide +kernel
theorem dX12_goesBehind_32 : decode cX12_goesBehind 32 = .ok (.aload_n 0, 1) := by decide +kernel
theorem dX12_goesBehind_33 : decode cX12_goesBehind 33 = .ok (.iload_n 1, 1) := by decide +kernel
theorem dX12_goesBehind_34 : decode cX12_goesBehind 34 = .ok (.invokevirtual 211, 3) := by decide +kernel
theorem dX12_goesBehind_37 : decode cX12_goesBehind 37 = .ok (.iconst 1, 1) := by decide +kernel
theorem dX12_goesBehind_38 : decode cX12_goesBehind 38 = .ok (.ireturn, 1) := by decide +kernel
theorem dX12_goesBehind_39 : decode cX12_goesBehind 39 = .ok (.iload_n 1, 1) := by decide +kernel
theorem dX12_goesBehind_40 : decode cX12_goesBehind 40 = .ok (.bipush 41, 2) := by decide +kernel
theorem dX12_goesBehind_42 : decode cX12_goesBehind 42 = .ok (.if_icmp .eq 14, 3) := by decide +kernel
theorem dX12_goesBehind_45 : decode cX12_goesBehind 45 = .ok (.aload_n 0, 1) := by decide +kernel
theorem dX12_goesBehind_46 : decode cX12_goesBehind 46 = .ok (.iconst 1, 1) := by decide +kernel
theorem dX12_goesBehind_47 : decode cX12_goesBehind 47 = .ok (.aload_n 0, 1) := by decide +kernel
theorem dX12_goesBehind_48 : decode cX12_goesBehind 48 = .ok (.getfield 181, 3) := by decide +kernel
theorem dX12_goesBehind_51 : decode cX12_goesBehind 51 = .ok (.invokevirtual 203, 3) := by decide +kernel
theorem dX12_goesBehind_54 : decode cX12_goesBehind 54 = .ok (.iconst 0, 1) := by decide +kernel
theorem dX12_goesBehind_55 : decode cX12_goesBehind 55 = .ok (.ireturn, 1) := by decide +kernel
theorem dX12_goesBehind_56 : decode cX12_goesBehind 56 = .ok (.aload_n 0, 1) := by decide +kernel
theorem dX12_goesBehind_57 : decode cX12_goesBehind 57 = .ok (.iconst 1, 1) := by decide +kernel
theorem dX12_goesBehind_58 : decode cX12_goesBehind 58 = .ok (.invokevirtual 265, 3) := by decide +kernel
theorem dX12_goesBehind_61 : decode cX12_goesBehind 61 = .ok (.aload_n 0, 1) := by decide +kernel
theorem dX12_goesBehind_62 : decode cX12_goesBehind 62 = .ok (.dup, 1) := by decide +kernel
theorem dX12_goesBehind_63 : decode cX12_goesBehind 63 = .ok (.getfield 197, 3) := by decide +kernel
theorem dX12_goesBehind_66 : decode cX12_goesBehind 66 = .ok (.iconst 1, 1) := by decide +kernel
theorem dX12_goesBehind_67 : decode cX12_goesBehind 67 = .ok (.isub, 1) := by decide +kernel
theorem dX12_goesBehind_68 : decode cX12_goesBehind 68 = .ok (.putfield 197, 3) := by decide +kernel
theorem dX12_goesBehind_71 : decode cX12_goesBehind 71 = .ok (.aload_n 0, 1) := by decide +kernel
theorem dX12_goesBehind_72 : decode cX12_goesBehind 72 = .ok (.dup, 1) := by decide +kernel
theorem dX12_goesBehind_73 : decode cX12_goesBehind 73 = .ok (.getfield 200, 3) := by decide +kernel
theorem dX12_goesBehind_76 : decode cX12_goesBehind 76 = .ok (.iconst 1, 1) := by decide +kernel
theorem dX12_goesBehind_77 : decode cX12_goesBehind 77 = .ok (.isub, 1) := by decide +kernel
theorem dX12_goesBehind_78 : decode cX12_goesBehind 78 = .ok (.putfield 200, 3) := by decide +kernel
theorem dX12_goesBehind_81 : decode cX12_goesBehind 81 = .ok (.aload_n 0, 1) := by decide +kernel
theorem dX12_goesBehind_82 : decode cX12_goesBehind 82 = .ok (.dup, 1) := by decide +kernel
theorem dX12_goesBehind_83 : decode cX12_goesBehind 83 = .ok (.getfield 181, 3) := by decide +kernel
theorem dX12_goesBehind_86 : decode cX12_goesBehind 86 = .ok (.iconst 1, 1) := by decide +kernel
theorem dX12_goesBehind_87 : decode cX12_goesBehind 87 = .ok (.iadd, 1) := by decide +kernel
theorem dX12_goesBehind_88 : decode cX12_goesBehind 88 = .ok (.putfield 181, 3) := by decide +kernel
theorem dX12_goesBehind_91 : decode cX12_goesBehind 91 = .ok (.aload_n 0, 1) := by decide +kernel
theorem dX12_goesBehind_92 : decode cX12_goesBehind 92 = .ok (.aload_n 0, 1) := by decide +kernel
theorem dX12_goesBehind_93 : decode cX12_goesBehind 93 = .ok (.getfield 197, 3) := by decide +kernel
theorem dX12_goesBehind_96 : decode cX12_goesBehind 96 = .ok (.ifCond .ne 7, 3) := by decide +kernel
theorem dX12_goesBehind_99 : decode cX12_goesBehind 99 = .ok (.iconst 1, 1) := by decide +kernel
theorem dX12_goesBehind_100 : decode cX12_goesBehind 100 = .ok (.goto 4, 3) := by decide +kernel
theorem dX12_goesBehind_103 : decode cX12_goesBehind 103 = .ok (.iconst 0, 1) := by decide +kernel
theorem dX12_goesBehind_104 : decode cX12_goesBehind 104 = .ok (.putfield 268, 3) := by decide +kernel
theorem dX12_goesBehind_107 : decode cX12_goesBehind 107 = .ok (.aload_n 0, 1) := by decide +kernel
theorem dX12_goesBehind_108 : decode cX12_goesBehind 108 = .ok (.getfield 268, 3) := by decide +kernel
theorem dX12_goesBehind_111 : decode cX12_goesBehind 111 = .ok (.ifCond .ne 7, 3) := by decide +kernel
theorem dX12_goesBehind_114 : decode cX12_goesBehind 114 = .ok (.aload_n 0, 1) := by decide +kernel
theorem dX12_goesBehind_115 : decode cX12_goesBehind 115 = .ok (.invokevirtual 262, 3) := by decide +kernel
theorem dX12_goesBehind_118 : decode cX12_goesBehind 118 = .ok (.iconst 0, 1) := by decide +kernel
theorem dX12_goesBehind_119 : decode cX12_goesBehind 119 = .ok (.ireturn, 1) := by decide +kernel
theorem dX12_condition_0 : decode cX12_condition 0 = .ok (.aload_n 0, 1) := by decide +kernel
theorem dX12_condition_1 : decode cX12_condition 1 = .ok (.iconst 0, 1) := by decide +kernel
theorem dX12_condition_2 : decode cX12_condition 2 = .ok (.putfield 268, 3) := by decide +kernel
theorem dX12_condition_5 : decode cX12_condition 5 = .ok (.aload_n 0, 1) := by decide +kernel
theorem dX12_condition_6 : decode cX12_condition 6 = .ok (.invokevirtual 207, 3) := by decide +kernel
theorem dX12_condition_9 : decode cX12_condition 9 = .ok (.bipush 40, 2) := by decide +kernel
theorem dX12_condition_11 : decode cX12_condition 11 = .ok (.if_icmp .eq 12, 3) := by decide +kernel
theorem dX12_condition_14 : decode cX12_condition 14 = .ok (.aload_n 0, 1) := by decide +kernel
theorem dX12_condition_15 : decode cX12_condition 15 = .ok (.iconst 1, 1) := by decide +kernel
theorem dX12_condition_16 : decode cX12_condition 16 = .ok (.aload_n 0, 1) := by decide +kernel
theorem dX12_condition_17 : decode cX12_condition 17 = .ok (.getfield 181, 3) := by decide +kernel
theorem dX12_condition_20 : decode cX12_condition 20 = .ok (.invokevirtual 203, 3) := by decide +kernel
theorem dX12_condition_23 : decode cX12_condition 23 = .ok (.aload_n 0, 1) := by decide +kernel
theorem dX12_condition_24 : decode cX12_condition 24 = .ok (.invokevirtual 190, 3) := by decide +kernel
theorem dX12_condition_27 : decode cX12_condition 27 = .ok (.ifCond .ne 4, 3) := by decide +kernel
theorem dX12_condition_30 : decode cX12_condition 30 = .ok (.return_, 1) := by decide +kernel
theorem dX12_condition_31 : decode cX12_condition 31 = .ok (.aload_n 0, 1) := by decide +kernel
theorem dX12_condition_32 : decode cX12_condition 32 = .ok (.invokevirtual 233, 3) := by decide +kernel
theorem dX12_condition_35 : decode cX12_condition 35 = .ok (.iconst 1, 1) := by decide +kernel
theorem dX12_condition_36 : decode cX12_condition 36 = .ok (.istore_n 1, 1) := by decide +kernel
theorem dX12_condition_37 : decode cX12_condition 37 = .ok (.aload_n 0, 1) := by decide +kernel
theorem dX12_condition_38 : decode cX12_condition 38 = .ok (.invokevirtual 190, 3) := by decide +kernel
theorem dX12_condition_41 : decode cX12_condition 41 = .ok (.ifCond .eq 33, 3) := by decide +kernel
theorem dX12_condition_44 : decode cX12_condition 44 = .ok (.aload_n 0, 1) := by decide +kernel
theorem dX12_condition_45 : decode cX12_condition 45 = .ok (.getfield 268, 3) := by decide +kernel
theorem dX12_condition_48 : decode cX12_condition 48 = .ok (.ifCond .ne 26, 3) := by decide +kernel
theorem dX12_condition_51 : decode cX12_condition 51 = .ok (.iload_n 1, 1) := by decide +kernel
theorem dX12_condition_52 : decode cX12_condition 52 = .ok (.ifCond .eq 7, 3) := by decide +kernel
theorem dX12_condition_55 : decode cX12_condition 55 = .ok (.aload_n 0, 1) := by decide +kernel
theorem dX12_condition_56 : decode cX12_condition 56 = .ok (.invokevirtual 271, 3) := by decide +kernel
theorem dX12_condition_59 : decode cX12_condition 59 = .ok (.aload_n 0, 1) := by decide +kernel
theorem dX12_condition_60 : decode cX12_condition 60 = .ok (.invokevirtual 190, 3) := by decide +kernel
theorem dX12_condition_63 : decode cX12_condition 63 = .ok (.ifCond .eq (-26), 3) := by decide +kernel
theorem dX12_condition_66 : decode cX12_condition 66 = .ok (.aload_n 0, 1) := by decide +kernel
theorem dX12_condition_67 : decode cX12_condition 67 = .ok (.invokevirtual 274, 3) := by decide +kernel
theorem dX12_condition_70 : decode cX12_condition 70 = .ok (.istore_n 1, 1) := by decide +kernel
theorem dX12_condition_71 : decode cX12_condition 71 = .ok (.goto (-34), 3) := by decide +kernel
theorem dX12_condition_74 : decode cX12_condition 74 = .ok (.return_, 1) := by decide +kernel
theorem dX12_clause_0 : decode cX12_clause 0 = .ok (.aload_n 0, 1) := by decide +kernel
theorem dX12_clause_1 : decode cX12_clause 1 = .ok (.invokevirtual 207, 3) := by decide +kernel
theorem dX12_clause_4 : decode cX12_clause 4 = .ok (.bipush 107, 2) := by decide +kernel
theorem dX12_clause_6 : decode cX12_clause 6 = .ok (.if_icmp .eq 15, 3) := by decide +kernel
theorem dX12_clause_9 : decode cX12_clause 9 = .ok (.aload_n 0, 1) := by decide +kernel
theorem dX12_clause_10 : decode cX12_clause 10 = .ok (.iconst 1, 1) := by decide +kernel
theorem dX12_clause_11 : decode cX12_clause 11 = .ok (.aload_n 0, 1) := by decide +kernel
theorem dX12_clause_12 : decode cX12_clause 12 = .ok (.getfield 181, 3) := by decide +kernel
theorem dX12_clause_15 : decode cX12_clause 15 = .ok (.invokevirtual 203, 3) := by decide +kernel
theorem dX12_clause_18 : decode cX12_clause 18 = .ok (.goto 21, 3) := by decide +kernel
theorem dX12_clause_21 : decode cX12_clause 21 = .ok (.aload_n 0, 1) := by decide +kernel
theorem dX12_clause_22 : decode cX12_clause 22 = .ok (.getfield 277, 3) := by decide +kernel
theorem dX12_clause_25 : decode cX12_clause 25 = .ok (.bipush 12, 2) := by decide +kernel
theorem dX12_clause_27 : decode cX12_clause 27 = .ok (.if_icmp .ne 12, 3) := by decide +kernel
theorem dX12_clause_30 : decode cX12_clause 30 = .ok (.aload_n 0, 1) := by decide +kernel
theorem dX12_clause_31 : decode cX12_clause 31 = .ok (.iconst 4, 1) := by decide +kernel
theorem dX12_clause_32 : decode cX12_clause 32 = .ok (.aload_n 0, 1) := by decide +kernel
theorem dX12_clause_33 : decode cX12_clause 33 = .ok (.getfield 181, 3) := by decide +kernel
theorem dX12_clause_36 : decode cX12_clause 36 = .ok (.invokevirtual 203, 3) := by decide +kernel
theorem dX12_clause_39 : decode cX12_clause 39 = .ok (.aload_n 0, 1) := by decide +kernel
theorem dX12_clause_40 : decode cX12_clause 40 = .ok (.invokevirtual 190, 3) := by decide +kernel
theorem dX12_clause_43 : decode cX12_clause 43 = .ok (.ifCond .ne 4, 3) := by decide +kernel
theorem dX12_clause_46 : decode cX12_clause 46 = .ok (.return_, 1) := by decide +kernel
theorem dX12_clause_47 : decode cX12_clause 47 = .ok (.aload_n 0, 1) := by decide +kernel
theorem dX12_clause_48 : decode cX12_clause 48 = .ok (.getfield 60, 3) := by decide +kernel
theorem dX12_clause_51 : decode cX12_clause 51 = .ok (.aload_n 0, 1) := by decide +kernel
theorem dX12_clause_52 : decode cX12_clause 52 = .ok (.getfield 277, 3) := by decide +kernel
theorem dX12_clause_55 : decode cX12_clause 55 = .ok (.aload_n 0, 1) := by decide +kernel
theorem dX12_clause_56 : decode cX12_clause 56 = .ok (.getfield 194, 3) := by decide +kernel
theorem dX12_clause_59 : decode cX12_clause 59 = .ok (.iastore, 1) := by decide +kernel
theorem dX12_clause_60 : decode cX12_clause 60 = .ok (.aload_n 0, 1) := by decide +kernel
theorem dX12_clause_61 : decode cX12_clause 61 = .ok (.dup, 1) := by decide +kernel
theorem dX12_clause_62 : decode cX12_clause 62 = .ok (.getfield 181, 3) := by decide +kernel
theorem dX12_clause_65 : decode cX12_clause 65 = .ok (.iconst 1, 1) := by decide +kernel
theorem dX12_clause_66 : decode cX12_clause 66 = .ok (.iadd, 1) := by decide +kernel
theorem dX12_clause_67 : decode cX12_clause 67 = .ok (.putfield 181, 3) := by decide +kernel
theorem dX12_clause_70 : decode cX12_clause 70 = .ok (.aload_n 0, 1) := by decide +kernel
theorem dX12_clause_71 : decode cX12_clause 71 = .ok (.iconst 0, 1) := by decide +kernel
theorem dX12_clause_72 : decode cX12_clause 72 = .ok (.putfield 197, 3) := by decide +kernel
theorem dX12_clause_75 : decode cX12_clause 75 = .ok (.aload_n 0, 1) := by decide +kernel
theorem dX12_clause_76 : decode cX12_clause 76 = .ok (.iconst 0, 1) := by decide +kernel
theorem dX12_clause_77 : decode cX12_clause 77 = .ok (.putfield 200, 3) := by decide +kernel
theorem dX12_clause_80 : decode cX12_clause 80 = .ok (.aload_n 0, 1) := by decide +kernel
theorem dX12_clause_81 : decode cX12_clause 81 = .ok (.invokevirtual 256, 3) := by decide +kernel
theorem dX12_clause_84 : decode cX12_clause 84 = .ok (.aload_n 0, 1) := by decide +kernel
theorem dX12_clause_85 : decode cX12_clause 85 = .ok (.getfield 63, 3) := by decide +kernel
theorem dX12_clause_88 : decode cX12_clause 88 = .ok (.aload_n 0, 1) := by decide +kernel
theorem dX12_clause_89 : decode cX12_clause 89 = .ok (.getfield 277, 3) := by decide +kernel
theorem dX12_clause_92 : decode cX12_clause 92 = .ok (.aload_n 0, 1) := by decide +kernel
theorem dX12_clause_93 : decode cX12_clause 93 = .ok (.getfield 194, 3) := by decide +kernel
theorem dX12_clause_96 : decode cX12_clause 96 = .ok (.iastore, 1) := by decide +kernel
theorem dX12_clause_97 : decode cX12_clause 97 = .ok (.aload_n 0, 1) := by decide +kernel
theorem dX12_clause_98 : decode cX12_clause 98 = .ok (.invokevirtual 190, 3) := by decide +kernel
theorem dX12_clause_101 : decode cX12_clause 101 = .ok (.ifCond .eq 7, 3) := by decide +kernel
theorem dX12_clause_104 : decode cX12_clause 104 = .ok (.aload_n 0, 1) := by decide +kernel
theorem dX12_clause_105 : decode cX12_clause 105 = .ok (.invokevirtual 280, 3) := by decide +kernel
theorem dX12_clause_108 : decode cX12_clause 108 = .ok (.aload_n 0, 1) := by decide +kernel
theorem dX12_clause_109 : decode cX12_clause 109 = .ok (.getfield 66, 3) := by decide +kernel
theorem dX12_clause_112 : decode cX12_clause 112 = .ok (.aload_n 0, 1) := by decide +kernel
theorem dX12_clause_113 : decode cX12_clause 113 = .ok (.getfield 277, 3) := by decide +kernel
theorem dX12_clause_116 : decode cX12_clause 116 = .ok (.aload_n 0, 1) := by decide +kernel
theorem dX12_clause_117 : decode cX12_clause 117 = .ok (.getfield 194, 3) := by decide +kernel
theorem dX12_clause_120 : decode cX12_clause 120 = .ok (.iastore, 1) := by decide +kernel
theorem dX12_clause_121 : decode cX12_clause 121 = .ok (.aload_n 0, 1) := by decide +kernel
theorem dX12_clause_122 : decode cX12_clause 122 = .ok (.dup, 1) := by decide +kernel
theorem dX12_clause_123 : decode cX12_clause 123 = .ok (.getfield 277, 3) := by decide +kernel
theorem dX12_clause_126 : decode cX12_clause 126 = .ok (.iconst 1, 1) := by decide +kernel
theorem dX12_clause_127 : decode cX12_clause 127 = .ok (.iadd, 1) := by decide +kernel
theorem dX12_clause_128 : decode cX12_clause 128 = .ok (.putfield 277, 3) := by decide +kernel
theorem dX12_clause_131 : decode cX12_clause 131 = .ok (.return_, 1) := by decide +kernel
theorem dX12_begins_0 : decode cX12_begins 0 = .ok (.aload_n 0, 1) := by decide +kernel
theorem dX12_begins_1 : decode cX12_begins 1 = .ok (.iconst 0, 1) := by decide +kernel
theorem dX12_begins_2 : decode cX12_begins 2 = .ok (.putfield 174, 3) := by decide +kernel
theorem dX12_begins_5 : decode cX12_begins 5 = .ok (.aload_n 0, 1) := by decide +kernel
theorem dX12_begins_6 : decode cX12_begins 6 = .ok (.iconst 0, 1) := by decide +kernel
theorem dX12_begins_7 : decode cX12_begins 7 = .ok (.putfield 181, 3) := by decide +kernel
theorem dX12_begins_10 : decode cX12_begins 10 = .ok (.aload_n 0, 1) := by decide +kernel
theorem dX12_begins_11 : decode cX12_begins 11 = .ok (.iload_n 1, 1) := by decide +kernel
theorem dX12_begins_12 : decode cX12_begins 12 = .ok (.putfield 184, 3) := by decide +kernel
theorem dX12_begins_15 : decode cX12_begins 15 = .ok (.aload_n 0, 1) := by decide +kernel
theorem dX12_begins_16 : decode cX12_begins 16 = .ok (.iconst 0, 1) := by decide +kernel
theorem dX12_begins_17 : decode cX12_begins 17 = .ok (.putfield 187, 3) := by decide +kernel
theorem dX12_begins_20 : decode cX12_begins 20 = .ok (.aload_n 0, 1) := by decide +kernel
theorem dX12_begins_21 : decode cX12_begins 21 = .ok (.iconst 0, 1) := by decide +kernel
theorem dX12_begins_22 : decode cX12_begins 22 = .ok (.putfield 197, 3) := by decide +kernel
theorem dX12_begins_25 : decode cX12_begins 25 = .ok (.aload_n 0, 1) := by decide +kernel
theorem dX12_begins_26 : decode cX12_begins 26 = .ok (.iconst 0, 1) := by decide +kernel
theorem dX12_begins_27 : decode cX12_begins 27 = .ok (.putfield 200, 3) := by decide +kernel
theorem dX12_begins_30 : decode cX12_begins 30 = .ok (.return_, 1) := by decide +kernel
theorem dX12_near_0 : decode cX12_near 0 = .ok (.iload_n 1, 1) := by decide +kernel
theorem dX12_near_1 : decode cX12_near 1 = .ok (.i2l, 1) := by decide +kernel
theorem dX12_near_2 : decode cX12_near 2 = .ok (.lconst 1, 1) := by decide +kernel
theorem dX12_near_3 : decode cX12_near 3 = .ok (.ldc2_w 283, 3) := by decide +kernel
theorem dX12_near_6 : decode cX12_near 6 = .ok (.invokestatic 138, 3) := by decide +kernel
theorem dX12_near_9 : decode cX12_near 9 = .ok (.ifCond .eq 11, 3) := by decide +kernel
theorem dX12_near_12 : decode cX12_near 12 = .ok (.iload_n 1, 1) := by decide +kernel
theorem dX12_near_13 : decode cX12_near 13 = .ok (.aload_n 0, 1) := by decide +kernel
theorem dX12_near_14 : decode cX12_near 14 = .ok (.getfield 174, 3) := by decide +kernel
theorem dX12_near_17 : decode cX12_near 17 = .ok (.if_icmp .le 5, 3) := by decide +kernel
theorem dX12_near_20 : decode cX12_near 20 = .ok (.iconst (-1), 1) := by decide +kernel
theorem dX12_near_21 : decode cX12_near 21 = .ok (.ireturn, 1) := by decide +kernel
theorem dX12_near_22 : decode cX12_near 22 = .ok (.aload_n 0, 1) := by decide +kernel
theorem dX12_near_23 : decode cX12_near 23 = .ok (.iload_n 1, 1) := by decide +kernel
theorem dX12_near_24 : decode cX12_near 24 = .ok (.invokevirtual 285, 3) := by decide +kernel
theorem dX12_near_27 : decode cX12_near 27 = .ok (.aload_n 0, 1) := by decide +kernel
theorem dX12_near_28 : decode cX12_near 28 = .ok (.iconst 0, 1) := by decide +kernel
theorem dX12_near_29 : decode cX12_near 29 = .ok (.putfield 277, 3) := by decide +kernel
theorem dX12_near_32 : decode cX12_near 32 = .ok (.aload_n 0, 1) := by decide +kernel
theorem dX12_near_33 : decode cX12_near 33 = .ok (.iconst 0, 1) := by decide +kernel
theorem dX12_near_34 : decode cX12_near 34 = .ok (.putfield 194, 3) := by decide +kernel
theorem dX12_near_37 : decode cX12_near 37 = .ok (.iconst 1, 1) := by decide +kernel
theorem dX12_near_38 : decode cX12_near 38 = .ok (.istore_n 2, 1) := by decide +kernel
theorem dX12_near_39 : decode cX12_near 39 = .ok (.iload_n 2, 1) := by decide +kernel
theorem dX12_near_40 : decode cX12_near 40 = .ok (.ifCond .eq 73, 3) := by decide +kernel
theorem dX12_near_43 : decode cX12_near 43 = .ok (.aload_n 0, 1) := by decide +kernel
theorem dX12_near_44 : decode cX12_near 44 = .ok (.invokevirtual 190, 3) := by decide +kernel
theorem dX12_near_47 : decode cX12_near 47 = .ok (.ifCond .eq 66, 3) := by decide +kernel
theorem dX12_near_50 : decode cX12_near 50 = .ok (.aload_n 0, 1) := by decide +kernel
theorem dX12_near_51 : decode cX12_near 51 = .ok (.invokevirtual 288, 3) := by decide +kernel
theorem dX12_near_54 : decode cX12_near 54 = .ok (.aload_n 0, 1) := by decide +kernel
theorem dX12_near_55 : decode cX12_near 55 = .ok (.invokevirtual 190, 3) := by decide +kernel
theorem dX12_near_58 : decode cX12_near 58 = .ok (.ifCond .eq 18, 3) := by decide +kernel
theorem dX12_near_61 : decode cX12_near 61 = .ok (.aload_n 0, 1) := by decide +kernel
theorem dX12_near_62 : decode cX12_near 62 = .ok (.getfield 181, 3) := by decide +kernel
theorem dX12_near_65 : decode cX12_near 65 = .ok (.aload_n 0, 1) := by decide +kernel
theorem dX12_near_66 : decode cX12_near 66 = .ok (.getfield 184, 3) := by decide +kernel
theorem dX12_near_69 : decode cX12_near 69 = .ok (.if_icmp .ge 7, 3) := by decide +kernel
theorem dX12_near_72 : decode cX12_near 72 = .ok (.iconst 1, 1) := by decide +kernel
theorem dX12_near_73 : decode cX12_near 73 = .ok (.goto 4, 3) := by decide +kernel
theorem dX12_near_76 : decode cX12_near 76 = .ok (.iconst 0, 1) := by decide +kernel
theorem dX12_near_77 : decode cX12_near 77 = .ok (.istore_n 2, 1) := by decide +kernel
theorem dX12_near_78 : decode cX12_near 78 = .ok (.iload_n 2, 1) := by decide +kernel
theorem dX12_near_79 : decode cX12_near 79 = .ok (.ifCond .eq (-40), 3) := by decide +kernel
theorem dX12_near_82 : decode cX12_near 82 = .ok (.aload_n 0, 1) := by decide +kernel
theorem dX12_near_83 : decode cX12_near 83 = .ok (.invokevirtual 207, 3) := by decide +kernel
theorem dX12_near_86 : decode cX12_near 86 = .ok (.bipush 59, 2) := by decide +kernel
theorem dX12_near_88 : decode cX12_near 88 = .ok (.if_icmp .eq 12, 3) := by decide +kernel
theorem dX12_near_91 : decode cX12_near 91 = .ok (.aload_n 0, 1) := by decide +kernel
theorem dX12_near_92 : decode cX12_near 92 = .ok (.iconst 1, 1) := by decide +kernel
theorem dX12_near_93 : decode cX12_near 93 = .ok (.aload_n 0, 1) := by decide +kernel
theorem dX12_near_94 : decode cX12_near 94 = .ok (.getfield 181, 3) := by decide +kernel
theorem dX12_near_97 : decode cX12_near 97 = .ok (.invokevirtual 203, 3) := by decide +kernel
theorem dX12_near_100 : decode cX12_near 100 = .ok (.aload_n 0, 1) := by decide +kernel
theorem dX12_near_101 : decode cX12_near 101 = .ok (.dup, 1) := by decide +kernel
theorem dX12_near_102 : decode cX12_near 102 = .ok (.getfield 181, 3) := by decide +kernel
theorem dX12_near_105 : decode cX12_near 105 = .ok (.iconst 1, 1) := by decide +kernel
theorem dX12_near_106 : decode cX12_near 106 = .ok (.iadd, 1) := by decide +kernel
theorem dX12_near_107 : decode cX12_near 107 = .ok (.putfield 181, 3) := by decide +kernel
theorem dX12_near_110 : decode cX12_near 110 = .ok (.goto (-71), 3) := by decide +kernel
theorem dX12_near_113 : decode cX12_near 113 = .ok (.aload_n 0, 1) := by decide +kernel
theorem dX12_near_114 : decode cX12_near 114 = .ok (.getfield 187, 3) := by decide +kernel
theorem dX12_near_117 : decode cX12_near 117 = .ok (.ifCond .ge 8, 3) := by decide +kernel
theorem dX12_near_120 : decode cX12_near 120 = .ok (.aload_n 0, 1) := by decide +kernel
theorem dX12_near_121 : decode cX12_near 121 = .ok (.getfield 187, 3) := by decide +kernel
theorem dX12_near_124 : decode cX12_near 124 = .ok (.ireturn, 1) := by decide +kernel
theorem dX12_near_125 : decode cX12_near 125 = .ok (.iconst 0, 1) := by decide +kernel
theorem dX12_near_126 : decode cX12_near 126 = .ok (.istore_n 3, 1) := by decide +kernel
theorem dX12_near_127 : decode cX12_near 127 = .ok (.iload_n 3, 1) := by decide +kernel
theorem dX12_near_128 : decode cX12_near 128 = .ok (.aload_n 0, 1) := by decide +kernel
theorem dX12_near_129 : decode cX12_near 129 = .ok (.getfield 277, 3) := by decide +kernel
theorem dX12_near_132 : decode cX12_near 132 = .ok (.if_icmp .ge 45, 3) := by decide +kernel
theorem dX12_near_135 : decode cX12_near 135 = .ok (.aload_n 0, 1) := by decide +kernel
theorem dX12_near_136 : decode cX12_near 136 = .ok (.getfield 45, 3) := by decide +kernel
theorem dX12_near_139 : decode cX12_near 139 = .ok (.iload_n 3, 1) := by decide +kernel
theorem dX12_near_140 : decode cX12_near 140 = .ok (.aload_n 0, 1) := by decide +kernel
theorem dX12_near_141 : decode cX12_near 141 = .ok (.getfield 60, 3) := by decide +kernel
theorem dX12_near_144 : decode cX12_near 144 = .ok (.iload_n 3, 1) := by decide +kernel
theorem dX12_near_145 : decode cX12_near 145 = .ok (.iaload, 1) := by decide +kernel
theorem dX12_near_146 : decode cX12_near 146 = .ok (.iastore, 1) := by decide +kernel
theorem dX12_near_147 : decode cX12_near 147 = .ok (.aload_n 0, 1) := by decide +kernel
theorem dX12_near_148 : decode cX12_near 148 = .ok (.getfield 48, 3) := by decide +kernel
theorem dX12_near_151 : decode cX12_near 151 = .ok (.iload_n 3, 1) := by decide +kernel
theorem dX12_near_152 : decode cX12_near 152 = .ok (.aload_n 0, 1) := by decide +kernel
theorem dX12_near_153 : decode cX12_near 153 = .ok (.getfield 63, 3) := by decide +kernel
theorem dX12_near_156 : decode cX12_near 156 = .ok (.iload_n 3, 1) := by decide +kernel
theorem dX12_near_157 : decode cX12_near 157 = .ok (.iaload, 1) := by decide +kernel
theorem dX12_near_158 : decode cX12_near 158 = .ok (.iastore, 1) := by decide +kernel
theorem dX12_near_159 : decode cX12_near 159 = .ok (.aload_n 0, 1) := by decide +kernel
theorem dX12_near_160 : decode cX12_near 160 = .ok (.getfield 51, 3) := by decide +kernel
theorem dX12_near_163 : decode cX12_near 163 = .ok (.iload_n 3, 1) := by decide +kernel
theorem dX12_near_164 : decode cX12_near 164 = .ok (.aload_n 0, 1) := by decide +kernel
theorem dX12_near_165 : decode cX12_near 165 = .ok (.getfield 66, 3) := by decide +kernel
theorem dX12_near_168 : decode cX12_near 168 = .ok (.iload_n 3, 1) := by decide +kernel
theorem dX12_near_169 : decode cX12_near 169 = .ok (.iaload, 1) := by decide +kernel
theorem dX12_near_170 : decode cX12_near 170 = .ok (.iastore, 1) := by decide +kernel
theorem dX12_near_171 : decode cX12_near 171 = .ok (.iinc 3 1, 3) := by decide +kernel
theorem dX12_near_174 : decode cX12_near 174 = .ok (.goto (-47), 3) := by decide +kernel
theorem dX12_near_177 : decode cX12_near 177 = .ok (.iconst 0, 1) := by decide +kernel
theorem dX12_near_178 : decode cX12_near 178 = .ok (.istore_n 3, 1) := by decide +kernel
theorem dX12_near_179 : decode cX12_near 179 = .ok (.iload_n 3, 1) := by decide +kernel
theorem dX12_near_180 : decode cX12_near 180 = .ok (.aload_n 0, 1) := by decide +kernel
theorem dX12_near_181 : decode cX12_near 181 = .ok (.getfield 194, 3) := by decide +kernel
theorem dX12_near_184 : decode cX12_near 184 = .ok (.if_icmp .ge 33, 3) := by decide +kernel
theorem dX12_near_187 : decode cX12_near 187 = .ok (.aload_n 0, 1) := by decide +kernel
theorem dX12_near_188 : decode cX12_near 188 = .ok (.getfield 54, 3) := by decide +kernel
theorem dX12_near_191 : decode cX12_near 191 = .ok (.iload_n 3, 1) := by decide +kernel
theorem dX12_near_192 : decode cX12_near 192 = .ok (.aload_n 0, 1) := by decide +kernel
theorem dX12_near_193 : decode cX12_near 193 = .ok (.getfield 69, 3) := by decide +kernel
theorem dX12_near_196 : decode cX12_near 196 = .ok (.iload_n 3, 1) := by decide +kernel
theorem dX12_near_197 : decode cX12_near 197 = .ok (.iaload, 1) := by decide +kernel
theorem dX12_near_198 : decode cX12_near 198 = .ok (.iastore, 1) := by decide +kernel
theorem dX12_near_199 : decode cX12_near 199 = .ok (.aload_n 0, 1) := by decide +kernel
theorem dX12_near_200 : decode cX12_near 200 = .ok (.getfield 57, 3) := by decide +kernel
theorem dX12_near_203 : decode cX12_near 203 = .ok (.iload_n 3, 1) := by decide +kernel
theorem dX12_near_204 : decode cX12_near 204 = .ok (.aload_n 0, 1) := by decide +kernel
theorem dX12_near_205 : decode cX12_near 205 = .ok (.getfield 72, 3) := by decide +kernel
theorem dX12_near_208 : decode cX12_near 208 = .ok (.iload_n 3, 1) := by decide +kernel
theorem dX12_near_209 : decode cX12_near 209 = .ok (.iaload, 1) := by decide +kernel
theorem dX12_near_210 : decode cX12_near 210 = .ok (.iastore, 1) := by decide +kernel
theorem dX12_near_211 : decode cX12_near 211 = .ok (.iinc 3 1, 3) := by decide +kernel
theorem dX12_near_214 : decode cX12_near 214 = .ok (.goto (-35), 3) := by decide +kernel
theorem dX12_near_217 : decode cX12_near 217 = .ok (.aload_n 0, 1) := by decide +kernel
theorem dX12_near_218 : decode cX12_near 218 = .ok (.aload_n 0, 1) := by decide +kernel
theorem dX12_near_219 : decode cX12_near 219 = .ok (.getfield 277, 3) := by decide +kernel
theorem dX12_near_222 : decode cX12_near 222 = .ok (.putfield 291, 3) := by decide +kernel
theorem dX12_near_225 : decode cX12_near 225 = .ok (.aload_n 0, 1) := by decide +kernel
theorem dX12_near_226 : decode cX12_near 226 = .ok (.invokevirtual 159, 3) := by decide +kernel
theorem dX12_near_229 : decode cX12_near 229 = .ok (.aload_n 0, 1) := by decide +kernel
theorem dX12_near_230 : decode cX12_near 230 = .ok (.getfield 291, 3) := by decide +kernel
theorem dX12_near_233 : decode cX12_near 233 = .ok (.ireturn, 1) := by decide +kernel
theorem dX12_valueOf_0 : decode cX12_valueOf 0 = .ok (.iload_n 1, 1) := by decide +kernel
theorem dX12_valueOf_1 : decode cX12_valueOf 1 = .ok (.tableswitch 184 97 121 #[174, 131, 179, 184, 184, 184, 184, 184, 184, 184, 184, 184, 184, 184, 184, 184, 184, 184, 123, 184, 184, 184, 115, 144, 159], 115) := by decide +kernel
theorem dX12_valueOf_116 : decode cX12_valueOf 116 = .ok (.aload_n 0, 1) := by decide +kernel
theorem dX12_valueOf_117 : decode cX12_valueOf 117 = .ok (.getfield 294, 3) := by decide +kernel
theorem dX12_valueOf_120 : decode cX12_valueOf 120 = .ok (.invokestatic 297, 3) := by decide +kernel
theorem dX12_valueOf_123 : decode cX12_valueOf 123 = .ok (.ireturn, 1) := by decide +kernel
theorem dX12_valueOf_124 : decode cX12_valueOf 124 = .ok (.aload_n 0, 1) := by decide +kernel
theorem dX12_valueOf_125 : decode cX12_valueOf 125 = .ok (.getfield 301, 3) := by decide +kernel
theorem dX12_valueOf_128 : decode cX12_valueOf 128 = .ok (.invokestatic 297, 3) := by decide +kernel
theorem dX12_valueOf_131 : decode cX12_valueOf 131 = .ok (.ireturn, 1) := by decide +kernel
theorem dX12_valueOf_132 : decode cX12_valueOf 132 = .ok (.aload_n 0, 1) := by decide +kernel
theorem dX12_valueOf_133 : decode cX12_valueOf 133 = .ok (.getfield 294, 3) := by decide +kernel
theorem dX12_valueOf_136 : decode cX12_valueOf 136 = .ok (.aload_n 0, 1) := by decide +kernel
theorem dX12_valueOf_137 : decode cX12_valueOf 137 = .ok (.getfield 301, 3) := by decide +kernel
theorem dX12_valueOf_140 : decode cX12_valueOf 140 = .ok (.iand, 1) := by decide +kernel
theorem dX12_valueOf_141 : decode cX12_valueOf 141 = .ok (.invokestatic 297, 3) := by decide +kernel
theorem dX12_valueOf_144 : decode cX12_valueOf 144 = .ok (.ireturn, 1) := by decide +kernel
theorem dX12_valueOf_145 : decode cX12_valueOf 145 = .ok (.aload_n 0, 1) := by decide +kernel
theorem dX12_valueOf_146 : decode cX12_valueOf 146 = .ok (.getfield 301, 3) := by decide +kernel
theorem dX12_valueOf_149 : decode cX12_valueOf 149 = .ok (.aload_n 0, 1) := by decide +kernel
theorem dX12_valueOf_150 : decode cX12_valueOf 150 = .ok (.getfield 294, 3) := by decide +kernel
theorem dX12_valueOf_153 : decode cX12_valueOf 153 = .ok (.iconst (-1), 1) := by decide +kernel
theorem dX12_valueOf_154 : decode cX12_valueOf 154 = .ok (.ixor, 1) := by decide +kernel
theorem dX12_valueOf_155 : decode cX12_valueOf 155 = .ok (.iand, 1) := by decide +kernel
theorem dX12_valueOf_156 : decode cX12_valueOf 156 = .ok (.invokestatic 297, 3) := by decide +kernel
theorem dX12_valueOf_159 : decode cX12_valueOf 159 = .ok (.ireturn, 1) := by decide +kernel
theorem dX12_valueOf_160 : decode cX12_valueOf 160 = .ok (.aload_n 0, 1) := by decide +kernel
theorem dX12_valueOf_161 : decode cX12_valueOf 161 = .ok (.getfield 294, 3) := by decide +kernel
theorem dX12_valueOf_164 : decode cX12_valueOf 164 = .ok (.aload_n 0, 1) := by decide +kernel
theorem dX12_valueOf_165 : decode cX12_valueOf 165 = .ok (.getfield 301, 3) := by decide +kernel
theorem dX12_valueOf_168 : decode cX12_valueOf 168 = .ok (.iconst (-1), 1) := by decide +kernel
theorem dX12_valueOf_169 : decode cX12_valueOf 169 = .ok (.ixor, 1) := by decide +kernel
theorem dX12_valueOf_170 : decode cX12_valueOf 170 = .ok (.iand, 1) := by decide +kernel
theorem dX12_valueOf_171 : decode cX12_valueOf 171 = .ok (.invokestatic 297, 3) := by decide +kernel
theorem dX12_valueOf_174 : decode cX12_valueOf 174 = .ok (.ireturn, 1) := by decide +kernel
theorem dX12_valueOf_175 : decode cX12_valueOf 175 = .ok (.aload_n 0, 1) := by decide +kernel
theorem dX12_valueOf_176 : decode cX12_valueOf 176 = .ok (.getfield 294, 3) := by decide +kernel
theorem dX12_valueOf_179 : decode cX12_valueOf 179 = .ok (.ireturn, 1) := by decide +kernel
theorem dX12_valueOf_180 : decode cX12_valueOf 180 = .ok (.aload_n 0, 1) := by decide +kernel
theorem dX12_valueOf_181 : decode cX12_valueOf 181 = .ok (.getfield 301, 3) := by decide +kernel
theorem dX12_valueOf_184 : decode cX12_valueOf 184 = .ok (.ireturn, 1) := by decide +kernel
theorem dX12_valueOf_185 : decode cX12_valueOf 185 = .ok (.aload_n 0, 1) := by decide +kernel
theorem dX12_valueOf_186 : decode cX12_valueOf 186 = .ok (.getfield 304, 3) := by decide +kernel
theorem dX12_valueOf_189 : decode cX12_valueOf 189 = .ok (.ireturn, 1) := by decide +kernel
theorem dX12_worked_0 : decode cX12_worked 0 = .ok (.iload_n 0, 1) := by decide +kernel
theorem dX12_worked_1 : decode cX12_worked 1 = .ok (.lookupswitch 125 #[(37, 91), (42, 75), (43, 67), (45, 71), (47, 79), (60, 103), (62, 114)], 67) := by decide +kernel
theorem dX12_worked_68 : decode cX12_worked 68 = .ok (.iload_n 1, 1) := by decide +kernel
theorem dX12_worked_69 : decode cX12_worked 69 = .ok (.iload_n 2, 1) := by decide +kernel
theorem dX12_worked_70 : decode cX12_worked 70 = .ok (.iadd, 1) := by decide +kernel
theorem dX12_worked_71 : decode cX12_worked 71 = .ok (.ireturn, 1) := by decide +kernel
theorem dX12_worked_72 : decode cX12_worked 72 = .ok (.iload_n 1, 1) := by decide +kernel
theorem dX12_worked_73 : decode cX12_worked 73 = .ok (.iload_n 2, 1) := by decide +kernel
theorem dX12_worked_74 : decode cX12_worked 74 = .ok (.isub, 1) := by decide +kernel
theorem dX12_worked_75 : decode cX12_worked 75 = .ok (.ireturn, 1) := by decide +kernel
theorem dX12_worked_76 : decode cX12_worked 76 = .ok (.iload_n 1, 1) := by decide +kernel
theorem dX12_worked_77 : decode cX12_worked 77 = .ok (.iload_n 2, 1) := by decide +kernel
theorem dX12_worked_78 : decode cX12_worked 78 = .ok (.imul, 1) := by decide +kernel
theorem dX12_worked_79 : decode cX12_worked 79 = .ok (.ireturn, 1) := by decide +kernel
theorem dX12_worked_80 : decode cX12_worked 80 = .ok (.iload_n 2, 1) := by decide +kernel
theorem dX12_worked_81 : decode cX12_worked 81 = .ok (.ifCond .ne 7, 3) := by decide +kernel
theorem dX12_worked_84 : decode cX12_worked 84 = .ok (.iconst 0, 1) := by decide +kernel
theorem dX12_worked_85 : decode cX12_worked 85 = .ok (.goto 6, 3) := by decide +kernel
theorem dX12_worked_88 : decode cX12_worked 88 = .ok (.iload_n 1, 1) := by decide +kernel
theorem dX12_worked_89 : decode cX12_worked 89 = .ok (.iload_n 2, 1) := by decide +kernel
theorem dX12_worked_90 : decode cX12_worked 90 = .ok (.idiv, 1) := by decide +kernel
theorem dX12_worked_91 : decode cX12_worked 91 = .ok (.ireturn, 1) := by decide +kernel
theorem dX12_worked_92 : decode cX12_worked 92 = .ok (.iload_n 2, 1) := by decide +kernel
theorem dX12_worked_93 : decode cX12_worked 93 = .ok (.ifCond .ne 7, 3) := by decide +kernel
theorem dX12_worked_96 : decode cX12_worked 96 = .ok (.iconst 0, 1) := by decide +kernel
theorem dX12_worked_97 : decode cX12_worked 97 = .ok (.goto 6, 3) := by decide +kernel
theorem dX12_worked_100 : decode cX12_worked 100 = .ok (.iload_n 1, 1) := by decide +kernel
theorem dX12_worked_101 : decode cX12_worked 101 = .ok (.iload_n 2, 1) := by decide +kernel
theorem dX12_worked_102 : decode cX12_worked 102 = .ok (.irem, 1) := by decide +kernel
theorem dX12_worked_103 : decode cX12_worked 103 = .ok (.ireturn, 1) := by decide +kernel
theorem dX12_worked_104 : decode cX12_worked 104 = .ok (.iload_n 1, 1) := by decide +kernel
theorem dX12_worked_105 : decode cX12_worked 105 = .ok (.iload_n 2, 1) := by decide +kernel
theorem dX12_worked_106 : decode cX12_worked 106 = .ok (.if_icmp .ge 7, 3) := by decide +kernel
theorem dX12_worked_109 : decode cX12_worked 109 = .ok (.iconst 1, 1) := by decide +kernel
theorem dX12_worked_110 : decode cX12_worked 110 = .ok (.goto 4, 3) := by decide +kernel
theorem dX12_worked_113 : decode cX12_worked 113 = .ok (.iconst 0, 1) := by decide +kernel
theorem dX12_worked_114 : decode cX12_worked 114 = .ok (.ireturn, 1) := by decide +kernel
theorem dX12_worked_115 : decode cX12_worked 115 = .ok (.iload_n 1, 1) := by decide +kernel
theorem dX12_worked_116 : decode cX12_worked 116 = .ok (.iload_n 2, 1) := by decide +kernel
theorem dX12_worked_117 : decode cX12_worked 117 = .ok (.if_icmp .le 7, 3) := by decide +kernel
theorem dX12_worked_120 : decode cX12_worked 120 = .ok (.iconst 1, 1) := by decide +kernel
theorem dX12_worked_121 : decode cX12_worked 121 = .ok (.goto 4, 3) := by decide +kernel
theorem dX12_worked_124 : decode cX12_worked 124 = .ok (.iconst 0, 1) := by decide +kernel
theorem dX12_worked_125 : decode cX12_worked 125 = .ok (.ireturn, 1) := by decide +kernel
theorem dX12_worked_126 : decode cX12_worked 126 = .ok (.iload_n 1, 1) := by decide +kernel
theorem dX12_worked_127 : decode cX12_worked 127 = .ok (.iload_n 2, 1) := by decide +kernel
theorem dX12_worked_128 : decode cX12_worked 128 = .ok (.if_icmp .ne 7, 3) := by decide +kernel
theorem dX12_worked_131 : decode cX12_worked 131 = .ok (.iconst 1, 1) := by decide +kernel
theorem dX12_worked_132 : decode cX12_worked 132 = .ok (.goto 4, 3) := by decide +kernel
theorem dX12_worked_135 : decode cX12_worked 135 = .ok (.iconst 0, 1) := by decide +kernel
theorem dX12_worked_136 : decode cX12_worked 136 = .ok (.ireturn, 1) := by decide +kernel
theorem dX12_does_0 : decode cX12_does 0 = .ok (.iload_n 2, 1) := by decide +kernel
theorem dX12_does_1 : decode cX12_does 1 = .ok (.iconst 1, 1) := by decide +kernel
theorem dX12_does_2 : decode cX12_does 2 = .ok (.iadd, 1) := by decide +kernel
theorem dX12_does_3 : decode cX12_does 3 = .ok (.istore_n 3, 1) := by decide +kernel
theorem dX12_does_4 : decode cX12_does 4 = .ok (.iload_n 1, 1) := by decide +kernel
theorem dX12_does_5 : decode cX12_does 5 = .ok (.bipush 38, 2) := by decide +kernel
theorem dX12_does_7 : decode cX12_does 7 = .ok (.if_icmp .eq 9, 3) := by decide +kernel
theorem dX12_does_10 : decode cX12_does 10 = .ok (.iload_n 1, 1) := by decide +kernel
theorem dX12_does_11 : decode cX12_does 11 = .ok (.bipush 124, 2) := by decide +kernel
theorem dX12_does_13 : decode cX12_does 13 = .ok (.if_icmp .ne 58, 3) := by decide +kernel
theorem dX12_does_16 : decode cX12_does 16 = .ok (.aload_n 0, 1) := by decide +kernel
theorem dX12_does_17 : decode cX12_does 17 = .ok (.getfield 81, 3) := by decide +kernel
theorem dX12_does_20 : decode cX12_does 20 = .ok (.iload_n 2, 1) := by decide +kernel
theorem dX12_does_21 : decode cX12_does 21 = .ok (.baload, 1) := by decide +kernel
theorem dX12_does_22 : decode cX12_does 22 = .ok (.ifCond .ne 23, 3) := by decide +kernel
theorem dX12_does_25 : decode cX12_does 25 = .ok (.aload_n 0, 1) := by decide +kernel
theorem dX12_does_26 : decode cX12_does 26 = .ok (.getfield 78, 3) := by decide +kernel
theorem dX12_does_29 : decode cX12_does 29 = .ok (.iload_n 2, 1) := by decide +kernel
theorem dX12_does_30 : decode cX12_does 30 = .ok (.iaload, 1) := by decide +kernel
theorem dX12_does_31 : decode cX12_does 31 = .ok (.iload_n 1, 1) := by decide +kernel
theorem dX12_does_32 : decode cX12_does 32 = .ok (.bipush 38, 2) := by decide +kernel
theorem dX12_does_34 : decode cX12_does 34 = .ok (.if_icmp .ne 7, 3) := by decide +kernel
theorem dX12_does_37 : decode cX12_does 37 = .ok (.iconst 1, 1) := by decide +kernel
theorem dX12_does_38 : decode cX12_does 38 = .ok (.goto 4, 3) := by decide +kernel
theorem dX12_does_41 : decode cX12_does 41 = .ok (.iconst 0, 1) := by decide +kernel
theorem dX12_does_42 : decode cX12_does 42 = .ok (.if_icmp .eq 4, 3) := by decide +kernel
theorem dX12_does_45 : decode cX12_does 45 = .ok (.return_, 1) := by decide +kernel
theorem dX12_does_46 : decode cX12_does 46 = .ok (.aload_n 0, 1) := by decide +kernel
theorem dX12_does_47 : decode cX12_does 47 = .ok (.getfield 78, 3) := by decide +kernel
theorem dX12_does_50 : decode cX12_does 50 = .ok (.iload_n 2, 1) := by decide +kernel
theorem dX12_does_51 : decode cX12_does 51 = .ok (.aload_n 0, 1) := by decide +kernel
theorem dX12_does_52 : decode cX12_does 52 = .ok (.getfield 78, 3) := by decide +kernel
theorem dX12_does_55 : decode cX12_does 55 = .ok (.iload_n 3, 1) := by decide +kernel
theorem dX12_does_56 : decode cX12_does 56 = .ok (.iaload, 1) := by decide +kernel
theorem dX12_does_57 : decode cX12_does 57 = .ok (.iastore, 1) := by decide +kernel
theorem dX12_does_58 : decode cX12_does 58 = .ok (.aload_n 0, 1) := by decide +kernel
theorem dX12_does_59 : decode cX12_does 59 = .ok (.getfield 81, 3) := by decide +kernel
theorem dX12_does_62 : decode cX12_does 62 = .ok (.iload_n 2, 1) := by decide +kernel
theorem dX12_does_63 : decode cX12_does 63 = .ok (.aload_n 0, 1) := by decide +kernel
theorem dX12_does_64 : decode cX12_does 64 = .ok (.getfield 81, 3) := by decide +kernel
theorem dX12_does_67 : decode cX12_does 67 = .ok (.iload_n 3, 1) := by decide +kernel
theorem dX12_does_68 : decode cX12_does 68 = .ok (.baload, 1) := by decide +kernel
theorem dX12_does_69 : decode cX12_does 69 = .ok (.bastore, 1) := by decide +kernel
theorem dX12_does_70 : decode cX12_does 70 = .ok (.return_, 1) := by decide +kernel
theorem dX12_does_71 : decode cX12_does 71 = .ok (.aload_n 0, 1) := by decide +kernel
theorem dX12_does_72 : decode cX12_does 72 = .ok (.getfield 81, 3) := by decide +kernel
theorem dX12_does_75 : decode cX12_does 75 = .ok (.iload_n 2, 1) := by decide +kernel
theorem dX12_does_76 : decode cX12_does 76 = .ok (.aload_n 0, 1) := by decide +kernel
theorem dX12_does_77 : decode cX12_does 77 = .ok (.getfield 81, 3) := by decide +kernel
theorem dX12_does_80 : decode cX12_does 80 = .ok (.iload_n 2, 1) := by decide +kernel
theorem dX12_does_81 : decode cX12_does 81 = .ok (.baload, 1) := by decide +kernel
theorem dX12_does_82 : decode cX12_does 82 = .ok (.ifCond .ne 33, 3) := by decide +kernel
theorem dX12_does_85 : decode cX12_does 85 = .ok (.aload_n 0, 1) := by decide +kernel
theorem dX12_does_86 : decode cX12_does 86 = .ok (.getfield 81, 3) := by decide +kernel
theorem dX12_does_89 : decode cX12_does 89 = .ok (.iload_n 3, 1) := by decide +kernel
theorem dX12_does_90 : decode cX12_does 90 = .ok (.baload, 1) := by decide +kernel
theorem dX12_does_91 : decode cX12_does 91 = .ok (.ifCond .ne 24, 3) := by decide +kernel
theorem dX12_does_94 : decode cX12_does 94 = .ok (.iload_n 1, 1) := by decide +kernel
theorem dX12_does_95 : decode cX12_does 95 = .ok (.bipush 47, 2) := by decide +kernel
theorem dX12_does_97 : decode cX12_does 97 = .ok (.if_icmp .eq 9, 3) := by decide +kernel
theorem dX12_does_100 : decode cX12_does 100 = .ok (.iload_n 1, 1) := by decide +kernel
theorem dX12_does_101 : decode cX12_does 101 = .ok (.bipush 37, 2) := by decide +kernel
theorem dX12_does_103 : decode cX12_does 103 = .ok (.if_icmp .ne 16, 3) := by decide +kernel
theorem dX12_does_106 : decode cX12_does 106 = .ok (.aload_n 0, 1) := by decide +kernel
theorem dX12_does_107 : decode cX12_does 107 = .ok (.getfield 78, 3) := by decide +kernel
theorem dX12_does_110 : decode cX12_does 110 = .ok (.iload_n 3, 1) := by decide +kernel
theorem dX12_does_111 : decode cX12_does 111 = .ok (.iaload, 1) := by decide +kernel
theorem dX12_does_112 : decode cX12_does 112 = .ok (.ifCond .ne 7, 3) := by decide +kernel
theorem dX12_does_115 : decode cX12_does 115 = .ok (.iconst 1, 1) := by decide +kernel
theorem dX12_does_116 : decode cX12_does 116 = .ok (.goto 4, 3) := by decide +kernel
theorem dX12_does_119 : decode cX12_does 119 = .ok (.iconst 0, 1) := by decide +kernel
theorem dX12_does_120 : decode cX12_does 120 = .ok (.bastore, 1) := by decide +kernel
theorem dX12_does_121 : decode cX12_does 121 = .ok (.aload_n 0, 1) := by decide +kernel
theorem dX12_does_122 : decode cX12_does 122 = .ok (.getfield 78, 3) := by decide +kernel
theorem dX12_does_125 : decode cX12_does 125 = .ok (.iload_n 2, 1) := by decide +kernel
theorem dX12_does_126 : decode cX12_does 126 = .ok (.iload_n 1, 1) := by decide +kernel
theorem dX12_does_127 : decode cX12_does 127 = .ok (.aload_n 0, 1) := by decide +kernel
theorem dX12_does_128 : decode cX12_does 128 = .ok (.getfield 78, 3) := by decide +kernel
theorem dX12_does_131 : decode cX12_does 131 = .ok (.iload_n 2, 1) := by decide +kernel
theorem dX12_does_132 : decode cX12_does 132 = .ok (.iaload, 1) := by decide +kernel
theorem dX12_does_133 : decode cX12_does 133 = .ok (.aload_n 0, 1) := by decide +kernel
theorem dX12_does_134 : decode cX12_does 134 = .ok (.getfield 78, 3) := by decide +kernel
theorem dX12_does_137 : decode cX12_does 137 = .ok (.iload_n 3, 1) := by decide +kernel
theorem dX12_does_138 : decode cX12_does 138 = .ok (.iaload, 1) := by decide +kernel
theorem dX12_does_139 : decode cX12_does 139 = .ok (.invokestatic 307, 3) := by decide +kernel
theorem dX12_does_142 : decode cX12_does 142 = .ok (.iastore, 1) := by decide +kernel
theorem dX12_does_143 : decode cX12_does 143 = .ok (.return_, 1) := by decide +kernel
theorem dX12_works_0 : decode cX12_works 0 = .ok (.iconst 0, 1) := by decide +kernel
theorem dX12_works_1 : decode cX12_works 1 = .ok (.istore_n 3, 1) := by decide +kernel
theorem dX12_works_2 : decode cX12_works 2 = .ok (.iload_n 1, 1) := by decide +kernel
theorem dX12_works_3 : decode cX12_works 3 = .ok (.istore 4, 2) := by decide +kernel
theorem dX12_works_5 : decode cX12_works 5 = .ok (.iload 4, 2) := by decide +kernel
theorem dX12_works_7 : decode cX12_works 7 = .ok (.iload_n 2, 1) := by decide +kernel
theorem dX12_works_8 : decode cX12_works 8 = .ok (.if_icmp .ge 119, 3) := by decide +kernel
theorem dX12_works_11 : decode cX12_works 11 = .ok (.aload_n 0, 1) := by decide +kernel
theorem dX12_works_12 : decode cX12_works 12 = .ok (.getfield 54, 3) := by decide +kernel
theorem dX12_works_15 : decode cX12_works 15 = .ok (.iload 4, 2) := by decide +kernel
theorem dX12_works_17 : decode cX12_works 17 = .ok (.iaload, 1) := by decide +kernel
theorem dX12_works_18 : decode cX12_works 18 = .ok (.iconst 2, 1) := by decide +kernel
theorem dX12_works_19 : decode cX12_works 19 = .ok (.if_icmp .le 23, 3) := by decide +kernel
theorem dX12_works_22 : decode cX12_works 22 = .ok (.iinc 3 (-1), 3) := by decide +kernel
theorem dX12_works_25 : decode cX12_works 25 = .ok (.aload_n 0, 1) := by decide +kernel
theorem dX12_works_26 : decode cX12_works 26 = .ok (.aload_n 0, 1) := by decide +kernel
theorem dX12_works_27 : decode cX12_works 27 = .ok (.getfield 54, 3) := by decide +kernel
theorem dX12_works_30 : decode cX12_works 30 = .ok (.iload 4, 2) := by decide +kernel
theorem dX12_works_32 : decode cX12_works 32 = .ok (.iaload, 1) := by decide +kernel
theorem dX12_works_33 : decode cX12_works 33 = .ok (.iload_n 3, 1) := by decide +kernel
theorem dX12_works_34 : decode cX12_works 34 = .ok (.iconst 1, 1) := by decide +kernel
theorem dX12_works_35 : decode cX12_works 35 = .ok (.isub, 1) := by decide +kernel
theorem dX12_works_36 : decode cX12_works 36 = .ok (.invokevirtual 311, 3) := by decide +kernel
theorem dX12_works_39 : decode cX12_works 39 = .ok (.goto 82, 3) := by decide +kernel
theorem dX12_works_42 : decode cX12_works 42 = .ok (.aload_n 0, 1) := by decide +kernel
theorem dX12_works_43 : decode cX12_works 43 = .ok (.getfield 54, 3) := by decide +kernel
theorem dX12_works_46 : decode cX12_works 46 = .ok (.iload 4, 2) := by decide +kernel
theorem dX12_works_48 : decode cX12_works 48 = .ok (.iaload, 1) := by decide +kernel
theorem dX12_works_49 : decode cX12_works 49 = .ok (.iconst 2, 1) := by decide +kernel
theorem dX12_works_50 : decode cX12_works 50 = .ok (.if_icmp .ne 24, 3) := by decide +kernel
theorem dX12_works_53 : decode cX12_works 53 = .ok (.aload_n 0, 1) := by decide +kernel
theorem dX12_works_54 : decode cX12_works 54 = .ok (.getfield 78, 3) := by decide +kernel
theorem dX12_works_57 : decode cX12_works 57 = .ok (.iload_n 3, 1) := by decide +kernel
theorem dX12_works_58 : decode cX12_works 58 = .ok (.iconst 1, 1) := by decide +kernel
theorem dX12_works_59 : decode cX12_works 59 = .ok (.isub, 1) := by decide +kernel
theorem dX12_works_60 : decode cX12_works 60 = .ok (.iconst 1, 1) := by decide +kernel
theorem dX12_works_61 : decode cX12_works 61 = .ok (.aload_n 0, 1) := by decide +kernel
theorem dX12_works_62 : decode cX12_works 62 = .ok (.getfield 78, 3) := by decide +kernel
theorem dX12_works_65 : decode cX12_works 65 = .ok (.iload_n 3, 1) := by decide +kernel
theorem dX12_works_66 : decode cX12_works 66 = .ok (.iconst 1, 1) := by decide +kernel
theorem dX12_works_67 : decode cX12_works 67 = .ok (.isub, 1) := by decide +kernel
theorem dX12_works_68 : decode cX12_works 68 = .ok (.iaload, 1) := by decide +kernel
theorem dX12_works_69 : decode cX12_works 69 = .ok (.isub, 1) := by decide +kernel
theorem dX12_works_70 : decode cX12_works 70 = .ok (.iastore, 1) := by decide +kernel
theorem dX12_works_71 : decode cX12_works 71 = .ok (.goto 50, 3) := by decide +kernel
theorem dX12_works_74 : decode cX12_works 74 = .ok (.aload_n 0, 1) := by decide +kernel
theorem dX12_works_75 : decode cX12_works 75 = .ok (.getfield 81, 3) := by decide +kernel
theorem dX12_works_78 : decode cX12_works 78 = .ok (.iload_n 3, 1) := by decide +kernel
theorem dX12_works_79 : decode cX12_works 79 = .ok (.iconst 0, 1) := by decide +kernel
theorem dX12_works_80 : decode cX12_works 80 = .ok (.bastore, 1) := by decide +kernel
theorem dX12_works_81 : decode cX12_works 81 = .ok (.aload_n 0, 1) := by decide +kernel
theorem dX12_works_82 : decode cX12_works 82 = .ok (.getfield 78, 3) := by decide +kernel
theorem dX12_works_85 : decode cX12_works 85 = .ok (.iload_n 3, 1) := by decide +kernel
theorem dX12_works_86 : decode cX12_works 86 = .ok (.aload_n 0, 1) := by decide +kernel
theorem dX12_works_87 : decode cX12_works 87 = .ok (.getfield 54, 3) := by decide +kernel
theorem dX12_works_90 : decode cX12_works 90 = .ok (.iload 4, 2) := by decide +kernel
theorem dX12_works_92 : decode cX12_works 92 = .ok (.iaload, 1) := by decide +kernel
theorem dX12_works_93 : decode cX12_works 93 = .ok (.ifCond .ne 13, 3) := by decide +kernel
theorem dX12_works_96 : decode cX12_works 96 = .ok (.aload_n 0, 1) := by decide +kernel
theorem dX12_works_97 : decode cX12_works 97 = .ok (.getfield 57, 3) := by decide +kernel
theorem dX12_works_100 : decode cX12_works 100 = .ok (.iload 4, 2) := by decide +kernel
theorem dX12_works_102 : decode cX12_works 102 = .ok (.iaload, 1) := by decide +kernel
theorem dX12_works_103 : decode cX12_works 103 = .ok (.goto 14, 3) := by decide +kernel
theorem dX12_works_106 : decode cX12_works 106 = .ok (.aload_n 0, 1) := by decide +kernel
theorem dX12_works_107 : decode cX12_works 107 = .ok (.aload_n 0, 1) := by decide +kernel
theorem dX12_works_108 : decode cX12_works 108 = .ok (.getfield 57, 3) := by decide +kernel
theorem dX12_works_111 : decode cX12_works 111 = .ok (.iload 4, 2) := by decide +kernel
theorem dX12_works_113 : decode cX12_works 113 = .ok (.iaload, 1) := by decide +kernel
theorem dX12_works_114 : decode cX12_works 114 = .ok (.invokevirtual 314, 3) := by decide +kernel
theorem dX12_works_117 : decode cX12_works 117 = .ok (.iastore, 1) := by decide +kernel
theorem dX12_works_118 : decode cX12_works 118 = .ok (.iinc 3 1, 3) := by decide +kernel
theorem dX12_works_121 : decode cX12_works 121 = .ok (.iinc 4 1, 3) := by decide +kernel
theorem dX12_works_124 : decode cX12_works 124 = .ok (.goto (-119), 3) := by decide +kernel
theorem dX12_works_127 : decode cX12_works 127 = .ok (.return_, 1) := by decide +kernel
theorem dX12_costOf_0 : decode cX12_costOf 0 = .ok (.aload_n 0, 1) := by decide +kernel
theorem dX12_costOf_1 : decode cX12_costOf 1 = .ok (.iload_n 1, 1) := by decide +kernel
theorem dX12_costOf_2 : decode cX12_costOf 2 = .ok (.putfield 294, 3) := by decide +kernel
theorem dX12_costOf_5 : decode cX12_costOf 5 = .ok (.aload_n 0, 1) := by decide +kernel
theorem dX12_costOf_6 : decode cX12_costOf 6 = .ok (.iload_n 2, 1) := by decide +kernel
theorem dX12_costOf_7 : decode cX12_costOf 7 = .ok (.putfield 301, 3) := by decide +kernel
theorem dX12_costOf_10 : decode cX12_costOf 10 = .ok (.aload_n 0, 1) := by decide +kernel
theorem dX12_costOf_11 : decode cX12_costOf 11 = .ok (.iload_n 3, 1) := by decide +kernel
theorem dX12_costOf_12 : decode cX12_costOf 12 = .ok (.putfield 304, 3) := by decide +kernel
theorem dX12_costOf_15 : decode cX12_costOf 15 = .ok (.iconst 0, 1) := by decide +kernel
theorem dX12_costOf_16 : decode cX12_costOf 16 = .ok (.istore 4, 2) := by decide +kernel
theorem dX12_costOf_18 : decode cX12_costOf 18 = .ok (.iload 4, 2) := by decide +kernel
theorem dX12_costOf_20 : decode cX12_costOf 20 = .ok (.aload_n 0, 1) := by decide +kernel
theorem dX12_costOf_21 : decode cX12_costOf 21 = .ok (.getfield 291, 3) := by decide +kernel
theorem dX12_costOf_24 : decode cX12_costOf 24 = .ok (.if_icmp .ge 108, 3) := by decide +kernel
theorem dX12_costOf_27 : decode cX12_costOf 27 = .ok (.aload_n 0, 1) := by decide +kernel
theorem dX12_costOf_28 : decode cX12_costOf 28 = .ok (.aload_n 0, 1) := by decide +kernel
theorem dX12_costOf_29 : decode cX12_costOf 29 = .ok (.getfield 48, 3) := by decide +kernel
theorem dX12_costOf_32 : decode cX12_costOf 32 = .ok (.iload 4, 2) := by decide +kernel
theorem dX12_costOf_34 : decode cX12_costOf 34 = .ok (.iaload, 1) := by decide +kernel
theorem dX12_costOf_35 : decode cX12_costOf 35 = .ok (.aload_n 0, 1) := by decide +kernel
theorem dX12_costOf_36 : decode cX12_costOf 36 = .ok (.getfield 51, 3) := by decide +kernel
theorem dX12_costOf_39 : decode cX12_costOf 39 = .ok (.iload 4, 2) := by decide +kernel
theorem dX12_costOf_41 : decode cX12_costOf 41 = .ok (.iaload, 1) := by decide +kernel
theorem dX12_costOf_42 : decode cX12_costOf 42 = .ok (.invokevirtual 317, 3) := by decide +kernel
theorem dX12_costOf_45 : decode cX12_costOf 45 = .ok (.aload_n 0, 1) := by decide +kernel
theorem dX12_costOf_46 : decode cX12_costOf 46 = .ok (.getfield 81, 3) := by decide +kernel
theorem dX12_costOf_49 : decode cX12_costOf 49 = .ok (.iconst 0, 1) := by decide +kernel
theorem dX12_costOf_50 : decode cX12_costOf 50 = .ok (.baload, 1) := by decide +kernel
theorem dX12_costOf_51 : decode cX12_costOf 51 = .ok (.ifCond .ne 75, 3) := by decide +kernel
theorem dX12_costOf_54 : decode cX12_costOf 54 = .ok (.aload_n 0, 1) := by decide +kernel
theorem dX12_costOf_55 : decode cX12_costOf 55 = .ok (.getfield 78, 3) := by decide +kernel
theorem dX12_costOf_58 : decode cX12_costOf 58 = .ok (.iconst 0, 1) := by decide +kernel
theorem dX12_costOf_59 : decode cX12_costOf 59 = .ok (.iaload, 1) := by decide +kernel
theorem dX12_costOf_60 : decode cX12_costOf 60 = .ok (.iconst 1, 1) := by decide +kernel
theorem dX12_costOf_61 : decode cX12_costOf 61 = .ok (.if_icmp .eq 6, 3) := by decide +kernel
theorem dX12_costOf_64 : decode cX12_costOf 64 = .ok (.goto 62, 3) := by decide +kernel
theorem dX12_costOf_67 : decode cX12_costOf 67 = .ok (.aload_n 0, 1) := by decide +kernel
theorem dX12_costOf_68 : decode cX12_costOf 68 = .ok (.aload_n 0, 1) := by decide +kernel
theorem dX12_costOf_69 : decode cX12_costOf 69 = .ok (.getfield 45, 3) := by decide +kernel
theorem dX12_costOf_72 : decode cX12_costOf 72 = .ok (.iload 4, 2) := by decide +kernel
theorem dX12_costOf_74 : decode cX12_costOf 74 = .ok (.iaload, 1) := by decide +kernel
theorem dX12_costOf_75 : decode cX12_costOf 75 = .ok (.aload_n 0, 1) := by decide +kernel
theorem dX12_costOf_76 : decode cX12_costOf 76 = .ok (.getfield 48, 3) := by decide +kernel
theorem dX12_costOf_79 : decode cX12_costOf 79 = .ok (.iload 4, 2) := by decide +kernel
theorem dX12_costOf_81 : decode cX12_costOf 81 = .ok (.iaload, 1) := by decide +kernel
theorem dX12_costOf_82 : decode cX12_costOf 82 = .ok (.invokevirtual 317, 3) := by decide +kernel
theorem dX12_costOf_85 : decode cX12_costOf 85 = .ok (.aload_n 0, 1) := by decide +kernel
theorem dX12_costOf_86 : decode cX12_costOf 86 = .ok (.getfield 81, 3) := by decide +kernel
theorem dX12_costOf_89 : decode cX12_costOf 89 = .ok (.iconst 0, 1) := by decide +kernel
theorem dX12_costOf_90 : decode cX12_costOf 90 = .ok (.baload, 1) := by decide +kernel
theorem dX12_costOf_91 : decode cX12_costOf 91 = .ok (.ifCond .eq 7, 3) := by decide +kernel
theorem dX12_costOf_94 : decode cX12_costOf 94 = .ok (.iconst 0, 1) := by decide +kernel
theorem dX12_costOf_95 : decode cX12_costOf 95 = .ok (.goto 9, 3) := by decide +kernel
theorem dX12_costOf_98 : decode cX12_costOf 98 = .ok (.aload_n 0, 1) := by decide +kernel
theorem dX12_costOf_99 : decode cX12_costOf 99 = .ok (.getfield 78, 3) := by decide +kernel
theorem dX12_costOf_102 : decode cX12_costOf 102 = .ok (.iconst 0, 1) := by decide +kernel
theorem dX12_costOf_103 : decode cX12_costOf 103 = .ok (.iaload, 1) := by decide +kernel
theorem dX12_costOf_104 : decode cX12_costOf 104 = .ok (.istore 5, 2) := by decide +kernel
theorem dX12_costOf_106 : decode cX12_costOf 106 = .ok (.iload 5, 2) := by decide +kernel
theorem dX12_costOf_108 : decode cX12_costOf 108 = .ok (.i2l, 1) := by decide +kernel
theorem dX12_costOf_109 : decode cX12_costOf 109 = .ok (.lconst 0, 1) := by decide +kernel
theorem dX12_costOf_110 : decode cX12_costOf 110 = .ok (.ldc2_w 165, 3) := by decide +kernel
theorem dX12_costOf_113 : decode cX12_costOf 113 = .ok (.invokestatic 138, 3) := by decide +kernel
theorem dX12_costOf_116 : decode cX12_costOf 116 = .ok (.ifCond .eq 8, 3) := by decide +kernel
theorem dX12_costOf_119 : decode cX12_costOf 119 = .ok (.iload 5, 2) := by decide +kernel
theorem dX12_costOf_121 : decode cX12_costOf 121 = .ok (.goto 4, 3) := by decide +kernel
theorem dX12_costOf_124 : decode cX12_costOf 124 = .ok (.iconst (-1), 1) := by decide +kernel
theorem dX12_costOf_125 : decode cX12_costOf 125 = .ok (.ireturn, 1) := by decide +kernel
theorem dX12_costOf_126 : decode cX12_costOf 126 = .ok (.iinc 4 1, 3) := by decide +kernel
theorem dX12_costOf_129 : decode cX12_costOf 129 = .ok (.goto (-111), 3) := by decide +kernel
theorem dX12_costOf_132 : decode cX12_costOf 132 = .ok (.iconst (-1), 1) := by decide +kernel
theorem dX12_costOf_133 : decode cX12_costOf 133 = .ok (.ireturn, 1) := by decide +kernel
theorem dX12_joinerOf_0 : decode cX12_joinerOf 0 = .ok (.iconst (-1), 1) := by decide +kernel
theorem dX12_joinerOf_1 : decode cX12_joinerOf 1 = .ok (.istore_n 3, 1) := by decide +kernel
theorem dX12_joinerOf_2 : decode cX12_joinerOf 2 = .ok (.iconst 0, 1) := by decide +kernel
theorem dX12_joinerOf_3 : decode cX12_joinerOf 3 = .ok (.istore 4, 2) := by decide +kernel
theorem dX12_joinerOf_5 : decode cX12_joinerOf 5 = .ok (.iload 4, 2) := by decide +kernel
theorem dX12_joinerOf_7 : decode cX12_joinerOf 7 = .ok (.aload_n 0, 1) := by decide +kernel
theorem dX12_joinerOf_8 : decode cX12_joinerOf 8 = .ok (.getfield 135, 3) := by decide +kernel
theorem dX12_joinerOf_11 : decode cX12_joinerOf 11 = .ok (.if_icmp .ge 53, 3) := by decide +kernel
theorem dX12_joinerOf_14 : decode cX12_joinerOf 14 = .ok (.iload_n 1, 1) := by decide +kernel
theorem dX12_joinerOf_15 : decode cX12_joinerOf 15 = .ok (.iload 4, 2) := by decide +kernel
theorem dX12_joinerOf_17 : decode cX12_joinerOf 17 = .ok (.invokestatic 149, 3) := by decide +kernel
theorem dX12_joinerOf_20 : decode cX12_joinerOf 20 = .ok (.ifCond .eq 38, 3) := by decide +kernel
theorem dX12_joinerOf_23 : decode cX12_joinerOf 23 = .ok (.aload_n 0, 1) := by decide +kernel
theorem dX12_joinerOf_24 : decode cX12_joinerOf 24 = .ok (.getfield 17, 3) := by decide +kernel
theorem dX12_joinerOf_27 : decode cX12_joinerOf 27 = .ok (.iload 4, 2) := by decide +kernel
theorem dX12_joinerOf_29 : decode cX12_joinerOf 29 = .ok (.iaload, 1) := by decide +kernel
theorem dX12_joinerOf_30 : decode cX12_joinerOf 30 = .ok (.iload_n 2, 1) := by decide +kernel
theorem dX12_joinerOf_31 : decode cX12_joinerOf 31 = .ok (.if_icmp .ne 27, 3) := by decide +kernel
theorem dX12_joinerOf_34 : decode cX12_joinerOf 34 = .ok (.iload_n 3, 1) := by decide +kernel
theorem dX12_joinerOf_35 : decode cX12_joinerOf 35 = .ok (.iconst (-1), 1) := by decide +kernel
theorem dX12_joinerOf_36 : decode cX12_joinerOf 36 = .ok (.if_icmp .eq 19, 3) := by decide +kernel
theorem dX12_joinerOf_39 : decode cX12_joinerOf 39 = .ok (.aload_n 0, 1) := by decide +kernel
theorem dX12_joinerOf_40 : decode cX12_joinerOf 40 = .ok (.getfield 24, 3) := by decide +kernel
theorem dX12_joinerOf_43 : decode cX12_joinerOf 43 = .ok (.iload 4, 2) := by decide +kernel
theorem dX12_joinerOf_45 : decode cX12_joinerOf 45 = .ok (.iaload, 1) := by decide +kernel
theorem dX12_joinerOf_46 : decode cX12_joinerOf 46 = .ok (.aload_n 0, 1) := by decide +kernel
theorem dX12_joinerOf_47 : decode cX12_joinerOf 47 = .ok (.getfield 24, 3) := by decide +kernel
theorem dX12_joinerOf_50 : decode cX12_joinerOf 50 = .ok (.iload_n 3, 1) := by decide +kernel
theorem dX12_joinerOf_51 : decode cX12_joinerOf 51 = .ok (.iaload, 1) := by decide +kernel
theorem dX12_joinerOf_52 : decode cX12_joinerOf 52 = .ok (.if_icmp .ge 6, 3) := by decide +kernel
theorem dX12_joinerOf_55 : decode cX12_joinerOf 55 = .ok (.iload 4, 2) := by decide +kernel
theorem dX12_joinerOf_57 : decode cX12_joinerOf 57 = .ok (.istore_n 3, 1) := by decide +kernel
theorem dX12_joinerOf_58 : decode cX12_joinerOf 58 = .ok (.iinc 4 1, 3) := by decide +kernel
theorem dX12_joinerOf_61 : decode cX12_joinerOf 61 = .ok (.goto (-56), 3) := by decide +kernel
theorem dX12_joinerOf_64 : decode cX12_joinerOf 64 = .ok (.iload_n 3, 1) := by decide +kernel
theorem dX12_joinerOf_65 : decode cX12_joinerOf 65 = .ok (.ireturn, 1) := by decide +kernel
theorem dX12_joinOf_0 : decode cX12_joinOf 0 = .ok (.aload_n 0, 1) := by decide +kernel
theorem dX12_joinOf_1 : decode cX12_joinOf 1 = .ok (.iload_n 1, 1) := by decide +kernel
theorem dX12_joinOf_2 : decode cX12_joinOf 2 = .ok (.iload_n 2, 1) := by decide +kernel
theorem dX12_joinOf_3 : decode cX12_joinOf 3 = .ok (.invokevirtual 320, 3) := by decide +kernel
theorem dX12_joinOf_6 : decode cX12_joinOf 6 = .ok (.istore_n 3, 1) := by decide +kernel
theorem dX12_joinOf_7 : decode cX12_joinOf 7 = .ok (.iload_n 3, 1) := by decide +kernel
theorem dX12_joinOf_8 : decode cX12_joinOf 8 = .ok (.iconst (-1), 1) := by decide +kernel
theorem dX12_joinOf_9 : decode cX12_joinOf 9 = .ok (.if_icmp .ne 9, 3) := by decide +kernel
theorem dX12_joinOf_12 : decode cX12_joinOf 12 = .ok (.ldc_w 324, 3) := by decide +kernel
theorem dX12_joinOf_15 : decode cX12_joinOf 15 = .ok (.goto 9, 3) := by decide +kernel
theorem dX12_joinOf_18 : decode cX12_joinOf 18 = .ok (.aload_n 0, 1) := by decide +kernel
theorem dX12_joinOf_19 : decode cX12_joinOf 19 = .ok (.getfield 24, 3) := by decide +kernel
theorem dX12_joinOf_22 : decode cX12_joinOf 22 = .ok (.iload_n 3, 1) := by decide +kernel
theorem dX12_joinOf_23 : decode cX12_joinOf 23 = .ok (.iaload, 1) := by decide +kernel
theorem dX12_joinOf_24 : decode cX12_joinOf 24 = .ok (.ireturn, 1) := by decide +kernel
theorem dX12_shortens_0 : decode cX12_shortens 0 = .ok (.iload_n 3, 1) := by decide +kernel
theorem dX12_shortens_1 : decode cX12_shortens 1 = .ok (.aload_n 0, 1) := by decide +kernel
theorem dX12_shortens_2 : decode cX12_shortens 2 = .ok (.getfield 89, 3) := by decide +kernel
theorem dX12_shortens_5 : decode cX12_shortens 5 = .ok (.iload_n 1, 1) := by decide +kernel
theorem dX12_shortens_6 : decode cX12_shortens 6 = .ok (.iload_n 2, 1) := by decide +kernel
theorem dX12_shortens_7 : decode cX12_shortens 7 = .ok (.iadd, 1) := by decide +kernel
theorem dX12_shortens_8 : decode cX12_shortens 8 = .ok (.iaload, 1) := by decide +kernel
theorem dX12_shortens_9 : decode cX12_shortens 9 = .ok (.if_icmp .lt 5, 3) := by decide +kernel
theorem dX12_shortens_12 : decode cX12_shortens 12 = .ok (.iconst 0, 1) := by decide +kernel
theorem dX12_shortens_13 : decode cX12_shortens 13 = .ok (.ireturn, 1) := by decide +kernel
theorem dX12_shortens_14 : decode cX12_shortens 14 = .ok (.aload_n 0, 1) := by decide +kernel
theorem dX12_shortens_15 : decode cX12_shortens 15 = .ok (.getfield 89, 3) := by decide +kernel
theorem dX12_shortens_18 : decode cX12_shortens 18 = .ok (.iload_n 1, 1) := by decide +kernel
theorem dX12_shortens_19 : decode cX12_shortens 19 = .ok (.iload_n 2, 1) := by decide +kernel
theorem dX12_shortens_20 : decode cX12_shortens 20 = .ok (.iadd, 1) := by decide +kernel
theorem dX12_shortens_21 : decode cX12_shortens 21 = .ok (.iload_n 3, 1) := by decide +kernel
theorem dX12_shortens_22 : decode cX12_shortens 22 = .ok (.iastore, 1) := by decide +kernel
theorem dX12_shortens_23 : decode cX12_shortens 23 = .ok (.iconst 1, 1) := by decide +kernel
theorem dX12_shortens_24 : decode cX12_shortens 24 = .ok (.ireturn, 1) := by decide +kernel
theorem dX12_lays_0 : decode cX12_lays 0 = .ok (.aload_n 0, 1) := by decide +kernel
theorem dX12_lays_1 : decode cX12_lays 1 = .ok (.getfield 85, 3) := by decide +kernel
theorem dX12_lays_4 : decode cX12_lays 4 = .ok (.iload_n 1, 1) := by decide +kernel
theorem dX12_lays_5 : decode cX12_lays 5 = .ok (.baload, 1) := by decide +kernel
theorem dX12_lays_6 : decode cX12_lays 6 = .ok (.ifCond .eq 4, 3) := by decide +kernel
theorem dX12_lays_9 : decode cX12_lays 9 = .ok (.return_, 1) := by decide +kernel
theorem dX12_lays_10 : decode cX12_lays 10 = .ok (.aload_n 0, 1) := by decide +kernel
theorem dX12_lays_11 : decode cX12_lays 11 = .ok (.getfield 85, 3) := by decide +kernel
theorem dX12_lays_14 : decode cX12_lays 14 = .ok (.iload_n 1, 1) := by decide +kernel
theorem dX12_lays_15 : decode cX12_lays 15 = .ok (.iconst 1, 1) := by decide +kernel
theorem dX12_lays_16 : decode cX12_lays 16 = .ok (.bastore, 1) := by decide +kernel
theorem dX12_lays_17 : decode cX12_lays 17 = .ok (.bipush 64, 2) := by decide +kernel
theorem dX12_lays_19 : decode cX12_lays 19 = .ok (.iload_n 1, 1) := by decide +kernel
theorem dX12_lays_20 : decode cX12_lays 20 = .ok (.imul, 1) := by decide +kernel
theorem dX12_lays_21 : decode cX12_lays 21 = .ok (.istore_n 2, 1) := by decide +kernel
theorem dX12_lays_22 : decode cX12_lays 22 = .ok (.iconst 0, 1) := by decide +kernel
theorem dX12_lays_23 : decode cX12_lays 23 = .ok (.istore_n 3, 1) := by decide +kernel
theorem dX12_lays_24 : decode cX12_lays 24 = .ok (.iload_n 3, 1) := by decide +kernel
theorem dX12_lays_25 : decode cX12_lays 25 = .ok (.bipush 64, 2) := by decide +kernel
theorem dX12_lays_27 : decode cX12_lays 27 = .ok (.if_icmp .ge 20, 3) := by decide +kernel
theorem dX12_lays_30 : decode cX12_lays 30 = .ok (.aload_n 0, 1) := by decide +kernel
theorem dX12_lays_31 : decode cX12_lays 31 = .ok (.getfield 89, 3) := by decide +kernel
theorem dX12_lays_34 : decode cX12_lays 34 = .ok (.iload_n 2, 1) := by decide +kernel
theorem dX12_lays_35 : decode cX12_lays 35 = .ok (.iload_n 3, 1) := by decide +kernel
theorem dX12_lays_36 : decode cX12_lays 36 = .ok (.iadd, 1) := by decide +kernel
theorem dX12_lays_37 : decode cX12_lays 37 = .ok (.ldc_w 324, 3) := by decide +kernel
theorem dX12_lays_40 : decode cX12_lays 40 = .ok (.iastore, 1) := by decide +kernel
theorem dX12_lays_41 : decode cX12_lays 41 = .ok (.iinc 3 1, 3) := by decide +kernel
theorem dX12_lays_44 : decode cX12_lays 44 = .ok (.goto (-20), 3) := by decide +kernel
theorem dX12_lays_47 : decode cX12_lays 47 = .ok (.iconst 0, 1) := by decide +kernel
theorem dX12_lays_48 : decode cX12_lays 48 = .ok (.istore_n 3, 1) := by decide +kernel
theorem dX12_lays_49 : decode cX12_lays 49 = .ok (.iload_n 3, 1) := by decide +kernel
theorem dX12_lays_50 : decode cX12_lays 50 = .ok (.aload_n 0, 1) := by decide +kernel
theorem dX12_lays_51 : decode cX12_lays 51 = .ok (.getfield 135, 3) := by decide +kernel
theorem dX12_lays_54 : decode cX12_lays 54 = .ok (.if_icmp .ge 67, 3) := by decide +kernel
theorem dX12_lays_57 : decode cX12_lays 57 = .ok (.iload_n 1, 1) := by decide +kernel
theorem dX12_lays_58 : decode cX12_lays 58 = .ok (.iload_n 3, 1) := by decide +kernel
theorem dX12_lays_59 : decode cX12_lays 59 = .ok (.invokestatic 149, 3) := by decide +kernel
theorem dX12_lays_62 : decode cX12_lays 62 = .ok (.ifCond .eq 53, 3) := by decide +kernel
theorem dX12_lays_65 : decode cX12_lays 65 = .ok (.aload_n 0, 1) := by decide +kernel
theorem dX12_lays_66 : decode cX12_lays 66 = .ok (.getfield 17, 3) := by decide +kernel
theorem dX12_lays_69 : decode cX12_lays 69 = .ok (.iload_n 3, 1) := by decide +kernel
theorem dX12_lays_70 : decode cX12_lays 70 = .ok (.iaload, 1) := by decide +kernel
theorem dX12_lays_71 : decode cX12_lays 71 = .ok (.ifCond .ne 44, 3) := by decide +kernel
theorem dX12_lays_74 : decode cX12_lays 74 = .ok (.aload_n 0, 1) := by decide +kernel
theorem dX12_lays_75 : decode cX12_lays 75 = .ok (.getfield 24, 3) := by decide +kernel
theorem dX12_lays_78 : decode cX12_lays 78 = .ok (.iload_n 3, 1) := by decide +kernel
theorem dX12_lays_79 : decode cX12_lays 79 = .ok (.iaload, 1) := by decide +kernel
theorem dX12_lays_80 : decode cX12_lays 80 = .ok (.aload_n 0, 1) := by decide +kernel
theorem dX12_lays_81 : decode cX12_lays 81 = .ok (.getfield 89, 3) := by decide +kernel
theorem dX12_lays_84 : decode cX12_lays 84 = .ok (.iload_n 2, 1) := by decide +kernel
theorem dX12_lays_85 : decode cX12_lays 85 = .ok (.aload_n 0, 1) := by decide +kernel
theorem dX12_lays_86 : decode cX12_lays 86 = .ok (.getfield 21, 3) := by decide +kernel
theorem dX12_lays_89 : decode cX12_lays 89 = .ok (.iload_n 3, 1) := by decide +kernel
theorem dX12_lays_90 : decode cX12_lays 90 = .ok (.iaload, 1) := by decide +kernel
theorem dX12_lays_91 : decode cX12_lays 91 = .ok (.iadd, 1) := by decide +kernel
theorem dX12_lays_92 : decode cX12_lays 92 = .ok (.iaload, 1) := by decide +kernel
theorem dX12_lays_93 : decode cX12_lays 93 = .ok (.if_icmp .ge 22, 3) := by decide +kernel
theorem dX12_lays_96 : decode cX12_lays 96 = .ok (.aload_n 0, 1) := by decide +kernel
theorem dX12_lays_97 : decode cX12_lays 97 = .ok (.getfield 89, 3) := by decide +kernel
