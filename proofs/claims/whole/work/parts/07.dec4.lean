theorem dX11_want_32 : decode cX11_want 32 = .ok (.iconst 0, 1) := by decide +kernel
theorem dX11_want_33 : decode cX11_want 33 = .ok (.sipush 2000, 3) := by decide +kernel
theorem dX11_want_36 : decode cX11_want 36 = .ok (.invokestatic 86, 3) := by decide +kernel
theorem dX11_want_39 : decode cX11_want 39 = .ok (.ifCond .ne 5, 3) := by decide +kernel
theorem dX11_want_42 : decode cX11_want 42 = .ok (.iconst (-1), 1) := by decide +kernel
theorem dX11_want_43 : decode cX11_want 43 = .ok (.ireturn, 1) := by decide +kernel
theorem dX11_want_44 : decode cX11_want 44 = .ok (.aload_n 0, 1) := by decide +kernel
theorem dX11_want_45 : decode cX11_want 45 = .ok (.getfield 19, 3) := by decide +kernel
theorem dX11_want_48 : decode cX11_want 48 = .ok (.iload_n 1, 1) := by decide +kernel
theorem dX11_want_49 : decode cX11_want 49 = .ok (.iload_n 2, 1) := by decide +kernel
theorem dX11_want_50 : decode cX11_want 50 = .ok (.iload_n 3, 1) := by decide +kernel
theorem dX11_want_51 : decode cX11_want 51 = .ok (.iload 4, 2) := by decide +kernel
theorem dX11_want_53 : decode cX11_want 53 = .ok (.invokevirtual 98, 3) := by decide +kernel
theorem dX11_want_56 : decode cX11_want 56 = .ok (.ireturn, 1) := by decide +kernel
theorem dX11_often_0 : decode cX11_often 0 = .ok (.iload_n 1, 1) := by decide +kernel
theorem dX11_often_1 : decode cX11_often 1 = .ok (.iconst 0, 1) := by decide +kernel
theorem dX11_often_2 : decode cX11_often 2 = .ok (.aload_n 0, 1) := by decide +kernel
theorem dX11_often_3 : decode cX11_often 3 = .ok (.getfield 19, 3) := by decide +kernel
theorem dX11_often_6 : decode cX11_often 6 = .ok (.getfield 101, 3) := by decide +kernel
theorem dX11_often_9 : decode cX11_often 9 = .ok (.iconst 1, 1) := by decide +kernel
theorem dX11_often_10 : decode cX11_often 10 = .ok (.isub, 1) := by decide +kernel
theorem dX11_often_11 : decode cX11_often 11 = .ok (.invokestatic 86, 3) := by decide +kernel
theorem dX11_often_14 : decode cX11_often 14 = .ok (.ifCond .eq 24, 3) := by decide +kernel
theorem dX11_often_17 : decode cX11_often 17 = .ok (.iload_n 1, 1) := by decide +kernel
theorem dX11_often_18 : decode cX11_often 18 = .ok (.iconst 0, 1) := by decide +kernel
theorem dX11_often_19 : decode cX11_often 19 = .ok (.bipush 23, 2) := by decide +kernel
theorem dX11_often_21 : decode cX11_often 21 = .ok (.invokestatic 86, 3) := by decide +kernel
theorem dX11_often_24 : decode cX11_often 24 = .ok (.ifCond .eq 14, 3) := by decide +kernel
theorem dX11_often_27 : decode cX11_often 27 = .ok (.iload_n 2, 1) := by decide +kernel
theorem dX11_often_28 : decode cX11_often 28 = .ok (.iconst 0, 1) := by decide +kernel
theorem dX11_often_29 : decode cX11_often 29 = .ok (.sipush 1000, 3) := by decide +kernel
theorem dX11_often_32 : decode cX11_often 32 = .ok (.invokestatic 86, 3) := by decide +kernel
theorem dX11_often_35 : decode cX11_often 35 = .ok (.ifCond .ne 5, 3) := by decide +kernel
theorem dX11_often_38 : decode cX11_often 38 = .ok (.iconst 0, 1) := by decide +kernel
theorem dX11_often_39 : decode cX11_often 39 = .ok (.ireturn, 1) := by decide +kernel
theorem dX11_often_40 : decode cX11_often 40 = .ok (.aload_n 0, 1) := by decide +kernel
theorem dX11_often_41 : decode cX11_often 41 = .ok (.getfield 19, 3) := by decide +kernel
theorem dX11_often_44 : decode cX11_often 44 = .ok (.getfield 105, 3) := by decide +kernel
theorem dX11_often_47 : decode cX11_often 47 = .ok (.iload_n 1, 1) := by decide +kernel
theorem dX11_often_48 : decode cX11_often 48 = .ok (.iload_n 2, 1) := by decide +kernel
theorem dX11_often_49 : decode cX11_often 49 = .ok (.iastore, 1) := by decide +kernel
theorem dX11_often_50 : decode cX11_often 50 = .ok (.iconst 1, 1) := by decide +kernel
theorem dX11_often_51 : decode cX11_often 51 = .ok (.ireturn, 1) := by decide +kernel
theorem dX11_silence_0 : decode cX11_silence 0 = .ok (.iload_n 1, 1) := by decide +kernel
theorem dX11_silence_1 : decode cX11_silence 1 = .ok (.iconst 0, 1) := by decide +kernel
theorem dX11_silence_2 : decode cX11_silence 2 = .ok (.sipush 5000, 3) := by decide +kernel
theorem dX11_silence_5 : decode cX11_silence 5 = .ok (.invokestatic 86, 3) := by decide +kernel
theorem dX11_silence_8 : decode cX11_silence 8 = .ok (.ifCond .ne 5, 3) := by decide +kernel
theorem dX11_silence_11 : decode cX11_silence 11 = .ok (.iconst 0, 1) := by decide +kernel
theorem dX11_silence_12 : decode cX11_silence 12 = .ok (.ireturn, 1) := by decide +kernel
theorem dX11_silence_13 : decode cX11_silence 13 = .ok (.aload_n 0, 1) := by decide +kernel
theorem dX11_silence_14 : decode cX11_silence 14 = .ok (.getfield 19, 3) := by decide +kernel
theorem dX11_silence_17 : decode cX11_silence 17 = .ok (.iload_n 1, 1) := by decide +kernel
theorem dX11_silence_18 : decode cX11_silence 18 = .ok (.putfield 108, 3) := by decide +kernel
theorem dX11_silence_21 : decode cX11_silence 21 = .ok (.iconst 1, 1) := by decide +kernel
theorem dX11_silence_22 : decode cX11_silence 22 = .ok (.ireturn, 1) := by decide +kernel
theorem dX11_feed_0 : decode cX11_feed 0 = .ok (.aload_n 0, 1) := by decide +kernel
theorem dX11_feed_1 : decode cX11_feed 1 = .ok (.getfield 26, 3) := by decide +kernel
theorem dX11_feed_4 : decode cX11_feed 4 = .ok (.getfield 111, 3) := by decide +kernel
theorem dX11_feed_7 : decode cX11_feed 7 = .ok (.sipush 280, 3) := by decide +kernel
theorem dX11_feed_10 : decode cX11_feed 10 = .ok (.if_icmp .le 5, 3) := by decide +kernel
theorem dX11_feed_13 : decode cX11_feed 13 = .ok (.iconst (-1), 1) := by decide +kernel
theorem dX11_feed_14 : decode cX11_feed 14 = .ok (.ireturn, 1) := by decide +kernel
theorem dX11_feed_15 : decode cX11_feed 15 = .ok (.aload_n 0, 1) := by decide +kernel
theorem dX11_feed_16 : decode cX11_feed 16 = .ok (.getfield 26, 3) := by decide +kernel
theorem dX11_feed_19 : decode cX11_feed 19 = .ok (.iload_n 1, 1) := by decide +kernel
theorem dX11_feed_20 : decode cX11_feed 20 = .ok (.invokevirtual 112, 3) := by decide +kernel
theorem dX11_feed_23 : decode cX11_feed 23 = .ok (.aload_n 0, 1) := by decide +kernel
theorem dX11_feed_24 : decode cX11_feed 24 = .ok (.getfield 26, 3) := by decide +kernel
theorem dX11_feed_27 : decode cX11_feed 27 = .ok (.iload_n 2, 1) := by decide +kernel
theorem dX11_feed_28 : decode cX11_feed 28 = .ok (.invokevirtual 112, 3) := by decide +kernel
theorem dX11_feed_31 : decode cX11_feed 31 = .ok (.aload_n 0, 1) := by decide +kernel
theorem dX11_feed_32 : decode cX11_feed 32 = .ok (.getfield 26, 3) := by decide +kernel
theorem dX11_feed_35 : decode cX11_feed 35 = .ok (.iload_n 3, 1) := by decide +kernel
theorem dX11_feed_36 : decode cX11_feed 36 = .ok (.invokevirtual 112, 3) := by decide +kernel
theorem dX11_feed_39 : decode cX11_feed 39 = .ok (.aload_n 0, 1) := by decide +kernel
theorem dX11_feed_40 : decode cX11_feed 40 = .ok (.getfield 26, 3) := by decide +kernel
theorem dX11_feed_43 : decode cX11_feed 43 = .ok (.iload 4, 2) := by decide +kernel
theorem dX11_feed_45 : decode cX11_feed 45 = .ok (.invokevirtual 112, 3) := by decide +kernel
theorem dX11_feed_48 : decode cX11_feed 48 = .ok (.aload_n 0, 1) := by decide +kernel
theorem dX11_feed_49 : decode cX11_feed 49 = .ok (.getfield 26, 3) := by decide +kernel
theorem dX11_feed_52 : decode cX11_feed 52 = .ok (.iload 5, 2) := by decide +kernel
theorem dX11_feed_54 : decode cX11_feed 54 = .ok (.invokevirtual 112, 3) := by decide +kernel
theorem dX11_feed_57 : decode cX11_feed 57 = .ok (.aload_n 0, 1) := by decide +kernel
theorem dX11_feed_58 : decode cX11_feed 58 = .ok (.getfield 26, 3) := by decide +kernel
theorem dX11_feed_61 : decode cX11_feed 61 = .ok (.getfield 111, 3) := by decide +kernel
theorem dX11_feed_64 : decode cX11_feed 64 = .ok (.ireturn, 1) := by decide +kernel
theorem dX11_near_0 : decode cX11_near 0 = .ok (.iload_n 1, 1) := by decide +kernel
theorem dX11_near_1 : decode cX11_near 1 = .ok (.iconst 1, 1) := by decide +kernel
theorem dX11_near_2 : decode cX11_near 2 = .ok (.sipush 160, 3) := by decide +kernel
theorem dX11_near_5 : decode cX11_near 5 = .ok (.invokestatic 86, 3) := by decide +kernel
theorem dX11_near_8 : decode cX11_near 8 = .ok (.ifCond .eq 14, 3) := by decide +kernel
theorem dX11_near_11 : decode cX11_near 11 = .ok (.iload_n 1, 1) := by decide +kernel
theorem dX11_near_12 : decode cX11_near 12 = .ok (.aload_n 0, 1) := by decide +kernel
theorem dX11_near_13 : decode cX11_near 13 = .ok (.getfield 26, 3) := by decide +kernel
theorem dX11_near_16 : decode cX11_near 16 = .ok (.getfield 111, 3) := by decide +kernel
theorem dX11_near_19 : decode cX11_near 19 = .ok (.if_icmp .le 5, 3) := by decide +kernel
theorem dX11_near_22 : decode cX11_near 22 = .ok (.iconst (-1), 1) := by decide +kernel
theorem dX11_near_23 : decode cX11_near 23 = .ok (.ireturn, 1) := by decide +kernel
theorem dX11_near_24 : decode cX11_near 24 = .ok (.aload_n 0, 1) := by decide +kernel
theorem dX11_near_25 : decode cX11_near 25 = .ok (.getfield 44, 3) := by decide +kernel
theorem dX11_near_28 : decode cX11_near 28 = .ok (.iload_n 1, 1) := by decide +kernel
theorem dX11_near_29 : decode cX11_near 29 = .ok (.invokevirtual 116, 3) := by decide +kernel
theorem dX11_near_32 : decode cX11_near 32 = .ok (.istore_n 2, 1) := by decide +kernel
theorem dX11_near_33 : decode cX11_near 33 = .ok (.aload_n 0, 1) := by decide +kernel
theorem dX11_near_34 : decode cX11_near 34 = .ok (.getfield 26, 3) := by decide +kernel
theorem dX11_near_37 : decode cX11_near 37 = .ok (.invokevirtual 120, 3) := by decide +kernel
theorem dX11_near_40 : decode cX11_near 40 = .ok (.iload_n 2, 1) := by decide +kernel
theorem dX11_near_41 : decode cX11_near 41 = .ok (.ifCond .le 17, 3) := by decide +kernel
theorem dX11_near_44 : decode cX11_near 44 = .ok (.aload_n 0, 1) := by decide +kernel
theorem dX11_near_45 : decode cX11_near 45 = .ok (.getfield 35, 3) := by decide +kernel
theorem dX11_near_48 : decode cX11_near 48 = .ok (.aload_n 0, 1) := by decide +kernel
theorem dX11_near_49 : decode cX11_near 49 = .ok (.getfield 44, 3) := by decide +kernel
theorem dX11_near_52 : decode cX11_near 52 = .ok (.getfield 123, 3) := by decide +kernel
theorem dX11_near_55 : decode cX11_near 55 = .ok (.invokevirtual 126, 3) := by decide +kernel
theorem dX11_near_58 : decode cX11_near 58 = .ok (.iload_n 2, 1) := by decide +kernel
theorem dX11_near_59 : decode cX11_near 59 = .ok (.ireturn, 1) := by decide +kernel
theorem dX11_brief_0 : decode cX11_brief 0 = .ok (.aload_n 0, 1) := by decide +kernel
theorem dX11_brief_1 : decode cX11_brief 1 = .ok (.getfield 10, 3) := by decide +kernel
theorem dX11_brief_4 : decode cX11_brief 4 = .ok (.iload_n 1, 1) := by decide +kernel
theorem dX11_brief_5 : decode cX11_brief 5 = .ok (.invokevirtual 130, 3) := by decide +kernel
theorem dX11_brief_8 : decode cX11_brief 8 = .ok (.ifCond .eq 13, 3) := by decide +kernel
theorem dX11_brief_11 : decode cX11_brief 11 = .ok (.iload_n 2, 1) := by decide +kernel
theorem dX11_brief_12 : decode cX11_brief 12 = .ok (.iconst 0, 1) := by decide +kernel
theorem dX11_brief_13 : decode cX11_brief 13 = .ok (.bipush 63, 2) := by decide +kernel
theorem dX11_brief_15 : decode cX11_brief 15 = .ok (.invokestatic 86, 3) := by decide +kernel
theorem dX11_brief_18 : decode cX11_brief 18 = .ok (.ifCond .ne 5, 3) := by decide +kernel
theorem dX11_brief_21 : decode cX11_brief 21 = .ok (.iconst (-1), 1) := by decide +kernel
theorem dX11_brief_22 : decode cX11_brief 22 = .ok (.ireturn, 1) := by decide +kernel
theorem dX11_brief_23 : decode cX11_brief 23 = .ok (.aload_n 0, 1) := by decide +kernel
theorem dX11_brief_24 : decode cX11_brief 24 = .ok (.getfield 35, 3) := by decide +kernel
theorem dX11_brief_27 : decode cX11_brief 27 = .ok (.iload_n 1, 1) := by decide +kernel
theorem dX11_brief_28 : decode cX11_brief 28 = .ok (.invokevirtual 134, 3) := by decide +kernel
theorem dX11_brief_31 : decode cX11_brief 31 = .ok (.iload_n 2, 1) := by decide +kernel
theorem dX11_brief_32 : decode cX11_brief 32 = .ok (.invokevirtual 138, 3) := by decide +kernel
theorem dX11_brief_35 : decode cX11_brief 35 = .ok (.ireturn, 1) := by decide +kernel
theorem dX11_how_0 : decode cX11_how 0 = .ok (.aload_n 0, 1) := by decide +kernel
theorem dX11_how_1 : decode cX11_how 1 = .ok (.getfield 10, 3) := by decide +kernel
theorem dX11_how_4 : decode cX11_how 4 = .ok (.iload_n 1, 1) := by decide +kernel
theorem dX11_how_5 : decode cX11_how 5 = .ok (.invokevirtual 130, 3) := by decide +kernel
theorem dX11_how_8 : decode cX11_how 8 = .ok (.ifCond .eq 22, 3) := by decide +kernel
theorem dX11_how_11 : decode cX11_how 11 = .ok (.iload_n 2, 1) := by decide +kernel
theorem dX11_how_12 : decode cX11_how 12 = .ok (.iconst 0, 1) := by decide +kernel
theorem dX11_how_13 : decode cX11_how 13 = .ok (.bipush 63, 2) := by decide +kernel
theorem dX11_how_15 : decode cX11_how 15 = .ok (.invokestatic 86, 3) := by decide +kernel
theorem dX11_how_18 : decode cX11_how 18 = .ok (.ifCond .eq 12, 3) := by decide +kernel
theorem dX11_how_21 : decode cX11_how 21 = .ok (.iload_n 3, 1) := by decide +kernel
theorem dX11_how_22 : decode cX11_how 22 = .ok (.iconst 0, 1) := by decide +kernel
theorem dX11_how_23 : decode cX11_how 23 = .ok (.iconst 2, 1) := by decide +kernel
theorem dX11_how_24 : decode cX11_how 24 = .ok (.invokestatic 86, 3) := by decide +kernel
theorem dX11_how_27 : decode cX11_how 27 = .ok (.ifCond .ne 5, 3) := by decide +kernel
theorem dX11_how_30 : decode cX11_how 30 = .ok (.iconst (-1), 1) := by decide +kernel
theorem dX11_how_31 : decode cX11_how 31 = .ok (.ireturn, 1) := by decide +kernel
theorem dX11_how_32 : decode cX11_how 32 = .ok (.aload_n 0, 1) := by decide +kernel
theorem dX11_how_33 : decode cX11_how 33 = .ok (.getfield 35, 3) := by decide +kernel
theorem dX11_how_36 : decode cX11_how 36 = .ok (.iload_n 1, 1) := by decide +kernel
theorem dX11_how_37 : decode cX11_how 37 = .ok (.invokevirtual 134, 3) := by decide +kernel
theorem dX11_how_40 : decode cX11_how 40 = .ok (.astore 4, 2) := by decide +kernel
theorem dX11_how_42 : decode cX11_how 42 = .ok (.aload 4, 2) := by decide +kernel
theorem dX11_how_44 : decode cX11_how 44 = .ok (.iload_n 2, 1) := by decide +kernel
theorem dX11_how_45 : decode cX11_how 45 = .ok (.invokevirtual 138, 3) := by decide +kernel
theorem dX11_how_48 : decode cX11_how 48 = .ok (.bipush (-2), 2) := by decide +kernel
theorem dX11_how_50 : decode cX11_how 50 = .ok (.if_icmp .ne 6, 3) := by decide +kernel
theorem dX11_how_53 : decode cX11_how 53 = .ok (.bipush (-2), 2) := by decide +kernel
theorem dX11_how_55 : decode cX11_how 55 = .ok (.ireturn, 1) := by decide +kernel
theorem dX11_how_56 : decode cX11_how 56 = .ok (.aload 4, 2) := by decide +kernel
theorem dX11_how_58 : decode cX11_how 58 = .ok (.iload_n 2, 1) := by decide +kernel
theorem dX11_how_59 : decode cX11_how 59 = .ok (.invokevirtual 143, 3) := by decide +kernel
theorem dX11_how_62 : decode cX11_how 62 = .ok (.istore 5, 2) := by decide +kernel
theorem dX11_how_64 : decode cX11_how 64 = .ok (.iload 5, 2) := by decide +kernel
theorem dX11_how_66 : decode cX11_how 66 = .ok (.invokestatic 146, 3) := by decide +kernel
theorem dX11_how_69 : decode cX11_how 69 = .ok (.istore 6, 2) := by decide +kernel
theorem dX11_how_71 : decode cX11_how 71 = .ok (.iload_n 3, 1) := by decide +kernel
theorem dX11_how_72 : decode cX11_how 72 = .ok (.ifCond .ne 6, 3) := by decide +kernel
theorem dX11_how_75 : decode cX11_how 75 = .ok (.iload 6, 2) := by decide +kernel
theorem dX11_how_77 : decode cX11_how 77 = .ok (.ireturn, 1) := by decide +kernel
theorem dX11_how_78 : decode cX11_how 78 = .ok (.iload_n 3, 1) := by decide +kernel
theorem dX11_how_79 : decode cX11_how 79 = .ok (.iconst 1, 1) := by decide +kernel
theorem dX11_how_80 : decode cX11_how 80 = .ok (.if_icmp .ne 9, 3) := by decide +kernel
theorem dX11_how_83 : decode cX11_how 83 = .ok (.iload 5, 2) := by decide +kernel
theorem dX11_how_85 : decode cX11_how 85 = .ok (.invokestatic 149, 3) := by decide +kernel
theorem dX11_how_88 : decode cX11_how 88 = .ok (.ireturn, 1) := by decide +kernel
theorem dX11_how_89 : decode cX11_how 89 = .ok (.iload 6, 2) := by decide +kernel
theorem dX11_how_91 : decode cX11_how 91 = .ok (.iconst 2, 1) := by decide +kernel
theorem dX11_how_92 : decode cX11_how 92 = .ok (.if_icmp .eq 9, 3) := by decide +kernel
theorem dX11_how_95 : decode cX11_how 95 = .ok (.iload 6, 2) := by decide +kernel
theorem dX11_how_97 : decode cX11_how 97 = .ok (.iconst 3, 1) := by decide +kernel
theorem dX11_how_98 : decode cX11_how 98 = .ok (.if_icmp .ne 11, 3) := by decide +kernel
theorem dX11_how_101 : decode cX11_how 101 = .ok (.iload 5, 2) := by decide +kernel
theorem dX11_how_103 : decode cX11_how 103 = .ok (.invokestatic 152, 3) := by decide +kernel
theorem dX11_how_106 : decode cX11_how 106 = .ok (.goto 4, 3) := by decide +kernel
theorem dX11_how_109 : decode cX11_how 109 = .ok (.iconst (-1), 1) := by decide +kernel
theorem dX11_how_110 : decode cX11_how 110 = .ok (.ireturn, 1) := by decide +kernel
theorem dX11_sayable_0 : decode cX11_sayable 0 = .ok (.aload_n 0, 1) := by decide +kernel
theorem dX11_sayable_1 : decode cX11_sayable 1 = .ok (.getfield 10, 3) := by decide +kernel
theorem dX11_sayable_4 : decode cX11_sayable 4 = .ok (.iload_n 1, 1) := by decide +kernel
theorem dX11_sayable_5 : decode cX11_sayable 5 = .ok (.invokevirtual 130, 3) := by decide +kernel
theorem dX11_sayable_8 : decode cX11_sayable 8 = .ok (.ifCond .eq 22, 3) := by decide +kernel
theorem dX11_sayable_11 : decode cX11_sayable 11 = .ok (.iload_n 2, 1) := by decide +kernel
theorem dX11_sayable_12 : decode cX11_sayable 12 = .ok (.iconst 0, 1) := by decide +kernel
theorem dX11_sayable_13 : decode cX11_sayable 13 = .ok (.bipush 63, 2) := by decide +kernel
theorem dX11_sayable_15 : decode cX11_sayable 15 = .ok (.invokestatic 86, 3) := by decide +kernel
theorem dX11_sayable_18 : decode cX11_sayable 18 = .ok (.ifCond .eq 12, 3) := by decide +kernel
theorem dX11_sayable_21 : decode cX11_sayable 21 = .ok (.iload_n 3, 1) := by decide +kernel
theorem dX11_sayable_22 : decode cX11_sayable 22 = .ok (.iconst 0, 1) := by decide +kernel
theorem dX11_sayable_23 : decode cX11_sayable 23 = .ok (.iconst 1, 1) := by decide +kernel
theorem dX11_sayable_24 : decode cX11_sayable 24 = .ok (.invokestatic 86, 3) := by decide +kernel
theorem dX11_sayable_27 : decode cX11_sayable 27 = .ok (.ifCond .ne 5, 3) := by decide +kernel
theorem dX11_sayable_30 : decode cX11_sayable 30 = .ok (.iconst (-1), 1) := by decide +kernel
theorem dX11_sayable_31 : decode cX11_sayable 31 = .ok (.ireturn, 1) := by decide +kernel
theorem dX11_sayable_32 : decode cX11_sayable 32 = .ok (.aload_n 0, 1) := by decide +kernel
theorem dX11_sayable_33 : decode cX11_sayable 33 = .ok (.getfield 35, 3) := by decide +kernel
theorem dX11_sayable_36 : decode cX11_sayable 36 = .ok (.aload_n 0, 1) := by decide +kernel
theorem dX11_sayable_37 : decode cX11_sayable 37 = .ok (.getfield 35, 3) := by decide +kernel
theorem dX11_sayable_40 : decode cX11_sayable 40 = .ok (.iload_n 1, 1) := by decide +kernel
theorem dX11_sayable_41 : decode cX11_sayable 41 = .ok (.invokevirtual 134, 3) := by decide +kernel
theorem dX11_sayable_44 : decode cX11_sayable 44 = .ok (.iload_n 2, 1) := by decide +kernel
theorem dX11_sayable_45 : decode cX11_sayable 45 = .ok (.invokevirtual 155, 3) := by decide +kernel
theorem dX11_sayable_48 : decode cX11_sayable 48 = .ok (.istore 4, 2) := by decide +kernel
theorem dX11_sayable_50 : decode cX11_sayable 50 = .ok (.iload 4, 2) := by decide +kernel
theorem dX11_sayable_52 : decode cX11_sayable 52 = .ok (.bipush (-2), 2) := by decide +kernel
theorem dX11_sayable_54 : decode cX11_sayable 54 = .ok (.if_icmp .ne 6, 3) := by decide +kernel
theorem dX11_sayable_57 : decode cX11_sayable 57 = .ok (.bipush (-2), 2) := by decide +kernel
theorem dX11_sayable_59 : decode cX11_sayable 59 = .ok (.ireturn, 1) := by decide +kernel
theorem dX11_sayable_60 : decode cX11_sayable 60 = .ok (.iload_n 3, 1) := by decide +kernel
theorem dX11_sayable_61 : decode cX11_sayable 61 = .ok (.ifCond .ne 11, 3) := by decide +kernel
theorem dX11_sayable_64 : decode cX11_sayable 64 = .ok (.iload 4, 2) := by decide +kernel
theorem dX11_sayable_66 : decode cX11_sayable 66 = .ok (.bipush 6, 2) := by decide +kernel
theorem dX11_sayable_68 : decode cX11_sayable 68 = .ok (.ishr, 1) := by decide +kernel
theorem dX11_sayable_69 : decode cX11_sayable 69 = .ok (.goto 8, 3) := by decide +kernel
theorem dX11_sayable_72 : decode cX11_sayable 72 = .ok (.iload 4, 2) := by decide +kernel
theorem dX11_sayable_74 : decode cX11_sayable 74 = .ok (.bipush 63, 2) := by decide +kernel
theorem dX11_sayable_76 : decode cX11_sayable 76 = .ok (.iand, 1) := by decide +kernel
theorem dX11_sayable_77 : decode cX11_sayable 77 = .ok (.ireturn, 1) := by decide +kernel
theorem dX11_talk_0 : decode cX11_talk 0 = .ok (.aload_n 0, 1) := by decide +kernel
theorem dX11_talk_1 : decode cX11_talk 1 = .ok (.getfield 10, 3) := by decide +kernel
theorem dX11_talk_4 : decode cX11_talk 4 = .ok (.iload_n 1, 1) := by decide +kernel
theorem dX11_talk_5 : decode cX11_talk 5 = .ok (.invokevirtual 130, 3) := by decide +kernel
theorem dX11_talk_8 : decode cX11_talk 8 = .ok (.ifCond .eq 12, 3) := by decide +kernel
theorem dX11_talk_11 : decode cX11_talk 11 = .ok (.iload_n 2, 1) := by decide +kernel
theorem dX11_talk_12 : decode cX11_talk 12 = .ok (.iconst (-1), 1) := by decide +kernel
theorem dX11_talk_13 : decode cX11_talk 13 = .ok (.iconst 3, 1) := by decide +kernel
theorem dX11_talk_14 : decode cX11_talk 14 = .ok (.invokestatic 86, 3) := by decide +kernel
theorem dX11_talk_17 : decode cX11_talk 17 = .ok (.ifCond .ne 7, 3) := by decide +kernel
theorem dX11_talk_20 : decode cX11_talk 20 = .ok (.ldc2_w 159, 3) := by decide +kernel
theorem dX11_talk_23 : decode cX11_talk 23 = .ok (.lreturn, 1) := by decide +kernel
theorem dX11_talk_24 : decode cX11_talk 24 = .ok (.aload_n 0, 1) := by decide +kernel
theorem dX11_talk_25 : decode cX11_talk 25 = .ok (.getfield 35, 3) := by decide +kernel
theorem dX11_talk_28 : decode cX11_talk 28 = .ok (.aload_n 0, 1) := by decide +kernel
theorem dX11_talk_29 : decode cX11_talk 29 = .ok (.getfield 35, 3) := by decide +kernel
theorem dX11_talk_32 : decode cX11_talk 32 = .ok (.iload_n 1, 1) := by decide +kernel
theorem dX11_talk_33 : decode cX11_talk 33 = .ok (.invokevirtual 134, 3) := by decide +kernel
theorem dX11_talk_36 : decode cX11_talk 36 = .ok (.iload_n 2, 1) := by decide +kernel
theorem dX11_talk_37 : decode cX11_talk 37 = .ok (.invokevirtual 161, 3) := by decide +kernel
theorem dX11_talk_40 : decode cX11_talk 40 = .ok (.lreturn, 1) := by decide +kernel
theorem dX11_musts_0 : decode cX11_musts 0 = .ok (.aload_n 0, 1) := by decide +kernel
theorem dX11_musts_1 : decode cX11_musts 1 = .ok (.getfield 10, 3) := by decide +kernel
theorem dX11_musts_4 : decode cX11_musts 4 = .ok (.iload_n 1, 1) := by decide +kernel
theorem dX11_musts_5 : decode cX11_musts 5 = .ok (.invokevirtual 130, 3) := by decide +kernel
theorem dX11_musts_8 : decode cX11_musts 8 = .ok (.ifCond .eq 14, 3) := by decide +kernel
theorem dX11_musts_11 : decode cX11_musts 11 = .ok (.aload_n 0, 1) := by decide +kernel
theorem dX11_musts_12 : decode cX11_musts 12 = .ok (.getfield 35, 3) := by decide +kernel
theorem dX11_musts_15 : decode cX11_musts 15 = .ok (.iload_n 1, 1) := by decide +kernel
theorem dX11_musts_16 : decode cX11_musts 16 = .ok (.invokevirtual 165, 3) := by decide +kernel
theorem dX11_musts_19 : decode cX11_musts 19 = .ok (.goto 4, 3) := by decide +kernel
theorem dX11_musts_22 : decode cX11_musts 22 = .ok (.iconst (-1), 1) := by decide +kernel
theorem dX11_musts_23 : decode cX11_musts 23 = .ok (.ireturn, 1) := by decide +kernel
theorem dX11_strike_0 : decode cX11_strike 0 = .ok (.aload_n 0, 1) := by decide +kernel
theorem dX11_strike_1 : decode cX11_strike 1 = .ok (.getfield 10, 3) := by decide +kernel
theorem dX11_strike_4 : decode cX11_strike 4 = .ok (.iload_n 1, 1) := by decide +kernel
theorem dX11_strike_5 : decode cX11_strike 5 = .ok (.invokevirtual 168, 3) := by decide +kernel
theorem dX11_strike_8 : decode cX11_strike 8 = .ok (.ireturn, 1) := by decide +kernel
theorem dX11_costs_0 : decode cX11_costs 0 = .ok (.aload_n 0, 1) := by decide +kernel
theorem dX11_costs_1 : decode cX11_costs 1 = .ok (.getfield 10, 3) := by decide +kernel
theorem dX11_costs_4 : decode cX11_costs 4 = .ok (.getfield 171, 3) := by decide +kernel
theorem dX11_costs_7 : decode cX11_costs 7 = .ok (.iload_n 1, 1) := by decide +kernel
theorem dX11_costs_8 : decode cX11_costs 8 = .ok (.invokestatic 174, 3) := by decide +kernel
theorem dX11_costs_11 : decode cX11_costs 11 = .ok (.ifCond .ne 7, 3) := by decide +kernel
theorem dX11_costs_14 : decode cX11_costs 14 = .ok (.ldc2_w 178, 3) := by decide +kernel
theorem dX11_costs_17 : decode cX11_costs 17 = .ok (.lreturn, 1) := by decide +kernel
theorem dX11_costs_18 : decode cX11_costs 18 = .ok (.aload_n 0, 1) := by decide +kernel
theorem dX11_costs_19 : decode cX11_costs 19 = .ok (.getfield 35, 3) := by decide +kernel
theorem dX11_costs_22 : decode cX11_costs 22 = .ok (.aload_n 0, 1) := by decide +kernel
theorem dX11_costs_23 : decode cX11_costs 23 = .ok (.getfield 35, 3) := by decide +kernel
theorem dX11_costs_26 : decode cX11_costs 26 = .ok (.aload_n 0, 1) := by decide +kernel
theorem dX11_costs_27 : decode cX11_costs 27 = .ok (.getfield 10, 3) := by decide +kernel
theorem dX11_costs_30 : decode cX11_costs 30 = .ok (.getfield 171, 3) := by decide +kernel
theorem dX11_costs_33 : decode cX11_costs 33 = .ok (.iload_n 1, 1) := by decide +kernel
theorem dX11_costs_34 : decode cX11_costs 34 = .ok (.invokestatic 180, 3) := by decide +kernel
theorem dX11_costs_37 : decode cX11_costs 37 = .ok (.invokevirtual 134, 3) := by decide +kernel
theorem dX11_costs_40 : decode cX11_costs 40 = .ok (.iconst (-1), 1) := by decide +kernel
theorem dX11_costs_41 : decode cX11_costs 41 = .ok (.invokevirtual 161, 3) := by decide +kernel
theorem dX11_costs_44 : decode cX11_costs 44 = .ok (.aload_n 0, 1) := by decide +kernel
theorem dX11_costs_45 : decode cX11_costs 45 = .ok (.getfield 35, 3) := by decide +kernel
theorem dX11_costs_48 : decode cX11_costs 48 = .ok (.aload_n 0, 1) := by decide +kernel
theorem dX11_costs_49 : decode cX11_costs 49 = .ok (.getfield 35, 3) := by decide +kernel
theorem dX11_costs_52 : decode cX11_costs 52 = .ok (.aload_n 0, 1) := by decide +kernel
theorem dX11_costs_53 : decode cX11_costs 53 = .ok (.getfield 10, 3) := by decide +kernel
theorem dX11_costs_56 : decode cX11_costs 56 = .ok (.getfield 171, 3) := by decide +kernel
theorem dX11_costs_59 : decode cX11_costs 59 = .ok (.invokevirtual 134, 3) := by decide +kernel
theorem dX11_costs_62 : decode cX11_costs 62 = .ok (.iconst (-1), 1) := by decide +kernel
theorem dX11_costs_63 : decode cX11_costs 63 = .ok (.invokevirtual 161, 3) := by decide +kernel
theorem dX11_costs_66 : decode cX11_costs 66 = .ok (.lsub, 1) := by decide +kernel
theorem dX11_costs_67 : decode cX11_costs 67 = .ok (.lreturn, 1) := by decide +kernel
theorem dX11_least_0 : decode cX11_least 0 = .ok (.aload_n 0, 1) := by decide +kernel
theorem dX11_least_1 : decode cX11_least 1 = .ok (.getfield 75, 3) := by decide +kernel
theorem dX11_least_4 : decode cX11_least 4 = .ok (.aload_n 0, 1) := by decide +kernel
theorem dX11_least_5 : decode cX11_least 5 = .ok (.getfield 10, 3) := by decide +kernel
theorem dX11_least_8 : decode cX11_least 8 = .ok (.getfield 171, 3) := by decide +kernel
theorem dX11_least_11 : decode cX11_least 11 = .ok (.invokevirtual 184, 3) := by decide +kernel
theorem dX11_least_14 : decode cX11_least 14 = .ok (.ireturn, 1) := by decide +kernel
theorem dX11_spite_0 : decode cX11_spite 0 = .ok (.iload_n 1, 1) := by decide +kernel
theorem dX11_spite_1 : decode cX11_spite 1 = .ok (.iconst 0, 1) := by decide +kernel
theorem dX11_spite_2 : decode cX11_spite 2 = .ok (.iconst 3, 1) := by decide +kernel
theorem dX11_spite_3 : decode cX11_spite 3 = .ok (.invokestatic 86, 3) := by decide +kernel
theorem dX11_spite_6 : decode cX11_spite 6 = .ok (.ifCond .eq 14, 3) := by decide +kernel
theorem dX11_spite_9 : decode cX11_spite 9 = .ok (.aload_n 0, 1) := by decide +kernel
theorem dX11_spite_10 : decode cX11_spite 10 = .ok (.getfield 66, 3) := by decide +kernel
theorem dX11_spite_13 : decode cX11_spite 13 = .ok (.iload_n 1, 1) := by decide +kernel
theorem dX11_spite_14 : decode cX11_spite 14 = .ok (.invokevirtual 187, 3) := by decide +kernel
theorem dX11_spite_17 : decode cX11_spite 17 = .ok (.goto 4, 3) := by decide +kernel
theorem dX11_spite_20 : decode cX11_spite 20 = .ok (.iconst (-1), 1) := by decide +kernel
theorem dX11_spite_21 : decode cX11_spite 21 = .ok (.ireturn, 1) := by decide +kernel
theorem dX11_vote_0 : decode cX11_vote 0 = .ok (.iload_n 1, 1) := by decide +kernel
theorem dX11_vote_1 : decode cX11_vote 1 = .ok (.iconst 0, 1) := by decide +kernel
theorem dX11_vote_2 : decode cX11_vote 2 = .ok (.iconst 3, 1) := by decide +kernel
theorem dX11_vote_3 : decode cX11_vote 3 = .ok (.invokestatic 86, 3) := by decide +kernel
theorem dX11_vote_6 : decode cX11_vote 6 = .ok (.ifCond .eq 23, 3) := by decide +kernel
theorem dX11_vote_9 : decode cX11_vote 9 = .ok (.aload_n 0, 1) := by decide +kernel
theorem dX11_vote_10 : decode cX11_vote 10 = .ok (.getfield 10, 3) := by decide +kernel
theorem dX11_vote_13 : decode cX11_vote 13 = .ok (.getfield 171, 3) := by decide +kernel
theorem dX11_vote_16 : decode cX11_vote 16 = .ok (.ifCond .eq 13, 3) := by decide +kernel
theorem dX11_vote_19 : decode cX11_vote 19 = .ok (.aload_n 0, 1) := by decide +kernel
theorem dX11_vote_20 : decode cX11_vote 20 = .ok (.getfield 19, 3) := by decide +kernel
theorem dX11_vote_23 : decode cX11_vote 23 = .ok (.invokevirtual 190, 3) := by decide +kernel
theorem dX11_vote_26 : decode cX11_vote 26 = .ok (.ifCond .ne 5, 3) := by decide +kernel
theorem dX11_vote_29 : decode cX11_vote 29 = .ok (.iconst (-1), 1) := by decide +kernel
theorem dX11_vote_30 : decode cX11_vote 30 = .ok (.ireturn, 1) := by decide +kernel
theorem dX11_vote_31 : decode cX11_vote 31 = .ok (.aload_n 0, 1) := by decide +kernel
theorem dX11_vote_32 : decode cX11_vote 32 = .ok (.getfield 66, 3) := by decide +kernel
theorem dX11_vote_35 : decode cX11_vote 35 = .ok (.iload_n 1, 1) := by decide +kernel
theorem dX11_vote_36 : decode cX11_vote 36 = .ok (.invokevirtual 194, 3) := by decide +kernel
theorem dX11_vote_39 : decode cX11_vote 39 = .ok (.ireturn, 1) := by decide +kernel
theorem dX11_order_0 : decode cX11_order 0 = .ok (.aload_n 0, 1) := by decide +kernel
theorem dX11_order_1 : decode cX11_order 1 = .ok (.getfield 75, 3) := by decide +kernel
theorem dX11_order_4 : decode cX11_order 4 = .ok (.iload_n 1, 1) := by decide +kernel
theorem dX11_order_5 : decode cX11_order 5 = .ok (.invokevirtual 197, 3) := by decide +kernel
theorem dX11_order_8 : decode cX11_order 8 = .ok (.ifCond .eq 14, 3) := by decide +kernel
theorem dX11_order_11 : decode cX11_order 11 = .ok (.iload_n 2, 1) := by decide +kernel
theorem dX11_order_12 : decode cX11_order 12 = .ok (.iconst (-1), 1) := by decide +kernel
theorem dX11_order_13 : decode cX11_order 13 = .ok (.iload_n 1, 1) := by decide +kernel
theorem dX11_order_14 : decode cX11_order 14 = .ok (.iconst 1, 1) := by decide +kernel
theorem dX11_order_15 : decode cX11_order 15 = .ok (.isub, 1) := by decide +kernel
theorem dX11_order_16 : decode cX11_order 16 = .ok (.invokestatic 86, 3) := by decide +kernel
theorem dX11_order_19 : decode cX11_order 19 = .ok (.ifCond .ne 7, 3) := by decide +kernel
theorem dX11_order_22 : decode cX11_order 22 = .ok (.ldc2_w 159, 3) := by decide +kernel
theorem dX11_order_25 : decode cX11_order 25 = .ok (.lreturn, 1) := by decide +kernel
theorem dX11_order_26 : decode cX11_order 26 = .ok (.aload_n 0, 1) := by decide +kernel
theorem dX11_order_27 : decode cX11_order 27 = .ok (.getfield 75, 3) := by decide +kernel
theorem dX11_order_30 : decode cX11_order 30 = .ok (.iload_n 1, 1) := by decide +kernel
theorem dX11_order_31 : decode cX11_order 31 = .ok (.invokevirtual 200, 3) := by decide +kernel
theorem dX11_order_34 : decode cX11_order 34 = .ok (.lstore_n 3, 1) := by decide +kernel
theorem dX11_order_35 : decode cX11_order 35 = .ok (.iload_n 2, 1) := by decide +kernel
theorem dX11_order_36 : decode cX11_order 36 = .ok (.iconst (-1), 1) := by decide +kernel
theorem dX11_order_37 : decode cX11_order 37 = .ok (.if_icmp .ne 7, 3) := by decide +kernel
theorem dX11_order_40 : decode cX11_order 40 = .ok (.lload_n 3, 1) := by decide +kernel
theorem dX11_order_41 : decode cX11_order 41 = .ok (.goto 12, 3) := by decide +kernel
theorem dX11_order_44 : decode cX11_order 44 = .ok (.aload_n 0, 1) := by decide +kernel
theorem dX11_order_45 : decode cX11_order 45 = .ok (.getfield 75, 3) := by decide +kernel
theorem dX11_order_48 : decode cX11_order 48 = .ok (.iload_n 2, 1) := by decide +kernel
theorem dX11_order_49 : decode cX11_order 49 = .ok (.invokevirtual 204, 3) := by decide +kernel
theorem dX11_order_52 : decode cX11_order 52 = .ok (.i2l, 1) := by decide +kernel
theorem dX11_order_53 : decode cX11_order 53 = .ok (.lreturn, 1) := by decide +kernel
theorem dX11_gap_0 : decode cX11_gap 0 = .ok (.aload_n 0, 1) := by decide +kernel
theorem dX11_gap_1 : decode cX11_gap 1 = .ok (.getfield 75, 3) := by decide +kernel
theorem dX11_gap_4 : decode cX11_gap 4 = .ok (.iload_n 1, 1) := by decide +kernel
theorem dX11_gap_5 : decode cX11_gap 5 = .ok (.invokevirtual 197, 3) := by decide +kernel
theorem dX11_gap_8 : decode cX11_gap 8 = .ok (.ifCond .ne 7, 3) := by decide +kernel
theorem dX11_gap_11 : decode cX11_gap 11 = .ok (.ldc2_w 159, 3) := by decide +kernel
theorem dX11_gap_14 : decode cX11_gap 14 = .ok (.lreturn, 1) := by decide +kernel
theorem dX11_gap_15 : decode cX11_gap 15 = .ok (.aload_n 0, 1) := by decide +kernel
theorem dX11_gap_16 : decode cX11_gap 16 = .ok (.getfield 75, 3) := by decide +kernel
theorem dX11_gap_19 : decode cX11_gap 19 = .ok (.iload_n 1, 1) := by decide +kernel
theorem dX11_gap_20 : decode cX11_gap 20 = .ok (.invokevirtual 207, 3) := by decide +kernel
theorem dX11_gap_23 : decode cX11_gap 23 = .ok (.aload_n 0, 1) := by decide +kernel
theorem dX11_gap_24 : decode cX11_gap 24 = .ok (.getfield 75, 3) := by decide +kernel
theorem dX11_gap_27 : decode cX11_gap 27 = .ok (.iload_n 1, 1) := by decide +kernel
theorem dX11_gap_28 : decode cX11_gap 28 = .ok (.invokevirtual 200, 3) := by decide +kernel
theorem dX11_gap_31 : decode cX11_gap 31 = .ok (.lsub, 1) := by decide +kernel
theorem dX11_gap_32 : decode cX11_gap 32 = .ok (.lreturn, 1) := by decide +kernel
theorem dX11_row_0 : decode cX11_row 0 = .ok (.iload_n 1, 1) := by decide +kernel
theorem dX11_row_1 : decode cX11_row 1 = .ok (.iconst 1, 1) := by decide +kernel
theorem dX11_row_2 : decode cX11_row 2 = .ok (.bipush 10, 2) := by decide +kernel
theorem dX11_row_4 : decode cX11_row 4 = .ok (.invokestatic 86, 3) := by decide +kernel
theorem dX11_row_7 : decode cX11_row 7 = .ok (.ifCond .eq 23, 3) := by decide +kernel
theorem dX11_row_10 : decode cX11_row 10 = .ok (.iload_n 2, 1) := by decide +kernel
theorem dX11_row_11 : decode cX11_row 11 = .ok (.iconst 0, 1) := by decide +kernel
theorem dX11_row_12 : decode cX11_row 12 = .ok (.iconst 1, 1) := by decide +kernel
theorem dX11_row_13 : decode cX11_row 13 = .ok (.invokestatic 86, 3) := by decide +kernel
theorem dX11_row_16 : decode cX11_row 16 = .ok (.ifCond .eq 14, 3) := by decide +kernel
theorem dX11_row_19 : decode cX11_row 19 = .ok (.iload_n 1, 1) := by decide +kernel
theorem dX11_row_20 : decode cX11_row 20 = .ok (.aload_n 0, 1) := by decide +kernel
theorem dX11_row_21 : decode cX11_row 21 = .ok (.getfield 26, 3) := by decide +kernel
theorem dX11_row_24 : decode cX11_row 24 = .ok (.getfield 111, 3) := by decide +kernel
theorem dX11_row_27 : decode cX11_row 27 = .ok (.if_icmp .le 7, 3) := by decide +kernel
theorem dX11_row_30 : decode cX11_row 30 = .ok (.ldc2_w 159, 3) := by decide +kernel
theorem dX11_row_33 : decode cX11_row 33 = .ok (.lreturn, 1) := by decide +kernel
theorem dX11_row_34 : decode cX11_row 34 = .ok (.aload_n 0, 1) := by decide +kernel
theorem dX11_row_35 : decode cX11_row 35 = .ok (.getfield 75, 3) := by decide +kernel
theorem dX11_row_38 : decode cX11_row 38 = .ok (.aload_n 0, 1) := by decide +kernel
theorem dX11_row_39 : decode cX11_row 39 = .ok (.getfield 26, 3) := by decide +kernel
theorem dX11_row_42 : decode cX11_row 42 = .ok (.iload_n 1, 1) := by decide +kernel
theorem dX11_row_43 : decode cX11_row 43 = .ok (.iload_n 2, 1) := by decide +kernel
theorem dX11_row_44 : decode cX11_row 44 = .ok (.invokevirtual 210, 3) := by decide +kernel
theorem dX11_row_47 : decode cX11_row 47 = .ok (.lstore_n 3, 1) := by decide +kernel
theorem dX11_row_48 : decode cX11_row 48 = .ok (.aload_n 0, 1) := by decide +kernel
theorem dX11_row_49 : decode cX11_row 49 = .ok (.getfield 26, 3) := by decide +kernel
theorem dX11_row_52 : decode cX11_row 52 = .ok (.invokevirtual 120, 3) := by decide +kernel
theorem dX11_row_55 : decode cX11_row 55 = .ok (.lload_n 3, 1) := by decide +kernel
theorem dX11_row_56 : decode cX11_row 56 = .ok (.lreturn, 1) := by decide +kernel
theorem dX11_till_0 : decode cX11_till 0 = .ok (.aload_n 0, 1) := by decide +kernel
theorem dX11_till_1 : decode cX11_till 1 = .ok (.getfield 75, 3) := by decide +kernel
theorem dX11_till_4 : decode cX11_till 4 = .ok (.invokevirtual 214, 3) := by decide +kernel
theorem dX11_till_7 : decode cX11_till 7 = .ok (.ireturn, 1) := by decide +kernel
theorem dX11_kept_0 : decode cX11_kept 0 = .ok (.iload_n 1, 1) := by decide +kernel
theorem dX11_kept_1 : decode cX11_kept 1 = .ok (.iconst 0, 1) := by decide +kernel
theorem dX11_kept_2 : decode cX11_kept 2 = .ok (.aload_n 0, 1) := by decide +kernel
theorem dX11_kept_3 : decode cX11_kept 3 = .ok (.getfield 10, 3) := by decide +kernel
theorem dX11_kept_6 : decode cX11_kept 6 = .ok (.getfield 217, 3) := by decide +kernel
theorem dX11_kept_9 : decode cX11_kept 9 = .ok (.invokestatic 86, 3) := by decide +kernel
theorem dX11_kept_12 : decode cX11_kept 12 = .ok (.ifCond .eq 12, 3) := by decide +kernel
theorem dX11_kept_15 : decode cX11_kept 15 = .ok (.iload_n 2, 1) := by decide +kernel
theorem dX11_kept_16 : decode cX11_kept 16 = .ok (.iconst 0, 1) := by decide +kernel
theorem dX11_kept_17 : decode cX11_kept 17 = .ok (.iconst 1, 1) := by decide +kernel
theorem dX11_kept_18 : decode cX11_kept 18 = .ok (.invokestatic 86, 3) := by decide +kernel
theorem dX11_kept_21 : decode cX11_kept 21 = .ok (.ifCond .ne 7, 3) := by decide +kernel
theorem dX11_kept_24 : decode cX11_kept 24 = .ok (.ldc2_w 159, 3) := by decide +kernel
theorem dX11_kept_27 : decode cX11_kept 27 = .ok (.lreturn, 1) := by decide +kernel
theorem dX11_kept_28 : decode cX11_kept 28 = .ok (.aload_n 0, 1) := by decide +kernel
theorem dX11_kept_29 : decode cX11_kept 29 = .ok (.getfield 75, 3) := by decide +kernel
theorem dX11_kept_32 : decode cX11_kept 32 = .ok (.iload_n 1, 1) := by decide +kernel
theorem dX11_kept_33 : decode cX11_kept 33 = .ok (.invokevirtual 218, 3) := by decide +kernel
theorem dX11_kept_36 : decode cX11_kept 36 = .ok (.istore_n 3, 1) := by decide +kernel
theorem dX11_kept_37 : decode cX11_kept 37 = .ok (.iload_n 2, 1) := by decide +kernel
theorem dX11_kept_38 : decode cX11_kept 38 = .ok (.ifCond .ne 8, 3) := by decide +kernel
theorem dX11_kept_41 : decode cX11_kept 41 = .ok (.iload_n 3, 1) := by decide +kernel
theorem dX11_kept_42 : decode cX11_kept 42 = .ok (.i2l, 1) := by decide +kernel
theorem dX11_kept_43 : decode cX11_kept 43 = .ok (.goto 19, 3) := by decide +kernel
theorem dX11_kept_46 : decode cX11_kept 46 = .ok (.aload_n 0, 1) := by decide +kernel
theorem dX11_kept_47 : decode cX11_kept 47 = .ok (.getfield 35, 3) := by decide +kernel
theorem dX11_kept_50 : decode cX11_kept 50 = .ok (.aload_n 0, 1) := by decide +kernel
theorem dX11_kept_51 : decode cX11_kept 51 = .ok (.getfield 35, 3) := by decide +kernel
theorem dX11_kept_54 : decode cX11_kept 54 = .ok (.iload_n 3, 1) := by decide +kernel
theorem dX11_kept_55 : decode cX11_kept 55 = .ok (.invokevirtual 134, 3) := by decide +kernel
theorem dX11_kept_58 : decode cX11_kept 58 = .ok (.iconst (-1), 1) := by decide +kernel
theorem dX11_kept_59 : decode cX11_kept 59 = .ok (.invokevirtual 161, 3) := by decide +kernel
theorem dX11_kept_62 : decode cX11_kept 62 = .ok (.lreturn, 1) := by decide +kernel
theorem dX11_back_0 : decode cX11_back 0 = .ok (.iload_n 1, 1) := by decide +kernel
theorem dX11_back_1 : decode cX11_back 1 = .ok (.iconst 0, 1) := by decide +kernel
theorem dX11_back_2 : decode cX11_back 2 = .ok (.iconst 3, 1) := by decide +kernel
theorem dX11_back_3 : decode cX11_back 3 = .ok (.invokestatic 86, 3) := by decide +kernel
theorem dX11_back_6 : decode cX11_back 6 = .ok (.ifCond .eq 34, 3) := by decide +kernel
theorem dX11_back_9 : decode cX11_back 9 = .ok (.aload_n 0, 1) := by decide +kernel
theorem dX11_back_10 : decode cX11_back 10 = .ok (.getfield 10, 3) := by decide +kernel
theorem dX11_back_13 : decode cX11_back 13 = .ok (.getfield 171, 3) := by decide +kernel
theorem dX11_back_16 : decode cX11_back 16 = .ok (.aload_n 0, 1) := by decide +kernel
theorem dX11_back_17 : decode cX11_back 17 = .ok (.getfield 10, 3) := by decide +kernel
theorem dX11_back_20 : decode cX11_back 20 = .ok (.invokevirtual 221, 3) := by decide +kernel
theorem dX11_back_23 : decode cX11_back 23 = .ok (.if_icmp .eq 17, 3) := by decide +kernel
theorem dX11_back_26 : decode cX11_back 26 = .ok (.aload_n 0, 1) := by decide +kernel
theorem dX11_back_27 : decode cX11_back 27 = .ok (.getfield 10, 3) := by decide +kernel
theorem dX11_back_30 : decode cX11_back 30 = .ok (.getfield 171, 3) := by decide +kernel
theorem dX11_back_33 : decode cX11_back 33 = .ok (.invokestatic 224, 3) := by decide +kernel
theorem dX11_back_36 : decode cX11_back 36 = .ok (.iconst 2, 1) := by decide +kernel
theorem dX11_back_37 : decode cX11_back 37 = .ok (.if_icmp .ge 7, 3) := by decide +kernel
theorem dX11_back_40 : decode cX11_back 40 = .ok (.ldc2_w 159, 3) := by decide +kernel
theorem dX11_back_43 : decode cX11_back 43 = .ok (.lreturn, 1) := by decide +kernel
theorem dX11_back_44 : decode cX11_back 44 = .ok (.aload_n 0, 1) := by decide +kernel
theorem dX11_back_45 : decode cX11_back 45 = .ok (.getfield 75, 3) := by decide +kernel
theorem dX11_back_48 : decode cX11_back 48 = .ok (.iload_n 1, 1) := by decide +kernel
theorem dX11_back_49 : decode cX11_back 49 = .ok (.invokevirtual 229, 3) := by decide +kernel
theorem dX11_back_52 : decode cX11_back 52 = .ok (.lreturn, 1) := by decide +kernel
theorem dX11_told_0 : decode cX11_told 0 = .ok (.aload_n 0, 1) := by decide +kernel
theorem dX11_told_1 : decode cX11_told 1 = .ok (.getfield 10, 3) := by decide +kernel
theorem dX11_told_4 : decode cX11_told 4 = .ok (.iload_n 1, 1) := by decide +kernel
theorem dX11_told_5 : decode cX11_told 5 = .ok (.invokevirtual 232, 3) := by decide +kernel
theorem dX11_told_8 : decode cX11_told 8 = .ok (.ifCond .ne 5, 3) := by decide +kernel
theorem dX11_told_11 : decode cX11_told 11 = .ok (.iconst (-1), 1) := by decide +kernel
theorem dX11_told_12 : decode cX11_told 12 = .ok (.ireturn, 1) := by decide +kernel
theorem dX11_told_13 : decode cX11_told 13 = .ok (.aload_n 0, 1) := by decide +kernel
theorem dX11_told_14 : decode cX11_told 14 = .ok (.getfield 35, 3) := by decide +kernel
theorem dX11_told_17 : decode cX11_told 17 = .ok (.aload_n 0, 1) := by decide +kernel
theorem dX11_told_18 : decode cX11_told 18 = .ok (.getfield 10, 3) := by decide +kernel
theorem dX11_told_21 : decode cX11_told 21 = .ok (.getfield 171, 3) := by decide +kernel
theorem dX11_told_24 : decode cX11_told 24 = .ok (.iload_n 1, 1) := by decide +kernel
theorem dX11_told_25 : decode cX11_told 25 = .ok (.invokestatic 180, 3) := by decide +kernel
theorem dX11_told_28 : decode cX11_told 28 = .ok (.invokevirtual 134, 3) := by decide +kernel
theorem dX11_told_31 : decode cX11_told 31 = .ok (.aload_n 0, 1) := by decide +kernel
theorem dX11_told_32 : decode cX11_told 32 = .ok (.getfield 10, 3) := by decide +kernel
theorem dX11_told_35 : decode cX11_told 35 = .ok (.iload_n 1, 1) := by decide +kernel
theorem dX11_told_36 : decode cX11_told 36 = .ok (.invokevirtual 235, 3) := by decide +kernel
theorem dX11_told_39 : decode cX11_told 39 = .ok (.invokevirtual 138, 3) := by decide +kernel
theorem dX11_told_42 : decode cX11_told 42 = .ok (.ireturn, 1) := by decide +kernel
theorem dX11_leads_0 : decode cX11_leads 0 = .ok (.aload_n 0, 1) := by decide +kernel
theorem dX11_leads_1 : decode cX11_leads 1 = .ok (.getfield 10, 3) := by decide +kernel
theorem dX11_leads_4 : decode cX11_leads 4 = .ok (.iload_n 1, 1) := by decide +kernel
theorem dX11_leads_5 : decode cX11_leads 5 = .ok (.invokevirtual 232, 3) := by decide +kernel
theorem dX11_leads_8 : decode cX11_leads 8 = .ok (.ifCond .eq 14, 3) := by decide +kernel
theorem dX11_leads_11 : decode cX11_leads 11 = .ok (.aload_n 0, 1) := by decide +kernel
theorem dX11_leads_12 : decode cX11_leads 12 = .ok (.getfield 82, 3) := by decide +kernel
theorem dX11_leads_15 : decode cX11_leads 15 = .ok (.iload_n 1, 1) := by decide +kernel
theorem dX11_leads_16 : decode cX11_leads 16 = .ok (.invokevirtual 238, 3) := by decide +kernel
theorem dX11_leads_19 : decode cX11_leads 19 = .ok (.goto 4, 3) := by decide +kernel
theorem dX11_leads_22 : decode cX11_leads 22 = .ok (.iconst (-1), 1) := by decide +kernel
theorem dX11_leads_23 : decode cX11_leads 23 = .ok (.ireturn, 1) := by decide +kernel
theorem dX11_round_0 : decode cX11_round 0 = .ok (.aload_n 0, 1) := by decide +kernel
theorem dX11_round_1 : decode cX11_round 1 = .ok (.getfield 82, 3) := by decide +kernel
theorem dX11_round_4 : decode cX11_round 4 = .ok (.invokevirtual 241, 3) := by decide +kernel
theorem dX11_round_7 : decode cX11_round 7 = .ok (.ireturn, 1) := by decide +kernel
theorem dX11_fewest_0 : decode cX11_fewest 0 = .ok (.aload_n 0, 1) := by decide +kernel
theorem dX11_fewest_1 : decode cX11_fewest 1 = .ok (.getfield 82, 3) := by decide +kernel
theorem dX11_fewest_4 : decode cX11_fewest 4 = .ok (.invokevirtual 244, 3) := by decide +kernel
theorem dX11_fewest_7 : decode cX11_fewest 7 = .ok (.ireturn, 1) := by decide +kernel
theorem dX11_law_0 : decode cX11_law 0 = .ok (.iload_n 1, 1) := by decide +kernel
theorem dX11_law_1 : decode cX11_law 1 = .ok (.iconst 0, 1) := by decide +kernel
theorem dX11_law_2 : decode cX11_law 2 = .ok (.iconst 3, 1) := by decide +kernel
theorem dX11_law_3 : decode cX11_law 3 = .ok (.invokestatic 86, 3) := by decide +kernel
theorem dX11_law_6 : decode cX11_law 6 = .ok (.ifCond .eq 24, 3) := by decide +kernel
theorem dX11_law_9 : decode cX11_law 9 = .ok (.iload_n 2, 1) := by decide +kernel
theorem dX11_law_10 : decode cX11_law 10 = .ok (.iconst 1, 1) := by decide +kernel
theorem dX11_law_11 : decode cX11_law 11 = .ok (.bipush 60, 2) := by decide +kernel
theorem dX11_law_13 : decode cX11_law 13 = .ok (.invokestatic 86, 3) := by decide +kernel
theorem dX11_law_16 : decode cX11_law 16 = .ok (.ifCond .eq 14, 3) := by decide +kernel
theorem dX11_law_19 : decode cX11_law 19 = .ok (.iload_n 2, 1) := by decide +kernel
theorem dX11_law_20 : decode cX11_law 20 = .ok (.aload_n 0, 1) := by decide +kernel
theorem dX11_law_21 : decode cX11_law 21 = .ok (.getfield 26, 3) := by decide +kernel
theorem dX11_law_24 : decode cX11_law 24 = .ok (.getfield 111, 3) := by decide +kernel
theorem dX11_law_27 : decode cX11_law 27 = .ok (.if_icmp .le 5, 3) := by decide +kernel
theorem dX11_law_30 : decode cX11_law 30 = .ok (.iconst (-1), 1) := by decide +kernel
theorem dX11_law_31 : decode cX11_law 31 = .ok (.ireturn, 1) := by decide +kernel
theorem dX11_law_32 : decode cX11_law 32 = .ok (.aload_n 0, 1) := by decide +kernel
theorem dX11_law_33 : decode cX11_law 33 = .ok (.getfield 57, 3) := by decide +kernel
theorem dX11_law_36 : decode cX11_law 36 = .ok (.iload_n 2, 1) := by decide +kernel
theorem dX11_law_37 : decode cX11_law 37 = .ok (.invokevirtual 247, 3) := by decide +kernel
theorem dX11_law_40 : decode cX11_law 40 = .ok (.istore_n 3, 1) := by decide +kernel
theorem dX11_law_41 : decode cX11_law 41 = .ok (.aload_n 0, 1) := by decide +kernel
theorem dX11_law_42 : decode cX11_law 42 = .ok (.getfield 26, 3) := by decide +kernel
theorem dX11_law_45 : decode cX11_law 45 = .ok (.invokevirtual 120, 3) := by decide +kernel
theorem dX11_law_48 : decode cX11_law 48 = .ok (.iload_n 3, 1) := by decide +kernel
theorem dX11_law_49 : decode cX11_law 49 = .ok (.ifCond .lt 25, 3) := by decide +kernel
theorem dX11_law_52 : decode cX11_law 52 = .ok (.aload_n 0, 1) := by decide +kernel
theorem dX11_law_53 : decode cX11_law 53 = .ok (.getfield 50, 3) := by decide +kernel
theorem dX11_law_56 : decode cX11_law 56 = .ok (.iload_n 1, 1) := by decide +kernel
theorem dX11_law_57 : decode cX11_law 57 = .ok (.aaload, 1) := by decide +kernel
theorem dX11_law_58 : decode cX11_law 58 = .ok (.ifnull 16, 3) := by decide +kernel
theorem dX11_law_61 : decode cX11_law 61 = .ok (.aload_n 0, 1) := by decide +kernel
theorem dX11_law_62 : decode cX11_law 62 = .ok (.getfield 50, 3) := by decide +kernel
theorem dX11_law_65 : decode cX11_law 65 = .ok (.iload_n 1, 1) := by decide +kernel
theorem dX11_law_66 : decode cX11_law 66 = .ok (.aaload, 1) := by decide +kernel
theorem dX11_law_67 : decode cX11_law 67 = .ok (.aload_n 0, 1) := by decide +kernel
theorem dX11_law_68 : decode cX11_law 68 = .ok (.getfield 57, 3) := by decide +kernel
theorem dX11_law_71 : decode cX11_law 71 = .ok (.invokevirtual 248, 3) := by decide +kernel
theorem dX11_law_74 : decode cX11_law 74 = .ok (.iload_n 3, 1) := by decide +kernel
theorem dX11_law_75 : decode cX11_law 75 = .ok (.ireturn, 1) := by decide +kernel
theorem dX11_lawIs_0 : decode cX11_lawIs 0 = .ok (.iload_n 1, 1) := by decide +kernel
theorem dX11_lawIs_1 : decode cX11_lawIs 1 = .ok (.iconst 0, 1) := by decide +kernel
theorem dX11_lawIs_2 : decode cX11_lawIs 2 = .ok (.iconst 3, 1) := by decide +kernel
theorem dX11_lawIs_3 : decode cX11_lawIs 3 = .ok (.invokestatic 86, 3) := by decide +kernel
theorem dX11_lawIs_6 : decode cX11_lawIs 6 = .ok (.ifCond .eq 12, 3) := by decide +kernel
theorem dX11_lawIs_9 : decode cX11_lawIs 9 = .ok (.iload_n 2, 1) := by decide +kernel
theorem dX11_lawIs_10 : decode cX11_lawIs 10 = .ok (.iconst 0, 1) := by decide +kernel
theorem dX11_lawIs_11 : decode cX11_lawIs 11 = .ok (.iconst 3, 1) := by decide +kernel
theorem dX11_lawIs_12 : decode cX11_lawIs 12 = .ok (.invokestatic 86, 3) := by decide +kernel
theorem dX11_lawIs_15 : decode cX11_lawIs 15 = .ok (.ifCond .ne 5, 3) := by decide +kernel
theorem dX11_lawIs_18 : decode cX11_lawIs 18 = .ok (.iconst (-1), 1) := by decide +kernel
theorem dX11_lawIs_19 : decode cX11_lawIs 19 = .ok (.ireturn, 1) := by decide +kernel
theorem dX11_lawIs_20 : decode cX11_lawIs 20 = .ok (.aload_n 0, 1) := by decide +kernel
theorem dX11_lawIs_21 : decode cX11_lawIs 21 = .ok (.getfield 50, 3) := by decide +kernel
theorem dX11_lawIs_24 : decode cX11_lawIs 24 = .ok (.iload_n 1, 1) := by decide +kernel
theorem dX11_lawIs_25 : decode cX11_lawIs 25 = .ok (.aaload, 1) := by decide +kernel
theorem dX11_lawIs_26 : decode cX11_lawIs 26 = .ok (.astore_n 3, 1) := by decide +kernel
theorem dX11_lawIs_27 : decode cX11_lawIs 27 = .ok (.aload_n 3, 1) := by decide +kernel
theorem dX11_lawIs_28 : decode cX11_lawIs 28 = .ok (.ifnull 10, 3) := by decide +kernel
theorem dX11_lawIs_31 : decode cX11_lawIs 31 = .ok (.aload_n 3, 1) := by decide +kernel
theorem dX11_lawIs_32 : decode cX11_lawIs 32 = .ok (.getfield 252, 3) := by decide +kernel
theorem dX11_lawIs_35 : decode cX11_lawIs 35 = .ok (.ifCond .ne 5, 3) := by decide +kernel
theorem dX11_lawIs_38 : decode cX11_lawIs 38 = .ok (.iconst (-1), 1) := by decide +kernel
theorem dX11_lawIs_39 : decode cX11_lawIs 39 = .ok (.ireturn, 1) := by decide +kernel
theorem dX11_lawIs_40 : decode cX11_lawIs 40 = .ok (.iload_n 2, 1) := by decide +kernel
theorem dX11_lawIs_41 : decode cX11_lawIs 41 = .ok (.tableswitch 52 0 2 #[27, 32, 37], 27) := by decide +kernel
theorem dX11_lawIs_68 : decode cX11_lawIs 68 = .ok (.aload_n 3, 1) := by decide +kernel
theorem dX11_lawIs_69 : decode cX11_lawIs 69 = .ok (.getfield 256, 3) := by decide +kernel
theorem dX11_lawIs_72 : decode cX11_lawIs 72 = .ok (.ireturn, 1) := by decide +kernel
theorem dX11_lawIs_73 : decode cX11_lawIs 73 = .ok (.aload_n 3, 1) := by decide +kernel
theorem dX11_lawIs_74 : decode cX11_lawIs 74 = .ok (.invokevirtual 259, 3) := by decide +kernel
theorem dX11_lawIs_77 : decode cX11_lawIs 77 = .ok (.ireturn, 1) := by decide +kernel
theorem dX11_lawIs_78 : decode cX11_lawIs 78 = .ok (.aload_n 3, 1) := by decide +kernel
theorem dX11_lawIs_79 : decode cX11_lawIs 79 = .ok (.getfield 262, 3) := by decide +kernel
theorem dX11_lawIs_82 : decode cX11_lawIs 82 = .ok (.aload_n 0, 1) := by decide +kernel
theorem dX11_lawIs_83 : decode cX11_lawIs 83 = .ok (.getfield 10, 3) := by decide +kernel
theorem dX11_lawIs_86 : decode cX11_lawIs 86 = .ok (.getfield 171, 3) := by decide +kernel
theorem dX11_lawIs_89 : decode cX11_lawIs 89 = .ok (.iconst (-1), 1) := by decide +kernel
theorem dX11_lawIs_90 : decode cX11_lawIs 90 = .ok (.ixor, 1) := by decide +kernel
theorem dX11_lawIs_91 : decode cX11_lawIs 91 = .ok (.iand, 1) := by decide +kernel
theorem dX11_lawIs_92 : decode cX11_lawIs 92 = .ok (.ireturn, 1) := by decide +kernel
theorem dX11_lawIs_93 : decode cX11_lawIs 93 = .ok (.aload_n 0, 1) := by decide +kernel
theorem dX11_lawIs_94 : decode cX11_lawIs 94 = .ok (.getfield 35, 3) := by decide +kernel
theorem dX11_lawIs_97 : decode cX11_lawIs 97 = .ok (.aload_n 0, 1) := by decide +kernel
theorem dX11_lawIs_98 : decode cX11_lawIs 98 = .ok (.getfield 10, 3) := by decide +kernel
theorem dX11_lawIs_101 : decode cX11_lawIs 101 = .ok (.getfield 171, 3) := by decide +kernel
theorem dX11_lawIs_104 : decode cX11_lawIs 104 = .ok (.invokevirtual 134, 3) := by decide +kernel
theorem dX11_lawIs_107 : decode cX11_lawIs 107 = .ok (.aload_n 3, 1) := by decide +kernel
theorem dX11_lawIs_108 : decode cX11_lawIs 108 = .ok (.getfield 256, 3) := by decide +kernel
theorem dX11_lawIs_111 : decode cX11_lawIs 111 = .ok (.invokevirtual 138, 3) := by decide +kernel
theorem dX11_lawIs_114 : decode cX11_lawIs 114 = .ok (.ireturn, 1) := by decide +kernel
theorem dX11_madeUp_0 : decode cX11_madeUp 0 = .ok (.iload_n 1, 1) := by decide +kernel
theorem dX11_madeUp_1 : decode cX11_madeUp 1 = .ok (.iconst 1, 1) := by decide +kernel
theorem dX11_madeUp_2 : decode cX11_madeUp 2 = .ok (.bipush 9, 2) := by decide +kernel
theorem dX11_madeUp_4 : decode cX11_madeUp 4 = .ok (.invokestatic 86, 3) := by decide +kernel
theorem dX11_madeUp_7 : decode cX11_madeUp 7 = .ok (.ifCond .eq 12, 3) := by decide +kernel
theorem dX11_madeUp_10 : decode cX11_madeUp 10 = .ok (.iload_n 2, 1) := by decide +kernel
theorem dX11_madeUp_11 : decode cX11_madeUp 11 = .ok (.iconst 0, 1) := by decide +kernel
theorem dX11_madeUp_12 : decode cX11_madeUp 12 = .ok (.iconst 1, 1) := by decide +kernel
theorem dX11_madeUp_13 : decode cX11_madeUp 13 = .ok (.invokestatic 86, 3) := by decide +kernel
theorem dX11_madeUp_16 : decode cX11_madeUp 16 = .ok (.ifCond .ne 7, 3) := by decide +kernel
theorem dX11_madeUp_19 : decode cX11_madeUp 19 = .ok (.ldc2_w 159, 3) := by decide +kernel
theorem dX11_madeUp_22 : decode cX11_madeUp 22 = .ok (.lreturn, 1) := by decide +kernel
theorem dX11_madeUp_23 : decode cX11_madeUp 23 = .ok (.aload_n 0, 1) := by decide +kernel
theorem dX11_madeUp_24 : decode cX11_madeUp 24 = .ok (.getfield 35, 3) := by decide +kernel
theorem dX11_madeUp_27 : decode cX11_madeUp 27 = .ok (.iload_n 1, 1) := by decide +kernel
theorem dX11_madeUp_28 : decode cX11_madeUp 28 = .ok (.iload_n 2, 1) := by decide +kernel
theorem dX11_madeUp_29 : decode cX11_madeUp 29 = .ok (.invokevirtual 265, 3) := by decide +kernel
theorem dX11_madeUp_32 : decode cX11_madeUp 32 = .ok (.lreturn, 1) := by decide +kernel
theorem dX11_check_0 : decode cX11_check 0 = .ok (.aload_n 0, 1) := by decide +kernel
theorem dX11_check_1 : decode cX11_check 1 = .ok (.getfield 10, 3) := by decide +kernel
theorem dX11_check_4 : decode cX11_check 4 = .ok (.iload_n 1, 1) := by decide +kernel
theorem dX11_check_5 : decode cX11_check 5 = .ok (.invokevirtual 130, 3) := by decide +kernel
theorem dX11_check_8 : decode cX11_check 8 = .ok (.ifCond .eq 26, 3) := by decide +kernel
theorem dX11_check_11 : decode cX11_check 11 = .ok (.iload_n 2, 1) := by decide +kernel
theorem dX11_check_12 : decode cX11_check 12 = .ok (.iconst 0, 1) := by decide +kernel
theorem dX11_check_13 : decode cX11_check 13 = .ok (.bipush 64, 2) := by decide +kernel
theorem dX11_check_15 : decode cX11_check 15 = .ok (.invokestatic 86, 3) := by decide +kernel
theorem dX11_check_18 : decode cX11_check 18 = .ok (.ifCond .eq 16, 3) := by decide +kernel
theorem dX11_check_21 : decode cX11_check 21 = .ok (.iconst 4, 1) := by decide +kernel
theorem dX11_check_22 : decode cX11_check 22 = .ok (.iload_n 2, 1) := by decide +kernel
theorem dX11_check_23 : decode cX11_check 23 = .ok (.imul, 1) := by decide +kernel
theorem dX11_check_24 : decode cX11_check 24 = .ok (.aload_n 0, 1) := by decide +kernel
theorem dX11_check_25 : decode cX11_check 25 = .ok (.getfield 26, 3) := by decide +kernel
theorem dX11_check_28 : decode cX11_check 28 = .ok (.getfield 111, 3) := by decide +kernel
theorem dX11_check_31 : decode cX11_check 31 = .ok (.if_icmp .le 6, 3) := by decide +kernel
theorem dX11_check_34 : decode cX11_check 34 = .ok (.bipush (-2), 2) := by decide +kernel
theorem dX11_check_36 : decode cX11_check 36 = .ok (.ireturn, 1) := by decide +kernel
theorem dX11_check_37 : decode cX11_check 37 = .ok (.aload_n 0, 1) := by decide +kernel
theorem dX11_check_38 : decode cX11_check 38 = .ok (.getfield 35, 3) := by decide +kernel
theorem dX11_check_41 : decode cX11_check 41 = .ok (.iload_n 1, 1) := by decide +kernel
theorem dX11_check_42 : decode cX11_check 42 = .ok (.invokevirtual 134, 3) := by decide +kernel
theorem dX11_check_45 : decode cX11_check 45 = .ok (.astore_n 3, 1) := by decide +kernel
theorem dX11_check_46 : decode cX11_check 46 = .ok (.iconst (-1), 1) := by decide +kernel
theorem dX11_check_47 : decode cX11_check 47 = .ok (.istore 4, 2) := by decide +kernel
theorem dX11_check_49 : decode cX11_check 49 = .ok (.iconst 0, 1) := by decide +kernel
theorem dX11_check_50 : decode cX11_check 50 = .ok (.istore 5, 2) := by decide +kernel
theorem dX11_check_52 : decode cX11_check 52 = .ok (.iload 5, 2) := by decide +kernel
theorem dX11_check_54 : decode cX11_check 54 = .ok (.iload_n 2, 1) := by decide +kernel
theorem dX11_check_55 : decode cX11_check 55 = .ok (.if_icmp .ge 37, 3) := by decide +kernel
theorem dX11_check_58 : decode cX11_check 58 = .ok (.iload 4, 2) := by decide +kernel
theorem dX11_check_60 : decode cX11_check 60 = .ok (.iconst (-1), 1) := by decide +kernel
theorem dX11_check_61 : decode cX11_check 61 = .ok (.if_icmp .ne 31, 3) := by decide +kernel
theorem dX11_check_64 : decode cX11_check 64 = .ok (.aload_n 0, 1) := by decide +kernel
theorem dX11_check_65 : decode cX11_check 65 = .ok (.getfield 26, 3) := by decide +kernel
theorem dX11_check_68 : decode cX11_check 68 = .ok (.iload 5, 2) := by decide +kernel
theorem dX11_check_70 : decode cX11_check 70 = .ok (.invokevirtual 269, 3) := by decide +kernel
theorem dX11_check_73 : decode cX11_check 73 = .ok (.aload_n 3, 1) := by decide +kernel
theorem dX11_check_74 : decode cX11_check 74 = .ok (.iload 5, 2) := by decide +kernel
theorem dX11_check_76 : decode cX11_check 76 = .ok (.invokevirtual 138, 3) := by decide +kernel
theorem dX11_check_79 : decode cX11_check 79 = .ok (.if_icmp .eq 7, 3) := by decide +kernel
theorem dX11_check_82 : decode cX11_check 82 = .ok (.iload 5, 2) := by decide +kernel
theorem dX11_check_84 : decode cX11_check 84 = .ok (.istore 4, 2) := by decide +kernel
theorem dX11_check_86 : decode cX11_check 86 = .ok (.iinc 5 1, 3) := by decide +kernel
theorem dX11_check_89 : decode cX11_check 89 = .ok (.goto (-37), 3) := by decide +kernel
theorem dX11_check_92 : decode cX11_check 92 = .ok (.aload_n 0, 1) := by decide +kernel
theorem dX11_check_93 : decode cX11_check 93 = .ok (.getfield 26, 3) := by decide +kernel
theorem dX11_check_96 : decode cX11_check 96 = .ok (.invokevirtual 120, 3) := by decide +kernel
theorem dX11_check_99 : decode cX11_check 99 = .ok (.iload 4, 2) := by decide +kernel
theorem dX11_check_101 : decode cX11_check 101 = .ok (.ireturn, 1) := by decide +kernel
theorem dX11_count_0 : decode cX11_count 0 = .ok (.iload_n 1, 1) := by decide +kernel
theorem dX11_count_1 : decode cX11_count 1 = .ok (.tableswitch 111 0 7 #[47, 55, 63, 71, 79, 90, 98, 106], 47) := by decide +kernel
theorem dX11_count_48 : decode cX11_count 48 = .ok (.aload_n 0, 1) := by decide +kernel
theorem dX11_count_49 : decode cX11_count 49 = .ok (.getfield 10, 3) := by decide +kernel
theorem dX11_count_52 : decode cX11_count 52 = .ok (.getfield 217, 3) := by decide +kernel
theorem dX11_count_55 : decode cX11_count 55 = .ok (.ireturn, 1) := by decide +kernel
theorem dX11_count_56 : decode cX11_count 56 = .ok (.aload_n 0, 1) := by decide +kernel
theorem dX11_count_57 : decode cX11_count 57 = .ok (.getfield 10, 3) := by decide +kernel
theorem dX11_count_60 : decode cX11_count 60 = .ok (.getfield 171, 3) := by decide +kernel
theorem dX11_count_63 : decode cX11_count 63 = .ok (.ireturn, 1) := by decide +kernel
theorem dX11_count_64 : decode cX11_count 64 = .ok (.aload_n 0, 1) := by decide +kernel
theorem dX11_count_65 : decode cX11_count 65 = .ok (.getfield 10, 3) := by decide +kernel
theorem dX11_count_68 : decode cX11_count 68 = .ok (.getfield 272, 3) := by decide +kernel
theorem dX11_count_71 : decode cX11_count 71 = .ok (.ireturn, 1) := by decide +kernel
theorem dX11_count_72 : decode cX11_count 72 = .ok (.aload_n 0, 1) := by decide +kernel
theorem dX11_count_73 : decode cX11_count 73 = .ok (.getfield 19, 3) := by decide +kernel
theorem dX11_count_76 : decode cX11_count 76 = .ok (.getfield 101, 3) := by decide +kernel
theorem dX11_count_79 : decode cX11_count 79 = .ok (.ireturn, 1) := by decide +kernel
theorem dX11_count_80 : decode cX11_count 80 = .ok (.aload_n 0, 1) := by decide +kernel
theorem dX11_count_81 : decode cX11_count 81 = .ok (.getfield 35, 3) := by decide +kernel
theorem dX11_count_84 : decode cX11_count 84 = .ok (.getfield 275, 3) := by decide +kernel
theorem dX11_count_87 : decode cX11_count 87 = .ok (.getfield 278, 3) := by decide +kernel
theorem dX11_count_90 : decode cX11_count 90 = .ok (.ireturn, 1) := by decide +kernel
theorem dX11_count_91 : decode cX11_count 91 = .ok (.aload_n 0, 1) := by decide +kernel
theorem dX11_count_92 : decode cX11_count 92 = .ok (.getfield 26, 3) := by decide +kernel
theorem dX11_count_95 : decode cX11_count 95 = .ok (.getfield 111, 3) := by decide +kernel
theorem dX11_count_98 : decode cX11_count 98 = .ok (.ireturn, 1) := by decide +kernel
theorem dX11_count_99 : decode cX11_count 99 = .ok (.aload_n 0, 1) := by decide +kernel
theorem dX11_count_100 : decode cX11_count 100 = .ok (.getfield 19, 3) := by decide +kernel
theorem dX11_count_103 : decode cX11_count 103 = .ok (.getfield 108, 3) := by decide +kernel
theorem dX11_count_106 : decode cX11_count 106 = .ok (.ireturn, 1) := by decide +kernel
theorem dX11_count_107 : decode cX11_count 107 = .ok (.aload_n 0, 1) := by decide +kernel
theorem dX11_count_108 : decode cX11_count 108 = .ok (.invokevirtual 283, 3) := by decide +kernel
theorem dX11_count_111 : decode cX11_count 111 = .ok (.ireturn, 1) := by decide +kernel
theorem dX11_count_112 : decode cX11_count 112 = .ok (.iload_n 1, 1) := by decide +kernel
theorem dX11_count_113 : decode cX11_count 113 = .ok (.bipush 10, 2) := by decide +kernel
theorem dX11_count_115 : decode cX11_count 115 = .ok (.bipush 19, 2) := by decide +kernel
theorem dX11_count_117 : decode cX11_count 117 = .ok (.invokestatic 86, 3) := by decide +kernel
theorem dX11_count_120 : decode cX11_count 120 = .ok (.ifCond .eq 17, 3) := by decide +kernel
theorem dX11_count_123 : decode cX11_count 123 = .ok (.aload_n 0, 1) := by decide +kernel
theorem dX11_count_124 : decode cX11_count 124 = .ok (.getfield 10, 3) := by decide +kernel
theorem dX11_count_127 : decode cX11_count 127 = .ok (.iload_n 1, 1) := by decide +kernel
theorem dX11_count_128 : decode cX11_count 128 = .ok (.bipush 10, 2) := by decide +kernel
theorem dX11_count_130 : decode cX11_count 130 = .ok (.isub, 1) := by decide +kernel
theorem dX11_count_131 : decode cX11_count 131 = .ok (.invokevirtual 286, 3) := by decide +kernel
theorem dX11_count_134 : decode cX11_count 134 = .ok (.goto 30, 3) := by decide +kernel
theorem dX11_count_137 : decode cX11_count 137 = .ok (.iload_n 1, 1) := by decide +kernel
theorem dX11_count_138 : decode cX11_count 138 = .ok (.bipush 20, 2) := by decide +kernel
theorem dX11_count_140 : decode cX11_count 140 = .ok (.bipush 23, 2) := by decide +kernel
theorem dX11_count_142 : decode cX11_count 142 = .ok (.invokestatic 86, 3) := by decide +kernel
theorem dX11_count_145 : decode cX11_count 145 = .ok (.ifCond .eq 18, 3) := by decide +kernel
theorem dX11_count_148 : decode cX11_count 148 = .ok (.aload_n 0, 1) := by decide +kernel
theorem dX11_count_149 : decode cX11_count 149 = .ok (.getfield 19, 3) := by decide +kernel
theorem dX11_count_152 : decode cX11_count 152 = .ok (.getfield 94, 3) := by decide +kernel
theorem dX11_count_155 : decode cX11_count 155 = .ok (.iload_n 1, 1) := by decide +kernel
theorem dX11_count_156 : decode cX11_count 156 = .ok (.bipush 20, 2) := by decide +kernel
theorem dX11_count_158 : decode cX11_count 158 = .ok (.isub, 1) := by decide +kernel
theorem dX11_count_159 : decode cX11_count 159 = .ok (.iaload, 1) := by decide +kernel
theorem dX11_count_160 : decode cX11_count 160 = .ok (.goto 4, 3) := by decide +kernel
theorem dX11_count_163 : decode cX11_count 163 = .ok (.iconst (-1), 1) := by decide +kernel
theorem dX11_count_164 : decode cX11_count 164 = .ok (.ireturn, 1) := by decide +kernel
theorem dX11_toldLaws_0 : decode cX11_toldLaws 0 = .ok (.iconst 0, 1) := by decide +kernel
theorem dX11_toldLaws_1 : decode cX11_toldLaws 1 = .ok (.istore_n 1, 1) := by decide +kernel
theorem dX11_toldLaws_2 : decode cX11_toldLaws 2 = .ok (.iconst 0, 1) := by decide +kernel
theorem dX11_toldLaws_3 : decode cX11_toldLaws 3 = .ok (.istore_n 2, 1) := by decide +kernel
theorem dX11_toldLaws_4 : decode cX11_toldLaws 4 = .ok (.iload_n 2, 1) := by decide +kernel
theorem dX11_toldLaws_5 : decode cX11_toldLaws 5 = .ok (.iconst 4, 1) := by decide +kernel
theorem dX11_toldLaws_6 : decode cX11_toldLaws 6 = .ok (.if_icmp .ge 33, 3) := by decide +kernel
theorem dX11_toldLaws_9 : decode cX11_toldLaws 9 = .ok (.aload_n 0, 1) := by decide +kernel
theorem dX11_toldLaws_10 : decode cX11_toldLaws 10 = .ok (.getfield 50, 3) := by decide +kernel
theorem dX11_toldLaws_13 : decode cX11_toldLaws 13 = .ok (.iload_n 2, 1) := by decide +kernel
theorem dX11_toldLaws_14 : decode cX11_toldLaws 14 = .ok (.aaload, 1) := by decide +kernel
theorem dX11_toldLaws_15 : decode cX11_toldLaws 15 = .ok (.astore_n 3, 1) := by decide +kernel
theorem dX11_toldLaws_16 : decode cX11_toldLaws 16 = .ok (.aload_n 3, 1) := by decide +kernel
theorem dX11_toldLaws_17 : decode cX11_toldLaws 17 = .ok (.ifnull 16, 3) := by decide +kernel
theorem dX11_toldLaws_20 : decode cX11_toldLaws 20 = .ok (.aload_n 3, 1) := by decide +kernel
theorem dX11_toldLaws_21 : decode cX11_toldLaws 21 = .ok (.getfield 252, 3) := by decide +kernel
theorem dX11_toldLaws_24 : decode cX11_toldLaws 24 = .ok (.ifCond .eq 9, 3) := by decide +kernel
theorem dX11_toldLaws_27 : decode cX11_toldLaws 27 = .ok (.iload_n 1, 1) := by decide +kernel
theorem dX11_toldLaws_28 : decode cX11_toldLaws 28 = .ok (.iconst 1, 1) := by decide +kernel
theorem dX11_toldLaws_29 : decode cX11_toldLaws 29 = .ok (.iload_n 2, 1) := by decide +kernel
theorem dX11_toldLaws_30 : decode cX11_toldLaws 30 = .ok (.ishl, 1) := by decide +kernel
theorem dX11_toldLaws_31 : decode cX11_toldLaws 31 = .ok (.ior, 1) := by decide +kernel
theorem dX11_toldLaws_32 : decode cX11_toldLaws 32 = .ok (.istore_n 1, 1) := by decide +kernel
theorem dX11_toldLaws_33 : decode cX11_toldLaws 33 = .ok (.iinc 2 1, 3) := by decide +kernel
theorem dX11_toldLaws_36 : decode cX11_toldLaws 36 = .ok (.goto (-32), 3) := by decide +kernel
theorem dX11_toldLaws_39 : decode cX11_toldLaws 39 = .ok (.iload_n 1, 1) := by decide +kernel
theorem dX11_toldLaws_40 : decode cX11_toldLaws 40 = .ok (.ireturn, 1) := by decide +kernel
theorem dX11_within_0 : decode cX11_within 0 = .ok (.iload_n 0, 1) := by decide +kernel
theorem dX11_within_1 : decode cX11_within 1 = .ok (.iload_n 1, 1) := by decide +kernel
theorem dX11_within_2 : decode cX11_within 2 = .ok (.if_icmp .lt 12, 3) := by decide +kernel
theorem dX11_within_5 : decode cX11_within 5 = .ok (.iload_n 0, 1) := by decide +kernel
theorem dX11_within_6 : decode cX11_within 6 = .ok (.iload_n 2, 1) := by decide +kernel
theorem dX11_within_7 : decode cX11_within 7 = .ok (.if_icmp .gt 7, 3) := by decide +kernel
theorem dX11_within_10 : decode cX11_within 10 = .ok (.iconst 1, 1) := by decide +kernel
theorem dX11_within_11 : decode cX11_within 11 = .ok (.goto 4, 3) := by decide +kernel
theorem dX11_within_14 : decode cX11_within 14 = .ok (.iconst 0, 1) := by decide +kernel
theorem dX11_within_15 : decode cX11_within 15 = .ok (.ireturn, 1) := by decide +kernel
theorem dX11_contains_0 : decode cX11_contains 0 = .ok (.iload_n 1, 1) := by decide +kernel
theorem dX11_contains_1 : decode cX11_contains 1 = .ok (.ifCond .lt 22, 3) := by decide +kernel
theorem dX11_contains_4 : decode cX11_contains 4 = .ok (.iload_n 1, 1) := by decide +kernel
theorem dX11_contains_5 : decode cX11_contains 5 = .ok (.bipush 10, 2) := by decide +kernel
theorem dX11_contains_7 : decode cX11_contains 7 = .ok (.if_icmp .ge 16, 3) := by decide +kernel
theorem dX11_contains_10 : decode cX11_contains 10 = .ok (.iload_n 0, 1) := by decide +kernel
theorem dX11_contains_11 : decode cX11_contains 11 = .ok (.iload_n 1, 1) := by decide +kernel
theorem dX11_contains_12 : decode cX11_contains 12 = .ok (.ishr, 1) := by decide +kernel
theorem dX11_contains_13 : decode cX11_contains 13 = .ok (.iconst 1, 1) := by decide +kernel
theorem dX11_contains_14 : decode cX11_contains 14 = .ok (.iand, 1) := by decide +kernel
theorem dX11_contains_15 : decode cX11_contains 15 = .ok (.iconst 1, 1) := by decide +kernel
theorem dX11_contains_16 : decode cX11_contains 16 = .ok (.if_icmp .ne 7, 3) := by decide +kernel
theorem dX11_contains_19 : decode cX11_contains 19 = .ok (.iconst 1, 1) := by decide +kernel
theorem dX11_contains_20 : decode cX11_contains 20 = .ok (.goto 4, 3) := by decide +kernel
theorem dX11_contains_23 : decode cX11_contains 23 = .ok (.iconst 0, 1) := by decide +kernel
theorem dX11_contains_24 : decode cX11_contains 24 = .ok (.ireturn, 1) := by decide +kernel
theorem dX11_without_0 : decode cX11_without 0 = .ok (.iload_n 0, 1) := by decide +kernel
theorem dX11_without_1 : decode cX11_without 1 = .ok (.iconst 1, 1) := by decide +kernel
theorem dX11_without_2 : decode cX11_without 2 = .ok (.iload_n 1, 1) := by decide +kernel
theorem dX11_without_3 : decode cX11_without 3 = .ok (.ishl, 1) := by decide +kernel
theorem dX11_without_4 : decode cX11_without 4 = .ok (.iconst (-1), 1) := by decide +kernel
theorem dX11_without_5 : decode cX11_without 5 = .ok (.ixor, 1) := by decide +kernel
theorem dX11_without_6 : decode cX11_without 6 = .ok (.iand, 1) := by decide +kernel
theorem dX11_without_7 : decode cX11_without 7 = .ok (.ireturn, 1) := by decide +kernel
theorem dX11_packManner_0 : decode cX11_packManner 0 = .ok (.iload_n 0, 1) := by decide +kernel
theorem dX11_packManner_1 : decode cX11_packManner 1 = .ok (.bipush 12, 2) := by decide +kernel
theorem dX11_packManner_3 : decode cX11_packManner 3 = .ok (.ishl, 1) := by decide +kernel
theorem dX11_packManner_4 : decode cX11_packManner 4 = .ok (.iload_n 1, 1) := by decide +kernel
theorem dX11_packManner_5 : decode cX11_packManner 5 = .ok (.bipush 6, 2) := by decide +kernel
theorem dX11_packManner_7 : decode cX11_packManner 7 = .ok (.ishl, 1) := by decide +kernel
theorem dX11_packManner_8 : decode cX11_packManner 8 = .ok (.ior, 1) := by decide +kernel
theorem dX11_packManner_9 : decode cX11_packManner 9 = .ok (.iload_n 2, 1) := by decide +kernel
theorem dX11_packManner_10 : decode cX11_packManner 10 = .ok (.ior, 1) := by decide +kernel
theorem dX11_packManner_11 : decode cX11_packManner 11 = .ok (.ireturn, 1) := by decide +kernel
theorem dX11_mannerKind_0 : decode cX11_mannerKind 0 = .ok (.iload_n 0, 1) := by decide +kernel
theorem dX11_mannerKind_1 : decode cX11_mannerKind 1 = .ok (.bipush 12, 2) := by decide +kernel
theorem dX11_mannerKind_3 : decode cX11_mannerKind 3 = .ok (.ishr, 1) := by decide +kernel
theorem dX11_mannerKind_4 : decode cX11_mannerKind 4 = .ok (.ireturn, 1) := by decide +kernel
theorem dX11_mannerFirst_0 : decode cX11_mannerFirst 0 = .ok (.iload_n 0, 1) := by decide +kernel
theorem dX11_mannerFirst_1 : decode cX11_mannerFirst 1 = .ok (.bipush 6, 2) := by decide +kernel
theorem dX11_mannerFirst_3 : decode cX11_mannerFirst 3 = .ok (.ishr, 1) := by decide +kernel
theorem dX11_mannerFirst_4 : decode cX11_mannerFirst 4 = .ok (.bipush 63, 2) := by decide +kernel
theorem dX11_mannerFirst_6 : decode cX11_mannerFirst 6 = .ok (.iand, 1) := by decide +kernel
theorem dX11_mannerFirst_7 : decode cX11_mannerFirst 7 = .ok (.ireturn, 1) := by decide +kernel
theorem dX11_mannerSecond_0 : decode cX11_mannerSecond 0 = .ok (.iload_n 0, 1) := by decide +kernel
theorem dX11_mannerSecond_1 : decode cX11_mannerSecond 1 = .ok (.bipush 63, 2) := by decide +kernel
theorem dX11_mannerSecond_3 : decode cX11_mannerSecond 3 = .ok (.iand, 1) := by decide +kernel
theorem dX11_mannerSecond_4 : decode cX11_mannerSecond 4 = .ok (.ireturn, 1) := by decide +kernel
theorem dX12_init_0 : decode cX12_init 0 = .ok (.aload_n 0, 1) := by decide +kernel
theorem dX12_init_1 : decode cX12_init 1 = .ok (.invokespecial 1, 3) := by decide +kernel
theorem dX12_init_4 : decode cX12_init 4 = .ok (.aload_n 0, 1) := by decide +kernel
theorem dX12_init_5 : decode cX12_init 5 = .ok (.sipush 300, 3) := by decide +kernel
theorem dX12_init_8 : decode cX12_init 8 = .ok (.newarray .byte, 2) := by decide +kernel
theorem dX12_init_10 : decode cX12_init 10 = .ok (.putfield 7, 3) := by decide +kernel
theorem dX12_init_13 : decode cX12_init 13 = .ok (.aload_n 0, 1) := by decide +kernel
theorem dX12_init_14 : decode cX12_init 14 = .ok (.sipush 1000, 3) := by decide +kernel
theorem dX12_init_17 : decode cX12_init 17 = .ok (.putfield 13, 3) := by decide +kernel
theorem dX12_init_20 : decode cX12_init 20 = .ok (.aload_n 0, 1) := by decide +kernel
theorem dX12_init_21 : decode cX12_init 21 = .ok (.bipush 10, 2) := by decide +kernel
theorem dX12_init_23 : decode cX12_init 23 = .ok (.newarray .int, 2) := by decide +kernel
theorem dX12_init_25 : decode cX12_init 25 = .ok (.putfield 17, 3) := by decide +kernel
theorem dX12_init_28 : decode cX12_init 28 = .ok (.aload_n 0, 1) := by decide +kernel
theorem dX12_init_29 : decode cX12_init 29 = .ok (.bipush 10, 2) := by decide +kernel
theorem dX12_init_31 : decode cX12_init 31 = .ok (.newarray .int, 2) := by decide +kernel
theorem dX12_init_33 : decode cX12_init 33 = .ok (.putfield 21, 3) := by decide +kernel
theorem dX12_init_36 : decode cX12_init 36 = .ok (.aload_n 0, 1) := by decide +kernel
theorem dX12_init_37 : decode cX12_init 37 = .ok (.bipush 10, 2) := by decide +kernel
theorem dX12_init_39 : decode cX12_init 39 = .ok (.newarray .int, 2) := by decide +kernel
theorem dX12_init_41 : decode cX12_init 41 = .ok (.putfield 24, 3) := by decide +kernel
theorem dX12_init_44 : decode cX12_init 44 = .ok (.aload_n 0, 1) := by decide +kernel
theorem dX12_init_45 : decode cX12_init 45 = .ok (.bipush 10, 2) := by decide +kernel
theorem dX12_init_47 : decode cX12_init 47 = .ok (.newarray .int, 2) := by decide +kernel
theorem dX12_init_49 : decode cX12_init 49 = .ok (.putfield 27, 3) := by decide +kernel
theorem dX12_init_52 : decode cX12_init 52 = .ok (.aload_n 0, 1) := by decide +kernel
theorem dX12_init_53 : decode cX12_init 53 = .ok (.iconst 4, 1) := by decide +kernel
theorem dX12_init_54 : decode cX12_init 54 = .ok (.newarray .int, 2) := by decide +kernel
theorem dX12_init_56 : decode cX12_init 56 = .ok (.putfield 30, 3) := by decide +kernel
theorem dX12_init_59 : decode cX12_init 59 = .ok (.aload_n 0, 1) := by decide +kernel
theorem dX12_init_60 : decode cX12_init 60 = .ok (.bipush 24, 2) := by decide +kernel
theorem dX12_init_62 : decode cX12_init 62 = .ok (.newarray .int, 2) := by decide +kernel
theorem dX12_init_64 : decode cX12_init 64 = .ok (.putfield 33, 3) := by decide +kernel
theorem dX12_init_67 : decode cX12_init 67 = .ok (.aload_n 0, 1) := by decide +kernel
theorem dX12_init_68 : decode cX12_init 68 = .ok (.bipush 24, 2) := by decide +kernel
theorem dX12_init_70 : decode cX12_init 70 = .ok (.newarray .int, 2) := by decide +kernel
theorem dX12_init_72 : decode cX12_init 72 = .ok (.putfield 36, 3) := by decide +kernel
theorem dX12_init_75 : decode cX12_init 75 = .ok (.aload_n 0, 1) := by decide +kernel
theorem dX12_init_76 : decode cX12_init 76 = .ok (.bipush 24, 2) := by decide +kernel
theorem dX12_init_78 : decode cX12_init 78 = .ok (.newarray .int, 2) := by decide +kernel
theorem dX12_init_80 : decode cX12_init 80 = .ok (.putfield 39, 3) := by decide +kernel
theorem dX12_init_83 : decode cX12_init 83 = .ok (.aload_n 0, 1) := by decide +kernel
theorem dX12_init_84 : decode cX12_init 84 = .ok (.bipush 24, 2) := by decide +kernel
theorem dX12_init_86 : decode cX12_init 86 = .ok (.newarray .int, 2) := by decide +kernel
theorem dX12_init_88 : decode cX12_init 88 = .ok (.putfield 42, 3) := by decide +kernel
theorem dX12_init_91 : decode cX12_init 91 = .ok (.aload_n 0, 1) := by decide +kernel
theorem dX12_init_92 : decode cX12_init 92 = .ok (.bipush 12, 2) := by decide +kernel
theorem dX12_init_94 : decode cX12_init 94 = .ok (.newarray .int, 2) := by decide +kernel
theorem dX12_init_96 : decode cX12_init 96 = .ok (.putfield 45, 3) := by decide +kernel
theorem dX12_init_99 : decode cX12_init 99 = .ok (.aload_n 0, 1) := by decide +kernel
theorem dX12_init_100 : decode cX12_init 100 = .ok (.bipush 12, 2) := by decide +kernel
theorem dX12_init_102 : decode cX12_init 102 = .ok (.newarray .int, 2) := by decide +kernel
theorem dX12_init_104 : decode cX12_init 104 = .ok (.putfield 48, 3) := by decide +kernel
theorem dX12_init_107 : decode cX12_init 107 = .ok (.aload_n 0, 1) := by decide +kernel
theorem dX12_init_108 : decode cX12_init 108 = .ok (.bipush 12, 2) := by decide +kernel
theorem dX12_init_110 : decode cX12_init 110 = .ok (.newarray .int, 2) := by decide +kernel
theorem dX12_init_112 : decode cX12_init 112 = .ok (.putfield 51, 3) := by decide +kernel
theorem dX12_init_115 : decode cX12_init 115 = .ok (.aload_n 0, 1) := by decide +kernel
theorem dX12_init_116 : decode cX12_init 116 = .ok (.sipush 160, 3) := by decide +kernel
theorem dX12_init_119 : decode cX12_init 119 = .ok (.newarray .int, 2) := by decide +kernel
theorem dX12_init_121 : decode cX12_init 121 = .ok (.putfield 54, 3) := by decide +kernel
theorem dX12_init_124 : decode cX12_init 124 = .ok (.aload_n 0, 1) := by decide +kernel
theorem dX12_init_125 : decode cX12_init 125 = .ok (.sipush 160, 3) := by decide +kernel
theorem dX12_init_128 : decode cX12_init 128 = .ok (.newarray .int, 2) := by decide +kernel
theorem dX12_init_130 : decode cX12_init 130 = .ok (.putfield 57, 3) := by decide +kernel
theorem dX12_init_133 : decode cX12_init 133 = .ok (.aload_n 0, 1) := by decide +kernel
theorem dX12_init_134 : decode cX12_init 134 = .ok (.bipush 12, 2) := by decide +kernel
theorem dX12_init_136 : decode cX12_init 136 = .ok (.newarray .int, 2) := by decide +kernel
theorem dX12_init_138 : decode cX12_init 138 = .ok (.putfield 60, 3) := by decide +kernel
theorem dX12_init_141 : decode cX12_init 141 = .ok (.aload_n 0, 1) := by decide +kernel
theorem dX12_init_142 : decode cX12_init 142 = .ok (.bipush 12, 2) := by decide +kernel
theorem dX12_init_144 : decode cX12_init 144 = .ok (.newarray .int, 2) := by decide +kernel
theorem dX12_init_146 : decode cX12_init 146 = .ok (.putfield 63, 3) := by decide +kernel
theorem dX12_init_149 : decode cX12_init 149 = .ok (.aload_n 0, 1) := by decide +kernel
theorem dX12_init_150 : decode cX12_init 150 = .ok (.bipush 12, 2) := by decide +kernel
theorem dX12_init_152 : decode cX12_init 152 = .ok (.newarray .int, 2) := by decide +kernel
theorem dX12_init_154 : decode cX12_init 154 = .ok (.putfield 66, 3) := by decide +kernel
theorem dX12_init_157 : decode cX12_init 157 = .ok (.aload_n 0, 1) := by decide +kernel
theorem dX12_init_158 : decode cX12_init 158 = .ok (.sipush 160, 3) := by decide +kernel
theorem dX12_init_161 : decode cX12_init 161 = .ok (.newarray .int, 2) := by decide +kernel
theorem dX12_init_163 : decode cX12_init 163 = .ok (.putfield 69, 3) := by decide +kernel
theorem dX12_init_166 : decode cX12_init 166 = .ok (.aload_n 0, 1) := by decide +kernel
theorem dX12_init_167 : decode cX12_init 167 = .ok (.sipush 160, 3) := by decide +kernel
theorem dX12_init_170 : decode cX12_init 170 = .ok (.newarray .int, 2) := by decide +kernel
theorem dX12_init_172 : decode cX12_init 172 = .ok (.putfield 72, 3) := by decide +kernel
theorem dX12_init_175 : decode cX12_init 175 = .ok (.aload_n 0, 1) := by decide +kernel
theorem dX12_init_176 : decode cX12_init 176 = .ok (.sipush 200, 3) := by decide +kernel
theorem dX12_init_179 : decode cX12_init 179 = .ok (.newarray .int, 2) := by decide +kernel
theorem dX12_init_181 : decode cX12_init 181 = .ok (.putfield 75, 3) := by decide +kernel
theorem dX12_init_184 : decode cX12_init 184 = .ok (.aload_n 0, 1) := by decide +kernel
theorem dX12_init_185 : decode cX12_init 185 = .ok (.sipush 200, 3) := by decide +kernel
theorem dX12_init_188 : decode cX12_init 188 = .ok (.newarray .int, 2) := by decide +kernel
theorem dX12_init_190 : decode cX12_init 190 = .ok (.putfield 78, 3) := by decide +kernel
theorem dX12_init_193 : decode cX12_init 193 = .ok (.aload_n 0, 1) := by decide +kernel
theorem dX12_init_194 : decode cX12_init 194 = .ok (.sipush 200, 3) := by decide +kernel
theorem dX12_init_197 : decode cX12_init 197 = .ok (.newarray .boolean, 2) := by decide +kernel
theorem dX12_init_199 : decode cX12_init 199 = .ok (.putfield 81, 3) := by decide +kernel
theorem dX12_init_202 : decode cX12_init 202 = .ok (.aload_n 0, 1) := by decide +kernel
theorem dX12_init_203 : decode cX12_init 203 = .ok (.sipush 1024, 3) := by decide +kernel
theorem dX12_init_206 : decode cX12_init 206 = .ok (.newarray .boolean, 2) := by decide +kernel
theorem dX12_init_208 : decode cX12_init 208 = .ok (.putfield 85, 3) := by decide +kernel
theorem dX12_init_211 : decode cX12_init 211 = .ok (.aload_n 0, 1) := by decide +kernel
theorem dX12_init_212 : decode cX12_init 212 = .ok (.ldc 88, 2) := by decide +kernel
theorem dX12_init_214 : decode cX12_init 214 = .ok (.newarray .int, 2) := by decide +kernel
theorem dX12_init_216 : decode cX12_init 216 = .ok (.putfield 89, 3) := by decide +kernel
theorem dX12_init_219 : decode cX12_init 219 = .ok (.aload_n 0, 1) := by decide +kernel
theorem dX12_init_220 : decode cX12_init 220 = .ok (.sipush 1024, 3) := by decide +kernel
theorem dX12_init_223 : decode cX12_init 223 = .ok (.newarray .boolean, 2) := by decide +kernel
theorem dX12_init_225 : decode cX12_init 225 = .ok (.putfield 92, 3) := by decide +kernel
theorem dX12_init_228 : decode cX12_init 228 = .ok (.aload_n 0, 1) := by decide +kernel
theorem dX12_init_229 : decode cX12_init 229 = .ok (.sipush 4096, 3) := by decide +kernel
theorem dX12_init_232 : decode cX12_init 232 = .ok (.newarray .long, 2) := by decide +kernel
theorem dX12_init_234 : decode cX12_init 234 = .ok (.putfield 95, 3) := by decide +kernel
theorem dX12_init_237 : decode cX12_init 237 = .ok (.aload_n 0, 1) := by decide +kernel
theorem dX12_init_238 : decode cX12_init 238 = .ok (.sipush 1024, 3) := by decide +kernel
theorem dX12_init_241 : decode cX12_init 241 = .ok (.newarray .int, 2) := by decide +kernel
theorem dX12_init_243 : decode cX12_init 243 = .ok (.putfield 99, 3) := by decide +kernel
theorem dX12_init_246 : decode cX12_init 246 = .ok (.aload_n 0, 1) := by decide +kernel
theorem dX12_init_247 : decode cX12_init 247 = .ok (.sipush 1024, 3) := by decide +kernel
theorem dX12_init_250 : decode cX12_init 250 = .ok (.newarray .long, 2) := by decide +kernel
theorem dX12_init_252 : decode cX12_init 252 = .ok (.putfield 102, 3) := by decide +kernel
theorem dX12_init_255 : decode cX12_init 255 = .ok (.aload_n 0, 1) := by decide +kernel
theorem dX12_init_256 : decode cX12_init 256 = .ok (.bipush 64, 2) := by decide +kernel
theorem dX12_init_258 : decode cX12_init 258 = .ok (.newarray .boolean, 2) := by decide +kernel
theorem dX12_init_260 : decode cX12_init 260 = .ok (.putfield 105, 3) := by decide +kernel
theorem dX12_init_263 : decode cX12_init 263 = .ok (.aload_n 0, 1) := by decide +kernel
theorem dX12_init_264 : decode cX12_init 264 = .ok (.bipush 64, 2) := by decide +kernel
theorem dX12_init_266 : decode cX12_init 266 = .ok (.newarray .int, 2) := by decide +kernel
theorem dX12_init_268 : decode cX12_init 268 = .ok (.putfield 108, 3) := by decide +kernel
theorem dX12_init_271 : decode cX12_init 271 = .ok (.aload_n 0, 1) := by decide +kernel
theorem dX12_init_272 : decode cX12_init 272 = .ok (.iconst 4, 1) := by decide +kernel
theorem dX12_init_273 : decode cX12_init 273 = .ok (.newarray .boolean, 2) := by decide +kernel
theorem dX12_init_275 : decode cX12_init 275 = .ok (.putfield 111, 3) := by decide +kernel
theorem dX12_init_278 : decode cX12_init 278 = .ok (.aload_n 0, 1) := by decide +kernel
theorem dX12_init_279 : decode cX12_init 279 = .ok (.iconst 4, 1) := by decide +kernel
theorem dX12_init_280 : decode cX12_init 280 = .ok (.newarray .int, 2) := by decide +kernel
theorem dX12_init_282 : decode cX12_init 282 = .ok (.putfield 114, 3) := by decide +kernel
theorem dX12_init_285 : decode cX12_init 285 = .ok (.aload_n 0, 1) := by decide +kernel
theorem dX12_init_286 : decode cX12_init 286 = .ok (.bipush 40, 2) := by decide +kernel
theorem dX12_init_288 : decode cX12_init 288 = .ok (.newarray .int, 2) := by decide +kernel
theorem dX12_init_290 : decode cX12_init 290 = .ok (.putfield 117, 3) := by decide +kernel
theorem dX12_init_293 : decode cX12_init 293 = .ok (.aload_n 0, 1) := by decide +kernel
theorem dX12_init_294 : decode cX12_init 294 = .ok (.bipush 16, 2) := by decide +kernel
theorem dX12_init_296 : decode cX12_init 296 = .ok (.newarray .int, 2) := by decide +kernel
theorem dX12_init_298 : decode cX12_init 298 = .ok (.putfield 120, 3) := by decide +kernel
theorem dX12_init_301 : decode cX12_init 301 = .ok (.aload_n 0, 1) := by decide +kernel
theorem dX12_init_302 : decode cX12_init 302 = .ok (.bipush 10, 2) := by decide +kernel
theorem dX12_init_304 : decode cX12_init 304 = .ok (.newarray .int, 2) := by decide +kernel
theorem dX12_init_306 : decode cX12_init 306 = .ok (.putfield 123, 3) := by decide +kernel
theorem dX12_init_309 : decode cX12_init 309 = .ok (.aload_n 0, 1) := by decide +kernel
theorem dX12_init_310 : decode cX12_init 310 = .ok (.iconst 4, 1) := by decide +kernel
theorem dX12_init_311 : decode cX12_init 311 = .ok (.newarray .int, 2) := by decide +kernel
theorem dX12_init_313 : decode cX12_init 313 = .ok (.putfield 126, 3) := by decide +kernel
theorem dX12_init_316 : decode cX12_init 316 = .ok (.aload_n 0, 1) := by decide +kernel
theorem dX12_init_317 : decode cX12_init 317 = .ok (.bipush 64, 2) := by decide +kernel
theorem dX12_init_319 : decode cX12_init 319 = .ok (.newarray .int, 2) := by decide +kernel
theorem dX12_init_321 : decode cX12_init 321 = .ok (.putfield 129, 3) := by decide +kernel
theorem dX12_init_324 : decode cX12_init 324 = .ok (.aload_n 0, 1) := by decide +kernel
theorem dX12_init_325 : decode cX12_init 325 = .ok (.bipush 64, 2) := by decide +kernel
theorem dX12_init_327 : decode cX12_init 327 = .ok (.newarray .int, 2) := by decide +kernel
theorem dX12_init_329 : decode cX12_init 329 = .ok (.putfield 132, 3) := by decide +kernel
theorem dX12_init_332 : decode cX12_init 332 = .ok (.return_, 1) := by decide +kernel
theorem dX12_lies_0 : decode cX12_lies 0 = .ok (.lload_n 0, 1) := by decide +kernel
theorem dX12_lies_1 : decode cX12_lies 1 = .ok (.lload_n 2, 1) := by decide +kernel
theorem dX12_lies_2 : decode cX12_lies 2 = .ok (.lcmp, 1) := by decide +kernel
theorem dX12_lies_3 : decode cX12_lies 3 = .ok (.ifCond .lt 14, 3) := by decide +kernel
theorem dX12_lies_6 : decode cX12_lies 6 = .ok (.lload_n 0, 1) := by decide +kernel
theorem dX12_lies_7 : decode cX12_lies 7 = .ok (.lload 4, 2) := by decide +kernel
theorem dX12_lies_9 : decode cX12_lies 9 = .ok (.lcmp, 1) := by decide +kernel
theorem dX12_lies_10 : decode cX12_lies 10 = .ok (.ifCond .gt 7, 3) := by decide +kernel
theorem dX12_lies_13 : decode cX12_lies 13 = .ok (.iconst 1, 1) := by decide +kernel
theorem dX12_lies_14 : decode cX12_lies 14 = .ok (.goto 4, 3) := by decide +kernel
theorem dX12_lies_17 : decode cX12_lies 17 = .ok (.iconst 0, 1) := by decide +kernel
theorem dX12_lies_18 : decode cX12_lies 18 = .ok (.ireturn, 1) := by decide +kernel
theorem dX12_has_0 : decode cX12_has 0 = .ok (.iload_n 0, 1) := by decide +kernel
theorem dX12_has_1 : decode cX12_has 1 = .ok (.iload_n 1, 1) := by decide +kernel
theorem dX12_has_2 : decode cX12_has 2 = .ok (.ishr, 1) := by decide +kernel
theorem dX12_has_3 : decode cX12_has 3 = .ok (.iconst 1, 1) := by decide +kernel
theorem dX12_has_4 : decode cX12_has 4 = .ok (.iand, 1) := by decide +kernel
theorem dX12_has_5 : decode cX12_has 5 = .ok (.iconst 1, 1) := by decide +kernel
theorem dX12_has_6 : decode cX12_has 6 = .ok (.if_icmp .ne 7, 3) := by decide +kernel
theorem dX12_has_9 : decode cX12_has 9 = .ok (.iconst 1, 1) := by decide +kernel
theorem dX12_has_10 : decode cX12_has 10 = .ok (.goto 4, 3) := by decide +kernel
theorem dX12_has_13 : decode cX12_has 13 = .ok (.iconst 0, 1) := by decide +kernel
theorem dX12_has_14 : decode cX12_has 14 = .ok (.ireturn, 1) := by decide +kernel
theorem dX12_sizeOf_0 : decode cX12_sizeOf 0 = .ok (.iconst 0, 1) := by decide +kernel
theorem dX12_sizeOf_1 : decode cX12_sizeOf 1 = .ok (.istore_n 1, 1) := by decide +kernel
theorem dX12_sizeOf_2 : decode cX12_sizeOf 2 = .ok (.iload_n 0, 1) := by decide +kernel
theorem dX12_sizeOf_3 : decode cX12_sizeOf 3 = .ok (.istore_n 2, 1) := by decide +kernel
theorem dX12_sizeOf_4 : decode cX12_sizeOf 4 = .ok (.iload_n 2, 1) := by decide +kernel
theorem dX12_sizeOf_5 : decode cX12_sizeOf 5 = .ok (.ifCond .eq 15, 3) := by decide +kernel
theorem dX12_sizeOf_8 : decode cX12_sizeOf 8 = .ok (.iinc 1 1, 3) := by decide +kernel
theorem dX12_sizeOf_11 : decode cX12_sizeOf 11 = .ok (.iload_n 2, 1) := by decide +kernel
theorem dX12_sizeOf_12 : decode cX12_sizeOf 12 = .ok (.iload_n 2, 1) := by decide +kernel
theorem dX12_sizeOf_13 : decode cX12_sizeOf 13 = .ok (.iconst 1, 1) := by decide +kernel
theorem dX12_sizeOf_14 : decode cX12_sizeOf 14 = .ok (.isub, 1) := by decide +kernel
theorem dX12_sizeOf_15 : decode cX12_sizeOf 15 = .ok (.iand, 1) := by decide +kernel
theorem dX12_sizeOf_16 : decode cX12_sizeOf 16 = .ok (.istore_n 2, 1) := by decide +kernel
theorem dX12_sizeOf_17 : decode cX12_sizeOf 17 = .ok (.goto (-13), 3) := by decide +kernel
theorem dX12_sizeOf_20 : decode cX12_sizeOf 20 = .ok (.iload_n 1, 1) := by decide +kernel
theorem dX12_sizeOf_21 : decode cX12_sizeOf 21 = .ok (.ireturn, 1) := by decide +kernel
theorem dX12_isTongue_0 : decode cX12_isTongue 0 = .ok (.iload_n 1, 1) := by decide +kernel
theorem dX12_isTongue_1 : decode cX12_isTongue 1 = .ok (.i2l, 1) := by decide +kernel
theorem dX12_isTongue_2 : decode cX12_isTongue 2 = .ok (.lconst 0, 1) := by decide +kernel
theorem dX12_isTongue_3 : decode cX12_isTongue 3 = .ok (.iconst 1, 1) := by decide +kernel
theorem dX12_isTongue_4 : decode cX12_isTongue 4 = .ok (.aload_n 0, 1) := by decide +kernel
theorem dX12_isTongue_5 : decode cX12_isTongue 5 = .ok (.getfield 135, 3) := by decide +kernel
theorem dX12_isTongue_8 : decode cX12_isTongue 8 = .ok (.ishl, 1) := by decide +kernel
theorem dX12_isTongue_9 : decode cX12_isTongue 9 = .ok (.iconst 1, 1) := by decide +kernel
theorem dX12_isTongue_10 : decode cX12_isTongue 10 = .ok (.isub, 1) := by decide +kernel
theorem dX12_isTongue_11 : decode cX12_isTongue 11 = .ok (.i2l, 1) := by decide +kernel
theorem dX12_isTongue_12 : decode cX12_isTongue 12 = .ok (.invokestatic 138, 3) := by decide +kernel
theorem dX12_isTongue_15 : decode cX12_isTongue 15 = .ok (.ireturn, 1) := by decide +kernel
theorem dX12_isMeaning_0 : decode cX12_isMeaning 0 = .ok (.iload_n 0, 1) := by decide +kernel
theorem dX12_isMeaning_1 : decode cX12_isMeaning 1 = .ok (.i2l, 1) := by decide +kernel
theorem dX12_isMeaning_2 : decode cX12_isMeaning 2 = .ok (.lconst 0, 1) := by decide +kernel
theorem dX12_isMeaning_3 : decode cX12_isMeaning 3 = .ok (.ldc2_w 142, 3) := by decide +kernel
theorem dX12_isMeaning_6 : decode cX12_isMeaning 6 = .ok (.invokestatic 138, 3) := by decide +kernel
theorem dX12_isMeaning_9 : decode cX12_isMeaning 9 = .ok (.ireturn, 1) := by decide +kernel
theorem dX12_isSort_0 : decode cX12_isSort 0 = .ok (.iload_n 0, 1) := by decide +kernel
theorem dX12_isSort_1 : decode cX12_isSort 1 = .ok (.i2l, 1) := by decide +kernel
theorem dX12_isSort_2 : decode cX12_isSort 2 = .ok (.lconst 0, 1) := by decide +kernel
theorem dX12_isSort_3 : decode cX12_isSort 3 = .ok (.ldc2_w 144, 3) := by decide +kernel
theorem dX12_isSort_6 : decode cX12_isSort 6 = .ok (.invokestatic 138, 3) := by decide +kernel
theorem dX12_isSort_9 : decode cX12_isSort 9 = .ok (.ireturn, 1) := by decide +kernel
theorem dX12_isUsed_0 : decode cX12_isUsed 0 = .ok (.iload_n 1, 1) := by decide +kernel
theorem dX12_isUsed_1 : decode cX12_isUsed 1 = .ok (.i2l, 1) := by decide +kernel
theorem dX12_isUsed_2 : decode cX12_isUsed 2 = .ok (.lconst 0, 1) := by decide +kernel
theorem dX12_isUsed_3 : decode cX12_isUsed 3 = .ok (.aload_n 0, 1) := by decide +kernel
theorem dX12_isUsed_4 : decode cX12_isUsed 4 = .ok (.getfield 135, 3) := by decide +kernel
theorem dX12_isUsed_7 : decode cX12_isUsed 7 = .ok (.iconst 1, 1) := by decide +kernel
theorem dX12_isUsed_8 : decode cX12_isUsed 8 = .ok (.isub, 1) := by decide +kernel
theorem dX12_isUsed_9 : decode cX12_isUsed 9 = .ok (.i2l, 1) := by decide +kernel
theorem dX12_isUsed_10 : decode cX12_isUsed 10 = .ok (.invokestatic 138, 3) := by decide +kernel
theorem dX12_isUsed_13 : decode cX12_isUsed 13 = .ok (.ifCond .eq 18, 3) := by decide +kernel
theorem dX12_isUsed_16 : decode cX12_isUsed 16 = .ok (.aload_n 0, 1) := by decide +kernel
theorem dX12_isUsed_17 : decode cX12_isUsed 17 = .ok (.getfield 146, 3) := by decide +kernel
theorem dX12_isUsed_20 : decode cX12_isUsed 20 = .ok (.iload_n 1, 1) := by decide +kernel
theorem dX12_isUsed_21 : decode cX12_isUsed 21 = .ok (.invokestatic 149, 3) := by decide +kernel
theorem dX12_isUsed_24 : decode cX12_isUsed 24 = .ok (.ifCond .eq 7, 3) := by decide +kernel
theorem dX12_isUsed_27 : decode cX12_isUsed 27 = .ok (.iconst 1, 1) := by decide +kernel
theorem dX12_isUsed_28 : decode cX12_isUsed 28 = .ok (.goto 4, 3) := by decide +kernel
theorem dX12_isUsed_31 : decode cX12_isUsed 31 = .ok (.iconst 0, 1) := by decide +kernel
theorem dX12_isUsed_32 : decode cX12_isUsed 32 = .ok (.ireturn, 1) := by decide +kernel
theorem dX12_word_0 : decode cX12_word 0 = .ok (.aload_n 0, 1) := by decide +kernel
theorem dX12_word_1 : decode cX12_word 1 = .ok (.getfield 135, 3) := by decide +kernel
theorem dX12_word_4 : decode cX12_word 4 = .ok (.bipush 10, 2) := by decide +kernel
theorem dX12_word_6 : decode cX12_word 6 = .ok (.if_icmp .eq 34, 3) := by decide +kernel
theorem dX12_word_9 : decode cX12_word 9 = .ok (.iload_n 1, 1) := by decide +kernel
theorem dX12_word_10 : decode cX12_word 10 = .ok (.i2l, 1) := by decide +kernel
theorem dX12_word_11 : decode cX12_word 11 = .ok (.lconst 0, 1) := by decide +kernel
theorem dX12_word_12 : decode cX12_word 12 = .ok (.ldc2_w 144, 3) := by decide +kernel
theorem dX12_word_15 : decode cX12_word 15 = .ok (.invokestatic 138, 3) := by decide +kernel
theorem dX12_word_18 : decode cX12_word 18 = .ok (.ifCond .eq 22, 3) := by decide +kernel
theorem dX12_word_21 : decode cX12_word 21 = .ok (.iload_n 2, 1) := by decide +kernel
theorem dX12_word_22 : decode cX12_word 22 = .ok (.invokestatic 153, 3) := by decide +kernel
theorem dX12_word_25 : decode cX12_word 25 = .ok (.ifCond .eq 15, 3) := by decide +kernel
theorem dX12_word_28 : decode cX12_word 28 = .ok (.iload_n 3, 1) := by decide +kernel
theorem dX12_word_29 : decode cX12_word 29 = .ok (.i2l, 1) := by decide +kernel
theorem dX12_word_30 : decode cX12_word 30 = .ok (.lconst 1, 1) := by decide +kernel
theorem dX12_word_31 : decode cX12_word 31 = .ok (.ldc2_w 157, 3) := by decide +kernel
theorem dX12_word_34 : decode cX12_word 34 = .ok (.invokestatic 138, 3) := by decide +kernel
theorem dX12_word_37 : decode cX12_word 37 = .ok (.ifCond .ne 5, 3) := by decide +kernel
theorem dX12_word_40 : decode cX12_word 40 = .ok (.iconst (-1), 1) := by decide +kernel
theorem dX12_word_41 : decode cX12_word 41 = .ok (.ireturn, 1) := by decide +kernel
theorem dX12_word_42 : decode cX12_word 42 = .ok (.aload_n 0, 1) := by decide +kernel
theorem dX12_word_43 : decode cX12_word 43 = .ok (.getfield 17, 3) := by decide +kernel
theorem dX12_word_46 : decode cX12_word 46 = .ok (.aload_n 0, 1) := by decide +kernel
theorem dX12_word_47 : decode cX12_word 47 = .ok (.getfield 135, 3) := by decide +kernel
theorem dX12_word_50 : decode cX12_word 50 = .ok (.iload_n 1, 1) := by decide +kernel
theorem dX12_word_51 : decode cX12_word 51 = .ok (.iastore, 1) := by decide +kernel
theorem dX12_word_52 : decode cX12_word 52 = .ok (.aload_n 0, 1) := by decide +kernel
theorem dX12_word_53 : decode cX12_word 53 = .ok (.getfield 21, 3) := by decide +kernel
theorem dX12_word_56 : decode cX12_word 56 = .ok (.aload_n 0, 1) := by decide +kernel
theorem dX12_word_57 : decode cX12_word 57 = .ok (.getfield 135, 3) := by decide +kernel
theorem dX12_word_60 : decode cX12_word 60 = .ok (.iload_n 2, 1) := by decide +kernel
theorem dX12_word_61 : decode cX12_word 61 = .ok (.iastore, 1) := by decide +kernel
theorem dX12_word_62 : decode cX12_word 62 = .ok (.aload_n 0, 1) := by decide +kernel
theorem dX12_word_63 : decode cX12_word 63 = .ok (.getfield 24, 3) := by decide +kernel
theorem dX12_word_66 : decode cX12_word 66 = .ok (.aload_n 0, 1) := by decide +kernel
theorem dX12_word_67 : decode cX12_word 67 = .ok (.getfield 135, 3) := by decide +kernel
theorem dX12_word_70 : decode cX12_word 70 = .ok (.iload_n 3, 1) := by decide +kernel
theorem dX12_word_71 : decode cX12_word 71 = .ok (.iastore, 1) := by decide +kernel
theorem dX12_word_72 : decode cX12_word 72 = .ok (.aload_n 0, 1) := by decide +kernel
theorem dX12_word_73 : decode cX12_word 73 = .ok (.getfield 27, 3) := by decide +kernel
theorem dX12_word_76 : decode cX12_word 76 = .ok (.aload_n 0, 1) := by decide +kernel
theorem dX12_word_77 : decode cX12_word 77 = .ok (.getfield 135, 3) := by decide +kernel
theorem dX12_word_80 : decode cX12_word 80 = .ok (.iconst (-1), 1) := by decide +kernel
theorem dX12_word_81 : decode cX12_word 81 = .ok (.iastore, 1) := by decide +kernel
theorem dX12_word_82 : decode cX12_word 82 = .ok (.aload_n 0, 1) := by decide +kernel
theorem dX12_word_83 : decode cX12_word 83 = .ok (.dup, 1) := by decide +kernel
theorem dX12_word_84 : decode cX12_word 84 = .ok (.getfield 146, 3) := by decide +kernel
theorem dX12_word_87 : decode cX12_word 87 = .ok (.iconst 1, 1) := by decide +kernel
theorem dX12_word_88 : decode cX12_word 88 = .ok (.aload_n 0, 1) := by decide +kernel
theorem dX12_word_89 : decode cX12_word 89 = .ok (.getfield 135, 3) := by decide +kernel
theorem dX12_word_92 : decode cX12_word 92 = .ok (.ishl, 1) := by decide +kernel
theorem dX12_word_93 : decode cX12_word 93 = .ok (.ior, 1) := by decide +kernel
theorem dX12_word_94 : decode cX12_word 94 = .ok (.putfield 146, 3) := by decide +kernel
theorem dX12_word_97 : decode cX12_word 97 = .ok (.aload_n 0, 1) := by decide +kernel
theorem dX12_word_98 : decode cX12_word 98 = .ok (.dup, 1) := by decide +kernel
theorem dX12_word_99 : decode cX12_word 99 = .ok (.getfield 135, 3) := by decide +kernel
theorem dX12_word_102 : decode cX12_word 102 = .ok (.iconst 1, 1) := by decide +kernel
theorem dX12_word_103 : decode cX12_word 103 = .ok (.iadd, 1) := by decide +kernel
theorem dX12_word_104 : decode cX12_word 104 = .ok (.putfield 135, 3) := by decide +kernel
theorem dX12_word_107 : decode cX12_word 107 = .ok (.iconst 0, 1) := by decide +kernel
theorem dX12_word_108 : decode cX12_word 108 = .ok (.istore 4, 2) := by decide +kernel
theorem dX12_word_110 : decode cX12_word 110 = .ok (.iload 4, 2) := by decide +kernel
theorem dX12_word_112 : decode cX12_word 112 = .ok (.sipush 1024, 3) := by decide +kernel
theorem dX12_word_115 : decode cX12_word 115 = .ok (.if_icmp .ge 17, 3) := by decide +kernel
theorem dX12_word_118 : decode cX12_word 118 = .ok (.aload_n 0, 1) := by decide +kernel
theorem dX12_word_119 : decode cX12_word 119 = .ok (.getfield 85, 3) := by decide +kernel
theorem dX12_word_122 : decode cX12_word 122 = .ok (.iload 4, 2) := by decide +kernel
theorem dX12_word_124 : decode cX12_word 124 = .ok (.iconst 0, 1) := by decide +kernel
theorem dX12_word_125 : decode cX12_word 125 = .ok (.bastore, 1) := by decide +kernel
theorem dX12_word_126 : decode cX12_word 126 = .ok (.iinc 4 1, 3) := by decide +kernel
theorem dX12_word_129 : decode cX12_word 129 = .ok (.goto (-19), 3) := by decide +kernel
theorem dX12_word_132 : decode cX12_word 132 = .ok (.aload_n 0, 1) := by decide +kernel
theorem dX12_word_133 : decode cX12_word 133 = .ok (.invokevirtual 159, 3) := by decide +kernel
theorem dX12_word_136 : decode cX12_word 136 = .ok (.aload_n 0, 1) := by decide +kernel
theorem dX12_word_137 : decode cX12_word 137 = .ok (.getfield 135, 3) := by decide +kernel
theorem dX12_word_140 : decode cX12_word 140 = .ok (.iconst 1, 1) := by decide +kernel
theorem dX12_word_141 : decode cX12_word 141 = .ok (.isub, 1) := by decide +kernel
theorem dX12_word_142 : decode cX12_word 142 = .ok (.ireturn, 1) := by decide +kernel
theorem dX12_people_0 : decode cX12_people 0 = .ok (.iload_n 1, 1) := by decide +kernel
theorem dX12_people_1 : decode cX12_people 1 = .ok (.invokestatic 162, 3) := by decide +kernel
theorem dX12_people_4 : decode cX12_people 4 = .ok (.ifCond .eq 15, 3) := by decide +kernel
theorem dX12_people_7 : decode cX12_people 7 = .ok (.iload_n 2, 1) := by decide +kernel
theorem dX12_people_8 : decode cX12_people 8 = .ok (.i2l, 1) := by decide +kernel
theorem dX12_people_9 : decode cX12_people 9 = .ok (.lconst 0, 1) := by decide +kernel
theorem dX12_people_10 : decode cX12_people 10 = .ok (.ldc2_w 165, 3) := by decide +kernel
theorem dX12_people_13 : decode cX12_people 13 = .ok (.invokestatic 138, 3) := by decide +kernel
theorem dX12_people_16 : decode cX12_people 16 = .ok (.ifCond .ne 5, 3) := by decide +kernel
theorem dX12_people_19 : decode cX12_people 19 = .ok (.iconst 0, 1) := by decide +kernel
theorem dX12_people_20 : decode cX12_people 20 = .ok (.ireturn, 1) := by decide +kernel
theorem dX12_people_21 : decode cX12_people 21 = .ok (.aload_n 0, 1) := by decide +kernel
theorem dX12_people_22 : decode cX12_people 22 = .ok (.getfield 30, 3) := by decide +kernel
theorem dX12_people_25 : decode cX12_people 25 = .ok (.iload_n 1, 1) := by decide +kernel
theorem dX12_people_26 : decode cX12_people 26 = .ok (.iload_n 2, 1) := by decide +kernel
theorem dX12_people_27 : decode cX12_people 27 = .ok (.iastore, 1) := by decide +kernel
theorem dX12_people_28 : decode cX12_people 28 = .ok (.iconst 1, 1) := by decide +kernel
theorem dX12_people_29 : decode cX12_people 29 = .ok (.ireturn, 1) := by decide +kernel
theorem dX12_want_0 : decode cX12_want 0 = .ok (.aload_n 0, 1) := by decide +kernel
theorem dX12_want_1 : decode cX12_want 1 = .ok (.getfield 167, 3) := by decide +kernel
theorem dX12_want_4 : decode cX12_want 4 = .ok (.bipush 24, 2) := by decide +kernel
theorem dX12_want_6 : decode cX12_want 6 = .ok (.if_icmp .eq 42, 3) := by decide +kernel
theorem dX12_want_9 : decode cX12_want 9 = .ok (.iload_n 1, 1) := by decide +kernel
theorem dX12_want_10 : decode cX12_want 10 = .ok (.invokestatic 162, 3) := by decide +kernel
theorem dX12_want_13 : decode cX12_want 13 = .ok (.ifCond .eq 35, 3) := by decide +kernel
theorem dX12_want_16 : decode cX12_want 16 = .ok (.iload_n 2, 1) := by decide +kernel
theorem dX12_want_17 : decode cX12_want 17 = .ok (.invokestatic 153, 3) := by decide +kernel
theorem dX12_want_20 : decode cX12_want 20 = .ok (.ifCond .eq 28, 3) := by decide +kernel
theorem dX12_want_23 : decode cX12_want 23 = .ok (.iload_n 3, 1) := by decide +kernel
theorem dX12_want_24 : decode cX12_want 24 = .ok (.i2l, 1) := by decide +kernel
theorem dX12_want_25 : decode cX12_want 25 = .ok (.lconst 0, 1) := by decide +kernel
theorem dX12_want_26 : decode cX12_want 26 = .ok (.ldc2_w 165, 3) := by decide +kernel
theorem dX12_want_29 : decode cX12_want 29 = .ok (.invokestatic 138, 3) := by decide +kernel
theorem dX12_want_32 : decode cX12_want 32 = .ok (.ifCond .eq 16, 3) := by decide +kernel
theorem dX12_want_35 : decode cX12_want 35 = .ok (.iload 4, 2) := by decide +kernel
theorem dX12_want_37 : decode cX12_want 37 = .ok (.i2l, 1) := by decide +kernel
theorem dX12_want_38 : decode cX12_want 38 = .ok (.lconst 0, 1) := by decide +kernel
theorem dX12_want_39 : decode cX12_want 39 = .ok (.ldc2_w 170, 3) := by decide +kernel
theorem dX12_want_42 : decode cX12_want 42 = .ok (.invokestatic 138, 3) := by decide +kernel
theorem dX12_want_45 : decode cX12_want 45 = .ok (.ifCond .ne 5, 3) := by decide +kernel
theorem dX12_want_48 : decode cX12_want 48 = .ok (.iconst (-1), 1) := by decide +kernel
theorem dX12_want_49 : decode cX12_want 49 = .ok (.ireturn, 1) := by decide +kernel
theorem dX12_want_50 : decode cX12_want 50 = .ok (.aload_n 0, 1) := by decide +kernel
theorem dX12_want_51 : decode cX12_want 51 = .ok (.getfield 33, 3) := by decide +kernel
theorem dX12_want_54 : decode cX12_want 54 = .ok (.aload_n 0, 1) := by decide +kernel
theorem dX12_want_55 : decode cX12_want 55 = .ok (.getfield 167, 3) := by decide +kernel
theorem dX12_want_58 : decode cX12_want 58 = .ok (.iload_n 1, 1) := by decide +kernel
theorem dX12_want_59 : decode cX12_want 59 = .ok (.iastore, 1) := by decide +kernel
theorem dX12_want_60 : decode cX12_want 60 = .ok (.aload_n 0, 1) := by decide +kernel
theorem dX12_want_61 : decode cX12_want 61 = .ok (.getfield 36, 3) := by decide +kernel
theorem dX12_want_64 : decode cX12_want 64 = .ok (.aload_n 0, 1) := by decide +kernel
theorem dX12_want_65 : decode cX12_want 65 = .ok (.getfield 167, 3) := by decide +kernel
theorem dX12_want_68 : decode cX12_want 68 = .ok (.iload_n 2, 1) := by decide +kernel
theorem dX12_want_69 : decode cX12_want 69 = .ok (.iastore, 1) := by decide +kernel
theorem dX12_want_70 : decode cX12_want 70 = .ok (.aload_n 0, 1) := by decide +kernel
theorem dX12_want_71 : decode cX12_want 71 = .ok (.getfield 39, 3) := by decide +kernel
theorem dX12_want_74 : decode cX12_want 74 = .ok (.aload_n 0, 1) := by decide +kernel
theorem dX12_want_75 : decode cX12_want 75 = .ok (.getfield 167, 3) := by decide +kernel
theorem dX12_want_78 : decode cX12_want 78 = .ok (.iload_n 3, 1) := by decide +kernel
theorem dX12_want_79 : decode cX12_want 79 = .ok (.iastore, 1) := by decide +kernel
theorem dX12_want_80 : decode cX12_want 80 = .ok (.aload_n 0, 1) := by decide +kernel
theorem dX12_want_81 : decode cX12_want 81 = .ok (.getfield 42, 3) := by decide +kernel
theorem dX12_want_84 : decode cX12_want 84 = .ok (.aload_n 0, 1) := by decide +kernel
theorem dX12_want_85 : decode cX12_want 85 = .ok (.getfield 167, 3) := by decide +kernel
theorem dX12_want_88 : decode cX12_want 88 = .ok (.iload 4, 2) := by decide +kernel
theorem dX12_want_90 : decode cX12_want 90 = .ok (.iastore, 1) := by decide +kernel
theorem dX12_want_91 : decode cX12_want 91 = .ok (.aload_n 0, 1) := by decide +kernel
theorem dX12_want_92 : decode cX12_want 92 = .ok (.dup, 1) := by decide +kernel
theorem dX12_want_93 : decode cX12_want 93 = .ok (.getfield 167, 3) := by decide +kernel
theorem dX12_want_96 : decode cX12_want 96 = .ok (.iconst 1, 1) := by decide +kernel
theorem dX12_want_97 : decode cX12_want 97 = .ok (.iadd, 1) := by decide +kernel
theorem dX12_want_98 : decode cX12_want 98 = .ok (.putfield 167, 3) := by decide +kernel
theorem dX12_want_101 : decode cX12_want 101 = .ok (.aload_n 0, 1) := by decide +kernel
theorem dX12_want_102 : decode cX12_want 102 = .ok (.invokevirtual 159, 3) := by decide +kernel
theorem dX12_want_105 : decode cX12_want 105 = .ok (.aload_n 0, 1) := by decide +kernel
theorem dX12_want_106 : decode cX12_want 106 = .ok (.getfield 167, 3) := by decide +kernel
theorem dX12_want_109 : decode cX12_want 109 = .ok (.iconst 1, 1) := by decide +kernel
theorem dX12_want_110 : decode cX12_want 110 = .ok (.isub, 1) := by decide +kernel
theorem dX12_want_111 : decode cX12_want 111 = .ok (.ireturn, 1) := by decide +kernel
theorem dX12_often_0 : decode cX12_often 0 = .ok (.iload_n 1, 1) := by decide +kernel
theorem dX12_often_1 : decode cX12_often 1 = .ok (.i2l, 1) := by decide +kernel
theorem dX12_often_2 : decode cX12_often 2 = .ok (.lconst 0, 1) := by decide +kernel
theorem dX12_often_3 : decode cX12_often 3 = .ok (.aload_n 0, 1) := by decide +kernel
theorem dX12_often_4 : decode cX12_often 4 = .ok (.getfield 167, 3) := by decide +kernel
theorem dX12_often_7 : decode cX12_often 7 = .ok (.iconst 1, 1) := by decide +kernel
theorem dX12_often_8 : decode cX12_often 8 = .ok (.isub, 1) := by decide +kernel
theorem dX12_often_9 : decode cX12_often 9 = .ok (.i2l, 1) := by decide +kernel
theorem dX12_often_10 : decode cX12_often 10 = .ok (.invokestatic 138, 3) := by decide +kernel
theorem dX12_often_13 : decode cX12_often 13 = .ok (.ifCond .eq 15, 3) := by decide +kernel
theorem dX12_often_16 : decode cX12_often 16 = .ok (.iload_n 2, 1) := by decide +kernel
theorem dX12_often_17 : decode cX12_often 17 = .ok (.i2l, 1) := by decide +kernel
theorem dX12_often_18 : decode cX12_often 18 = .ok (.lconst 0, 1) := by decide +kernel
theorem dX12_often_19 : decode cX12_often 19 = .ok (.ldc2_w 165, 3) := by decide +kernel
theorem dX12_often_22 : decode cX12_often 22 = .ok (.invokestatic 138, 3) := by decide +kernel
theorem dX12_often_25 : decode cX12_often 25 = .ok (.ifCond .ne 5, 3) := by decide +kernel
theorem dX12_often_28 : decode cX12_often 28 = .ok (.iconst 0, 1) := by decide +kernel
theorem dX12_often_29 : decode cX12_often 29 = .ok (.ireturn, 1) := by decide +kernel
theorem dX12_often_30 : decode cX12_often 30 = .ok (.aload_n 0, 1) := by decide +kernel
theorem dX12_often_31 : decode cX12_often 31 = .ok (.getfield 39, 3) := by decide +kernel
theorem dX12_often_34 : decode cX12_often 34 = .ok (.iload_n 1, 1) := by decide +kernel
theorem dX12_often_35 : decode cX12_often 35 = .ok (.iload_n 2, 1) := by decide +kernel
theorem dX12_often_36 : decode cX12_often 36 = .ok (.iastore, 1) := by decide +kernel
theorem dX12_often_37 : decode cX12_often 37 = .ok (.aload_n 0, 1) := by decide +kernel
theorem dX12_often_38 : decode cX12_often 38 = .ok (.invokevirtual 159, 3) := by decide +kernel
theorem dX12_often_41 : decode cX12_often 41 = .ok (.iconst 1, 1) := by decide +kernel
theorem dX12_often_42 : decode cX12_often 42 = .ok (.ireturn, 1) := by decide +kernel
theorem dX12_silence_0 : decode cX12_silence 0 = .ok (.iload_n 1, 1) := by decide +kernel
theorem dX12_silence_1 : decode cX12_silence 1 = .ok (.i2l, 1) := by decide +kernel
theorem dX12_silence_2 : decode cX12_silence 2 = .ok (.lconst 0, 1) := by decide +kernel
theorem dX12_silence_3 : decode cX12_silence 3 = .ok (.ldc2_w 172, 3) := by decide +kernel
theorem dX12_silence_6 : decode cX12_silence 6 = .ok (.invokestatic 138, 3) := by decide +kernel
theorem dX12_silence_9 : decode cX12_silence 9 = .ok (.ifCond .ne 5, 3) := by decide +kernel
theorem dX12_silence_12 : decode cX12_silence 12 = .ok (.iconst 0, 1) := by decide +kernel
theorem dX12_silence_13 : decode cX12_silence 13 = .ok (.ireturn, 1) := by decide +kernel
theorem dX12_silence_14 : decode cX12_silence 14 = .ok (.aload_n 0, 1) := by decide +kernel
theorem dX12_silence_15 : decode cX12_silence 15 = .ok (.iload_n 1, 1) := by decide +kernel
theorem dX12_silence_16 : decode cX12_silence 16 = .ok (.putfield 13, 3) := by decide +kernel
theorem dX12_silence_19 : decode cX12_silence 19 = .ok (.aload_n 0, 1) := by decide +kernel
theorem dX12_silence_20 : decode cX12_silence 20 = .ok (.invokevirtual 159, 3) := by decide +kernel
theorem dX12_silence_23 : decode cX12_silence 23 = .ok (.iconst 1, 1) := by decide +kernel
theorem dX12_silence_24 : decode cX12_silence 24 = .ok (.ireturn, 1) := by decide +kernel
theorem dX12_push_0 : decode cX12_push 0 = .ok (.bipush 24, 2) := by decide +kernel
theorem dX12_push_2 : decode cX12_push 2 = .ok (.istore_n 2, 1) := by decide +kernel
theorem dX12_push_3 : decode cX12_push 3 = .ok (.iload_n 2, 1) := by decide +kernel
theorem dX12_push_4 : decode cX12_push 4 = .ok (.ifCond .lt 32, 3) := by decide +kernel
theorem dX12_push_7 : decode cX12_push 7 = .ok (.aload_n 0, 1) := by decide +kernel
theorem dX12_push_8 : decode cX12_push 8 = .ok (.getfield 7, 3) := by decide +kernel
theorem dX12_push_11 : decode cX12_push 11 = .ok (.aload_n 0, 1) := by decide +kernel
theorem dX12_push_12 : decode cX12_push 12 = .ok (.getfield 174, 3) := by decide +kernel
theorem dX12_push_15 : decode cX12_push 15 = .ok (.iload_n 1, 1) := by decide +kernel
theorem dX12_push_16 : decode cX12_push 16 = .ok (.iload_n 2, 1) := by decide +kernel
theorem dX12_push_17 : decode cX12_push 17 = .ok (.ishr, 1) := by decide +kernel
theorem dX12_push_18 : decode cX12_push 18 = .ok (.i2b, 1) := by decide +kernel
theorem dX12_push_19 : decode cX12_push 19 = .ok (.bastore, 1) := by decide +kernel
theorem dX12_push_20 : decode cX12_push 20 = .ok (.aload_n 0, 1) := by decide +kernel
theorem dX12_push_21 : decode cX12_push 21 = .ok (.dup, 1) := by decide +kernel
theorem dX12_push_22 : decode cX12_push 22 = .ok (.getfield 174, 3) := by decide +kernel
theorem dX12_push_25 : decode cX12_push 25 = .ok (.iconst 1, 1) := by decide +kernel
theorem dX12_push_26 : decode cX12_push 26 = .ok (.iadd, 1) := by decide +kernel
theorem dX12_push_27 : decode cX12_push 27 = .ok (.putfield 174, 3) := by decide +kernel
theorem dX12_push_30 : decode cX12_push 30 = .ok (.iinc 2 (-8), 3) := by decide +kernel
theorem dX12_push_33 : decode cX12_push 33 = .ok (.goto (-30), 3) := by decide +kernel
theorem dX12_push_36 : decode cX12_push 36 = .ok (.return_, 1) := by decide +kernel
theorem dX12_feed_0 : decode cX12_feed 0 = .ok (.aload_n 0, 1) := by decide +kernel
theorem dX12_feed_1 : decode cX12_feed 1 = .ok (.getfield 174, 3) := by decide +kernel
theorem dX12_feed_4 : decode cX12_feed 4 = .ok (.bipush 20, 2) := by decide +kernel
theorem dX12_feed_6 : decode cX12_feed 6 = .ok (.iadd, 1) := by decide +kernel
theorem dX12_feed_7 : decode cX12_feed 7 = .ok (.sipush 300, 3) := by decide +kernel
