theorem dX8_init_0 : decode cX8_init 0 = .ok (.aload_n 0, 1) := by decide +kernel
theorem dX8_init_1 : decode cX8_init 1 = .ok (.invokespecial 1, 3) := by decide +kernel
theorem dX8_init_4 : decode cX8_init 4 = .ok (.aload_n 0, 1) := by decide +kernel
theorem dX8_init_5 : decode cX8_init 5 = .ok (.sipush 6074, 3) := by decide +kernel
theorem dX8_init_8 : decode cX8_init 8 = .ok (.newarray .int, 2) := by decide +kernel
theorem dX8_init_10 : decode cX8_init 10 = .ok (.putfield 7, 3) := by decide +kernel
theorem dX8_init_13 : decode cX8_init 13 = .ok (.aload_n 0, 1) := by decide +kernel
theorem dX8_init_14 : decode cX8_init 14 = .ok (.sipush 6074, 3) := by decide +kernel
theorem dX8_init_17 : decode cX8_init 17 = .ok (.newarray .int, 2) := by decide +kernel
theorem dX8_init_19 : decode cX8_init 19 = .ok (.putfield 13, 3) := by decide +kernel
theorem dX8_init_22 : decode cX8_init 22 = .ok (.aload_n 0, 1) := by decide +kernel
theorem dX8_init_23 : decode cX8_init 23 = .ok (.sipush 12148, 3) := by decide +kernel
theorem dX8_init_26 : decode cX8_init 26 = .ok (.newarray .int, 2) := by decide +kernel
theorem dX8_init_28 : decode cX8_init 28 = .ok (.putfield 16, 3) := by decide +kernel
theorem dX8_init_31 : decode cX8_init 31 = .ok (.aload_n 0, 1) := by decide +kernel
theorem dX8_init_32 : decode cX8_init 32 = .ok (.iconst 2, 1) := by decide +kernel
theorem dX8_init_33 : decode cX8_init 33 = .ok (.newarray .boolean, 2) := by decide +kernel
theorem dX8_init_35 : decode cX8_init 35 = .ok (.putfield 19, 3) := by decide +kernel
theorem dX8_init_38 : decode cX8_init 38 = .ok (.aload_n 0, 1) := by decide +kernel
theorem dX8_init_39 : decode cX8_init 39 = .ok (.iconst 4, 1) := by decide +kernel
theorem dX8_init_40 : decode cX8_init 40 = .ok (.newarray .int, 2) := by decide +kernel
theorem dX8_init_42 : decode cX8_init 42 = .ok (.putfield 23, 3) := by decide +kernel
theorem dX8_init_45 : decode cX8_init 45 = .ok (.aload_n 0, 1) := by decide +kernel
theorem dX8_init_46 : decode cX8_init 46 = .ok (.sipush 200, 3) := by decide +kernel
theorem dX8_init_49 : decode cX8_init 49 = .ok (.newarray .int, 2) := by decide +kernel
theorem dX8_init_51 : decode cX8_init 51 = .ok (.putfield 26, 3) := by decide +kernel
theorem dX8_init_54 : decode cX8_init 54 = .ok (.aload_n 0, 1) := by decide +kernel
theorem dX8_init_55 : decode cX8_init 55 = .ok (.iconst 4, 1) := by decide +kernel
theorem dX8_init_56 : decode cX8_init 56 = .ok (.newarray .int, 2) := by decide +kernel
theorem dX8_init_58 : decode cX8_init 58 = .ok (.putfield 29, 3) := by decide +kernel
theorem dX8_init_61 : decode cX8_init 61 = .ok (.aload_n 0, 1) := by decide +kernel
theorem dX8_init_62 : decode cX8_init 62 = .ok (.iconst 5, 1) := by decide +kernel
theorem dX8_init_63 : decode cX8_init 63 = .ok (.newarray .int, 2) := by decide +kernel
theorem dX8_init_65 : decode cX8_init 65 = .ok (.putfield 32, 3) := by decide +kernel
theorem dX8_init_68 : decode cX8_init 68 = .ok (.aload_n 0, 1) := by decide +kernel
theorem dX8_init_69 : decode cX8_init 69 = .ok (.iconst 5, 1) := by decide +kernel
theorem dX8_init_70 : decode cX8_init 70 = .ok (.newarray .int, 2) := by decide +kernel
theorem dX8_init_72 : decode cX8_init 72 = .ok (.putfield 35, 3) := by decide +kernel
theorem dX8_init_75 : decode cX8_init 75 = .ok (.aload_n 0, 1) := by decide +kernel
theorem dX8_init_76 : decode cX8_init 76 = .ok (.iconst 5, 1) := by decide +kernel
theorem dX8_init_77 : decode cX8_init 77 = .ok (.newarray .int, 2) := by decide +kernel
theorem dX8_init_79 : decode cX8_init 79 = .ok (.putfield 38, 3) := by decide +kernel
theorem dX8_init_82 : decode cX8_init 82 = .ok (.aload_n 0, 1) := by decide +kernel
theorem dX8_init_83 : decode cX8_init 83 = .ok (.iconst 4, 1) := by decide +kernel
theorem dX8_init_84 : decode cX8_init 84 = .ok (.newarray .int, 2) := by decide +kernel
theorem dX8_init_86 : decode cX8_init 86 = .ok (.putfield 41, 3) := by decide +kernel
theorem dX8_init_89 : decode cX8_init 89 = .ok (.aload_n 0, 1) := by decide +kernel
theorem dX8_init_90 : decode cX8_init 90 = .ok (.iconst 4, 1) := by decide +kernel
theorem dX8_init_91 : decode cX8_init 91 = .ok (.newarray .int, 2) := by decide +kernel
theorem dX8_init_93 : decode cX8_init 93 = .ok (.putfield 44, 3) := by decide +kernel
theorem dX8_init_96 : decode cX8_init 96 = .ok (.aload_n 0, 1) := by decide +kernel
theorem dX8_init_97 : decode cX8_init 97 = .ok (.iconst 4, 1) := by decide +kernel
theorem dX8_init_98 : decode cX8_init 98 = .ok (.newarray .int, 2) := by decide +kernel
theorem dX8_init_100 : decode cX8_init 100 = .ok (.putfield 47, 3) := by decide +kernel
theorem dX8_init_103 : decode cX8_init 103 = .ok (.aload_n 0, 1) := by decide +kernel
theorem dX8_init_104 : decode cX8_init 104 = .ok (.bipush 6, 2) := by decide +kernel
theorem dX8_init_106 : decode cX8_init 106 = .ok (.newarray .int, 2) := by decide +kernel
theorem dX8_init_108 : decode cX8_init 108 = .ok (.putfield 50, 3) := by decide +kernel
theorem dX8_init_111 : decode cX8_init 111 = .ok (.aload_n 0, 1) := by decide +kernel
theorem dX8_init_112 : decode cX8_init 112 = .ok (.getfield 7, 3) := by decide +kernel
theorem dX8_init_115 : decode cX8_init 115 = .ok (.invokestatic 53, 3) := by decide +kernel
theorem dX8_init_118 : decode cX8_init 118 = .ok (.return_, 1) := by decide +kernel
theorem dX8_in_0 : decode cX8_in 0 = .ok (.lload_n 0, 1) := by decide +kernel
theorem dX8_in_1 : decode cX8_in 1 = .ok (.lload_n 2, 1) := by decide +kernel
theorem dX8_in_2 : decode cX8_in 2 = .ok (.lcmp, 1) := by decide +kernel
theorem dX8_in_3 : decode cX8_in 3 = .ok (.ifCond .lt 14, 3) := by decide +kernel
theorem dX8_in_6 : decode cX8_in 6 = .ok (.lload_n 0, 1) := by decide +kernel
theorem dX8_in_7 : decode cX8_in 7 = .ok (.lload 4, 2) := by decide +kernel
theorem dX8_in_9 : decode cX8_in 9 = .ok (.lcmp, 1) := by decide +kernel
theorem dX8_in_10 : decode cX8_in 10 = .ok (.ifCond .gt 7, 3) := by decide +kernel
theorem dX8_in_13 : decode cX8_in 13 = .ok (.iconst 1, 1) := by decide +kernel
theorem dX8_in_14 : decode cX8_in 14 = .ok (.goto 4, 3) := by decide +kernel
theorem dX8_in_17 : decode cX8_in 17 = .ok (.iconst 0, 1) := by decide +kernel
theorem dX8_in_18 : decode cX8_in 18 = .ok (.ireturn, 1) := by decide +kernel
theorem dX8_flag_0 : decode cX8_flag 0 = .ok (.iload_n 0, 1) := by decide +kernel
theorem dX8_flag_1 : decode cX8_flag 1 = .ok (.ifCond .eq 7, 3) := by decide +kernel
theorem dX8_flag_4 : decode cX8_flag 4 = .ok (.iconst 1, 1) := by decide +kernel
theorem dX8_flag_5 : decode cX8_flag 5 = .ok (.goto 4, 3) := by decide +kernel
theorem dX8_flag_8 : decode cX8_flag 8 = .ok (.iconst 0, 1) := by decide +kernel
theorem dX8_flag_9 : decode cX8_flag 9 = .ok (.ireturn, 1) := by decide +kernel
theorem dX8_empties_0 : decode cX8_empties 0 = .ok (.iconst 0, 1) := by decide +kernel
theorem dX8_empties_1 : decode cX8_empties 1 = .ok (.istore_n 1, 1) := by decide +kernel
theorem dX8_empties_2 : decode cX8_empties 2 = .ok (.iload_n 1, 1) := by decide +kernel
theorem dX8_empties_3 : decode cX8_empties 3 = .ok (.sipush 6074, 3) := by decide +kernel
theorem dX8_empties_6 : decode cX8_empties 6 = .ok (.if_icmp .ge 13, 3) := by decide +kernel
theorem dX8_empties_9 : decode cX8_empties 9 = .ok (.aload_n 0, 1) := by decide +kernel
theorem dX8_empties_10 : decode cX8_empties 10 = .ok (.iload_n 1, 1) := by decide +kernel
theorem dX8_empties_11 : decode cX8_empties 11 = .ok (.iconst 0, 1) := by decide +kernel
theorem dX8_empties_12 : decode cX8_empties 12 = .ok (.iastore, 1) := by decide +kernel
theorem dX8_empties_13 : decode cX8_empties 13 = .ok (.iinc 1 1, 3) := by decide +kernel
theorem dX8_empties_16 : decode cX8_empties 16 = .ok (.goto (-14), 3) := by decide +kernel
theorem dX8_empties_19 : decode cX8_empties 19 = .ok (.iconst 0, 1) := by decide +kernel
theorem dX8_empties_20 : decode cX8_empties 20 = .ok (.istore_n 1, 1) := by decide +kernel
theorem dX8_empties_21 : decode cX8_empties 21 = .ok (.iload_n 1, 1) := by decide +kernel
theorem dX8_empties_22 : decode cX8_empties 22 = .ok (.bipush 6, 2) := by decide +kernel
theorem dX8_empties_24 : decode cX8_empties 24 = .ok (.if_icmp .ge 40, 3) := by decide +kernel
theorem dX8_empties_27 : decode cX8_empties 27 = .ok (.aload_n 0, 1) := by decide +kernel
theorem dX8_empties_28 : decode cX8_empties 28 = .ok (.sipush 308, 3) := by decide +kernel
theorem dX8_empties_31 : decode cX8_empties 31 = .ok (.sipush 961, 3) := by decide +kernel
theorem dX8_empties_34 : decode cX8_empties 34 = .ok (.iload_n 1, 1) := by decide +kernel
theorem dX8_empties_35 : decode cX8_empties 35 = .ok (.imul, 1) := by decide +kernel
theorem dX8_empties_36 : decode cX8_empties 36 = .ok (.iadd, 1) := by decide +kernel
theorem dX8_empties_37 : decode cX8_empties 37 = .ok (.bipush 21, 2) := by decide +kernel
theorem dX8_empties_39 : decode cX8_empties 39 = .ok (.iadd, 1) := by decide +kernel
theorem dX8_empties_40 : decode cX8_empties 40 = .ok (.bipush (-4), 2) := by decide +kernel
theorem dX8_empties_42 : decode cX8_empties 42 = .ok (.iastore, 1) := by decide +kernel
theorem dX8_empties_43 : decode cX8_empties 43 = .ok (.aload_n 0, 1) := by decide +kernel
theorem dX8_empties_44 : decode cX8_empties 44 = .ok (.sipush 308, 3) := by decide +kernel
theorem dX8_empties_47 : decode cX8_empties 47 = .ok (.sipush 961, 3) := by decide +kernel
theorem dX8_empties_50 : decode cX8_empties 50 = .ok (.iload_n 1, 1) := by decide +kernel
theorem dX8_empties_51 : decode cX8_empties 51 = .ok (.imul, 1) := by decide +kernel
theorem dX8_empties_52 : decode cX8_empties 52 = .ok (.iadd, 1) := by decide +kernel
theorem dX8_empties_53 : decode cX8_empties 53 = .ok (.bipush 9, 2) := by decide +kernel
theorem dX8_empties_55 : decode cX8_empties 55 = .ok (.iadd, 1) := by decide +kernel
theorem dX8_empties_56 : decode cX8_empties 56 = .ok (.iconst 1, 1) := by decide +kernel
theorem dX8_empties_57 : decode cX8_empties 57 = .ok (.iastore, 1) := by decide +kernel
theorem dX8_empties_58 : decode cX8_empties 58 = .ok (.iinc 1 1, 3) := by decide +kernel
theorem dX8_empties_61 : decode cX8_empties 61 = .ok (.goto (-40), 3) := by decide +kernel
theorem dX8_empties_64 : decode cX8_empties 64 = .ok (.return_, 1) := by decide +kernel
theorem dX8_at_0 : decode cX8_at 0 = .ok (.sipush 308, 3) := by decide +kernel
theorem dX8_at_3 : decode cX8_at 3 = .ok (.sipush 961, 3) := by decide +kernel
theorem dX8_at_6 : decode cX8_at 6 = .ok (.iload_n 0, 1) := by decide +kernel
theorem dX8_at_7 : decode cX8_at 7 = .ok (.imul, 1) := by decide +kernel
theorem dX8_at_8 : decode cX8_at 8 = .ok (.iadd, 1) := by decide +kernel
theorem dX8_at_9 : decode cX8_at 9 = .ok (.iload_n 1, 1) := by decide +kernel
theorem dX8_at_10 : decode cX8_at 10 = .ok (.iadd, 1) := by decide +kernel
theorem dX8_at_11 : decode cX8_at 11 = .ok (.ireturn, 1) := by decide +kernel
theorem dX8_feed_0 : decode cX8_feed 0 = .ok (.iload_n 1, 1) := by decide +kernel
theorem dX8_feed_1 : decode cX8_feed 1 = .ok (.i2l, 1) := by decide +kernel
theorem dX8_feed_2 : decode cX8_feed 2 = .ok (.lconst 0, 1) := by decide +kernel
theorem dX8_feed_3 : decode cX8_feed 3 = .ok (.ldc2_w 57, 3) := by decide +kernel
theorem dX8_feed_6 : decode cX8_feed 6 = .ok (.invokestatic 59, 3) := by decide +kernel
theorem dX8_feed_9 : decode cX8_feed 9 = .ok (.ifCond .ne 5, 3) := by decide +kernel
theorem dX8_feed_12 : decode cX8_feed 12 = .ok (.iconst (-1), 1) := by decide +kernel
theorem dX8_feed_13 : decode cX8_feed 13 = .ok (.ireturn, 1) := by decide +kernel
theorem dX8_feed_14 : decode cX8_feed 14 = .ok (.aload_n 0, 1) := by decide +kernel
theorem dX8_feed_15 : decode cX8_feed 15 = .ok (.getfield 63, 3) := by decide +kernel
theorem dX8_feed_18 : decode cX8_feed 18 = .ok (.sipush 200, 3) := by decide +kernel
theorem dX8_feed_21 : decode cX8_feed 21 = .ok (.if_icmp .ne 6, 3) := by decide +kernel
theorem dX8_feed_24 : decode cX8_feed 24 = .ok (.bipush (-3), 2) := by decide +kernel
theorem dX8_feed_26 : decode cX8_feed 26 = .ok (.ireturn, 1) := by decide +kernel
theorem dX8_feed_27 : decode cX8_feed 27 = .ok (.aload_n 0, 1) := by decide +kernel
theorem dX8_feed_28 : decode cX8_feed 28 = .ok (.getfield 26, 3) := by decide +kernel
theorem dX8_feed_31 : decode cX8_feed 31 = .ok (.aload_n 0, 1) := by decide +kernel
theorem dX8_feed_32 : decode cX8_feed 32 = .ok (.getfield 63, 3) := by decide +kernel
theorem dX8_feed_35 : decode cX8_feed 35 = .ok (.iload_n 1, 1) := by decide +kernel
theorem dX8_feed_36 : decode cX8_feed 36 = .ok (.iastore, 1) := by decide +kernel
theorem dX8_feed_37 : decode cX8_feed 37 = .ok (.aload_n 0, 1) := by decide +kernel
theorem dX8_feed_38 : decode cX8_feed 38 = .ok (.dup, 1) := by decide +kernel
theorem dX8_feed_39 : decode cX8_feed 39 = .ok (.getfield 63, 3) := by decide +kernel
theorem dX8_feed_42 : decode cX8_feed 42 = .ok (.iconst 1, 1) := by decide +kernel
theorem dX8_feed_43 : decode cX8_feed 43 = .ok (.iadd, 1) := by decide +kernel
theorem dX8_feed_44 : decode cX8_feed 44 = .ok (.putfield 63, 3) := by decide +kernel
theorem dX8_feed_47 : decode cX8_feed 47 = .ok (.aload_n 0, 1) := by decide +kernel
theorem dX8_feed_48 : decode cX8_feed 48 = .ok (.getfield 63, 3) := by decide +kernel
theorem dX8_feed_51 : decode cX8_feed 51 = .ok (.ireturn, 1) := by decide +kernel
theorem dX8_end_0 : decode cX8_end 0 = .ok (.iload_n 1, 1) := by decide +kernel
theorem dX8_end_1 : decode cX8_end 1 = .ok (.i2l, 1) := by decide +kernel
theorem dX8_end_2 : decode cX8_end 2 = .ok (.lconst 0, 1) := by decide +kernel
theorem dX8_end_3 : decode cX8_end 3 = .ok (.aload_n 0, 1) := by decide +kernel
theorem dX8_end_4 : decode cX8_end 4 = .ok (.getfield 63, 3) := by decide +kernel
theorem dX8_end_7 : decode cX8_end 7 = .ok (.i2l, 1) := by decide +kernel
theorem dX8_end_8 : decode cX8_end 8 = .ok (.invokestatic 59, 3) := by decide +kernel
theorem dX8_end_11 : decode cX8_end 11 = .ok (.ifCond .ne 5, 3) := by decide +kernel
theorem dX8_end_14 : decode cX8_end 14 = .ok (.iconst (-1), 1) := by decide +kernel
theorem dX8_end_15 : decode cX8_end 15 = .ok (.ireturn, 1) := by decide +kernel
theorem dX8_end_16 : decode cX8_end 16 = .ok (.aload_n 0, 1) := by decide +kernel
theorem dX8_end_17 : decode cX8_end 17 = .ok (.getfield 63, 3) := by decide +kernel
theorem dX8_end_20 : decode cX8_end 20 = .ok (.istore_n 2, 1) := by decide +kernel
theorem dX8_end_21 : decode cX8_end 21 = .ok (.aload_n 0, 1) := by decide +kernel
theorem dX8_end_22 : decode cX8_end 22 = .ok (.iload_n 1, 1) := by decide +kernel
theorem dX8_end_23 : decode cX8_end 23 = .ok (.putfield 63, 3) := by decide +kernel
theorem dX8_end_26 : decode cX8_end 26 = .ok (.iload_n 2, 1) := by decide +kernel
theorem dX8_end_27 : decode cX8_end 27 = .ok (.ireturn, 1) := by decide +kernel
theorem dX8_byteAt_0 : decode cX8_byteAt 0 = .ok (.iload_n 1, 1) := by decide +kernel
theorem dX8_byteAt_1 : decode cX8_byteAt 1 = .ok (.aload_n 0, 1) := by decide +kernel
theorem dX8_byteAt_2 : decode cX8_byteAt 2 = .ok (.getfield 63, 3) := by decide +kernel
theorem dX8_byteAt_5 : decode cX8_byteAt 5 = .ok (.if_icmp .ge 12, 3) := by decide +kernel
theorem dX8_byteAt_8 : decode cX8_byteAt 8 = .ok (.aload_n 0, 1) := by decide +kernel
theorem dX8_byteAt_9 : decode cX8_byteAt 9 = .ok (.getfield 26, 3) := by decide +kernel
theorem dX8_byteAt_12 : decode cX8_byteAt 12 = .ok (.iload_n 1, 1) := by decide +kernel
theorem dX8_byteAt_13 : decode cX8_byteAt 13 = .ok (.iaload, 1) := by decide +kernel
theorem dX8_byteAt_14 : decode cX8_byteAt 14 = .ok (.goto 5, 3) := by decide +kernel
theorem dX8_byteAt_17 : decode cX8_byteAt 17 = .ok (.bipush (-4), 2) := by decide +kernel
theorem dX8_byteAt_19 : decode cX8_byteAt 19 = .ok (.ireturn, 1) := by decide +kernel
theorem dX8_must_0 : decode cX8_must 0 = .ok (.iload_n 1, 1) := by decide +kernel
theorem dX8_must_1 : decode cX8_must 1 = .ok (.ifCond .ne 23, 3) := by decide +kernel
theorem dX8_must_4 : decode cX8_must 4 = .ok (.aload_n 0, 1) := by decide +kernel
theorem dX8_must_5 : decode cX8_must 5 = .ok (.getfield 67, 3) := by decide +kernel
theorem dX8_must_8 : decode cX8_must 8 = .ok (.ifCond .ne 16, 3) := by decide +kernel
theorem dX8_must_11 : decode cX8_must 11 = .ok (.aload_n 0, 1) := by decide +kernel
theorem dX8_must_12 : decode cX8_must 12 = .ok (.iload_n 2, 1) := by decide +kernel
theorem dX8_must_13 : decode cX8_must 13 = .ok (.putfield 67, 3) := by decide +kernel
theorem dX8_must_16 : decode cX8_must 16 = .ok (.aload_n 0, 1) := by decide +kernel
theorem dX8_must_17 : decode cX8_must 17 = .ok (.aload_n 0, 1) := by decide +kernel
theorem dX8_must_18 : decode cX8_must 18 = .ok (.getfield 70, 3) := by decide +kernel
theorem dX8_must_21 : decode cX8_must 21 = .ok (.putfield 73, 3) := by decide +kernel
theorem dX8_must_24 : decode cX8_must 24 = .ok (.return_, 1) := by decide +kernel
theorem dX8_reads_0 : decode cX8_reads 0 = .ok (.aload_n 0, 1) := by decide +kernel
theorem dX8_reads_1 : decode cX8_reads 1 = .ok (.getfield 67, 3) := by decide +kernel
theorem dX8_reads_4 : decode cX8_reads 4 = .ok (.ifCond .le 4, 3) := by decide +kernel
theorem dX8_reads_7 : decode cX8_reads 7 = .ok (.return_, 1) := by decide +kernel
theorem dX8_reads_8 : decode cX8_reads 8 = .ok (.aload_n 0, 1) := by decide +kernel
theorem dX8_reads_9 : decode cX8_reads 9 = .ok (.aload_n 0, 1) := by decide +kernel
theorem dX8_reads_10 : decode cX8_reads 10 = .ok (.getfield 76, 3) := by decide +kernel
theorem dX8_reads_13 : decode cX8_reads 13 = .ok (.invokevirtual 79, 3) := by decide +kernel
theorem dX8_reads_16 : decode cX8_reads 16 = .ok (.bipush 32, 2) := by decide +kernel
theorem dX8_reads_18 : decode cX8_reads 18 = .ok (.if_icmp .ne 16, 3) := by decide +kernel
theorem dX8_reads_21 : decode cX8_reads 21 = .ok (.aload_n 0, 1) := by decide +kernel
theorem dX8_reads_22 : decode cX8_reads 22 = .ok (.dup, 1) := by decide +kernel
theorem dX8_reads_23 : decode cX8_reads 23 = .ok (.getfield 76, 3) := by decide +kernel
theorem dX8_reads_26 : decode cX8_reads 26 = .ok (.iconst 1, 1) := by decide +kernel
theorem dX8_reads_27 : decode cX8_reads 27 = .ok (.iadd, 1) := by decide +kernel
theorem dX8_reads_28 : decode cX8_reads 28 = .ok (.putfield 76, 3) := by decide +kernel
theorem dX8_reads_31 : decode cX8_reads 31 = .ok (.goto (-23), 3) := by decide +kernel
theorem dX8_reads_34 : decode cX8_reads 34 = .ok (.aload_n 0, 1) := by decide +kernel
theorem dX8_reads_35 : decode cX8_reads 35 = .ok (.aload_n 0, 1) := by decide +kernel
theorem dX8_reads_36 : decode cX8_reads 36 = .ok (.getfield 76, 3) := by decide +kernel
theorem dX8_reads_39 : decode cX8_reads 39 = .ok (.putfield 70, 3) := by decide +kernel
theorem dX8_reads_42 : decode cX8_reads 42 = .ok (.aload_n 0, 1) := by decide +kernel
theorem dX8_reads_43 : decode cX8_reads 43 = .ok (.aload_n 0, 1) := by decide +kernel
theorem dX8_reads_44 : decode cX8_reads 44 = .ok (.getfield 76, 3) := by decide +kernel
theorem dX8_reads_47 : decode cX8_reads 47 = .ok (.invokevirtual 79, 3) := by decide +kernel
theorem dX8_reads_50 : decode cX8_reads 50 = .ok (.istore_n 1, 1) := by decide +kernel
theorem dX8_reads_51 : decode cX8_reads 51 = .ok (.aload_n 0, 1) := by decide +kernel
theorem dX8_reads_52 : decode cX8_reads 52 = .ok (.iload_n 1, 1) := by decide +kernel
theorem dX8_reads_53 : decode cX8_reads 53 = .ok (.putfield 83, 3) := by decide +kernel
theorem dX8_reads_56 : decode cX8_reads 56 = .ok (.iload_n 1, 1) := by decide +kernel
theorem dX8_reads_57 : decode cX8_reads 57 = .ok (.bipush (-4), 2) := by decide +kernel
theorem dX8_reads_59 : decode cX8_reads 59 = .ok (.if_icmp .ne 11, 3) := by decide +kernel
theorem dX8_reads_62 : decode cX8_reads 62 = .ok (.aload_n 0, 1) := by decide +kernel
theorem dX8_reads_63 : decode cX8_reads 63 = .ok (.iconst 0, 1) := by decide +kernel
theorem dX8_reads_64 : decode cX8_reads 64 = .ok (.putfield 86, 3) := by decide +kernel
theorem dX8_reads_67 : decode cX8_reads 67 = .ok (.goto 232, 3) := by decide +kernel
theorem dX8_reads_70 : decode cX8_reads 70 = .ok (.iload_n 1, 1) := by decide +kernel
theorem dX8_reads_71 : decode cX8_reads 71 = .ok (.i2l, 1) := by decide +kernel
theorem dX8_reads_72 : decode cX8_reads 72 = .ok (.ldc2_w 89, 3) := by decide +kernel
theorem dX8_reads_75 : decode cX8_reads 75 = .ok (.ldc2_w 91, 3) := by decide +kernel
theorem dX8_reads_78 : decode cX8_reads 78 = .ok (.invokestatic 59, 3) := by decide +kernel
theorem dX8_reads_81 : decode cX8_reads 81 = .ok (.ifCond .eq 42, 3) := by decide +kernel
theorem dX8_reads_84 : decode cX8_reads 84 = .ok (.aload_n 0, 1) := by decide +kernel
theorem dX8_reads_85 : decode cX8_reads 85 = .ok (.iconst 1, 1) := by decide +kernel
theorem dX8_reads_86 : decode cX8_reads 86 = .ok (.putfield 86, 3) := by decide +kernel
theorem dX8_reads_89 : decode cX8_reads 89 = .ok (.aload_n 0, 1) := by decide +kernel
theorem dX8_reads_90 : decode cX8_reads 90 = .ok (.aload_n 0, 1) := by decide +kernel
theorem dX8_reads_91 : decode cX8_reads 91 = .ok (.getfield 76, 3) := by decide +kernel
theorem dX8_reads_94 : decode cX8_reads 94 = .ok (.invokevirtual 79, 3) := by decide +kernel
theorem dX8_reads_97 : decode cX8_reads 97 = .ok (.i2l, 1) := by decide +kernel
theorem dX8_reads_98 : decode cX8_reads 98 = .ok (.ldc2_w 89, 3) := by decide +kernel
theorem dX8_reads_101 : decode cX8_reads 101 = .ok (.ldc2_w 91, 3) := by decide +kernel
theorem dX8_reads_104 : decode cX8_reads 104 = .ok (.invokestatic 59, 3) := by decide +kernel
theorem dX8_reads_107 : decode cX8_reads 107 = .ok (.ifCond .eq 192, 3) := by decide +kernel
theorem dX8_reads_110 : decode cX8_reads 110 = .ok (.aload_n 0, 1) := by decide +kernel
theorem dX8_reads_111 : decode cX8_reads 111 = .ok (.dup, 1) := by decide +kernel
theorem dX8_reads_112 : decode cX8_reads 112 = .ok (.getfield 76, 3) := by decide +kernel
theorem dX8_reads_115 : decode cX8_reads 115 = .ok (.iconst 1, 1) := by decide +kernel
theorem dX8_reads_116 : decode cX8_reads 116 = .ok (.iadd, 1) := by decide +kernel
theorem dX8_reads_117 : decode cX8_reads 117 = .ok (.putfield 76, 3) := by decide +kernel
theorem dX8_reads_120 : decode cX8_reads 120 = .ok (.goto (-31), 3) := by decide +kernel
theorem dX8_reads_123 : decode cX8_reads 123 = .ok (.iload_n 1, 1) := by decide +kernel
theorem dX8_reads_124 : decode cX8_reads 124 = .ok (.i2l, 1) := by decide +kernel
theorem dX8_reads_125 : decode cX8_reads 125 = .ok (.ldc2_w 93, 3) := by decide +kernel
theorem dX8_reads_128 : decode cX8_reads 128 = .ok (.ldc2_w 95, 3) := by decide +kernel
theorem dX8_reads_131 : decode cX8_reads 131 = .ok (.invokestatic 59, 3) := by decide +kernel
theorem dX8_reads_134 : decode cX8_reads 134 = .ok (.ifCond .eq 116, 3) := by decide +kernel
theorem dX8_reads_137 : decode cX8_reads 137 = .ok (.aload_n 0, 1) := by decide +kernel
theorem dX8_reads_138 : decode cX8_reads 138 = .ok (.iconst 2, 1) := by decide +kernel
theorem dX8_reads_139 : decode cX8_reads 139 = .ok (.putfield 86, 3) := by decide +kernel
theorem dX8_reads_142 : decode cX8_reads 142 = .ok (.aload_n 0, 1) := by decide +kernel
theorem dX8_reads_143 : decode cX8_reads 143 = .ok (.iconst 0, 1) := by decide +kernel
theorem dX8_reads_144 : decode cX8_reads 144 = .ok (.putfield 83, 3) := by decide +kernel
theorem dX8_reads_147 : decode cX8_reads 147 = .ok (.aload_n 0, 1) := by decide +kernel
theorem dX8_reads_148 : decode cX8_reads 148 = .ok (.aload_n 0, 1) := by decide +kernel
theorem dX8_reads_149 : decode cX8_reads 149 = .ok (.getfield 76, 3) := by decide +kernel
theorem dX8_reads_152 : decode cX8_reads 152 = .ok (.invokevirtual 79, 3) := by decide +kernel
theorem dX8_reads_155 : decode cX8_reads 155 = .ok (.i2l, 1) := by decide +kernel
theorem dX8_reads_156 : decode cX8_reads 156 = .ok (.ldc2_w 93, 3) := by decide +kernel
theorem dX8_reads_159 : decode cX8_reads 159 = .ok (.ldc2_w 95, 3) := by decide +kernel
theorem dX8_reads_162 : decode cX8_reads 162 = .ok (.invokestatic 59, 3) := by decide +kernel
theorem dX8_reads_165 : decode cX8_reads 165 = .ok (.ifCond .eq 59, 3) := by decide +kernel
theorem dX8_reads_168 : decode cX8_reads 168 = .ok (.aload_n 0, 1) := by decide +kernel
theorem dX8_reads_169 : decode cX8_reads 169 = .ok (.aload_n 0, 1) := by decide +kernel
theorem dX8_reads_170 : decode cX8_reads 170 = .ok (.getfield 76, 3) := by decide +kernel
theorem dX8_reads_173 : decode cX8_reads 173 = .ok (.aload_n 0, 1) := by decide +kernel
theorem dX8_reads_174 : decode cX8_reads 174 = .ok (.getfield 70, 3) := by decide +kernel
theorem dX8_reads_177 : decode cX8_reads 177 = .ok (.isub, 1) := by decide +kernel
theorem dX8_reads_178 : decode cX8_reads 178 = .ok (.iconst 2, 1) := by decide +kernel
theorem dX8_reads_179 : decode cX8_reads 179 = .ok (.if_icmp .ge 25, 3) := by decide +kernel
theorem dX8_reads_182 : decode cX8_reads 182 = .ok (.bipush 10, 2) := by decide +kernel
theorem dX8_reads_184 : decode cX8_reads 184 = .ok (.aload_n 0, 1) := by decide +kernel
theorem dX8_reads_185 : decode cX8_reads 185 = .ok (.getfield 83, 3) := by decide +kernel
theorem dX8_reads_188 : decode cX8_reads 188 = .ok (.imul, 1) := by decide +kernel
theorem dX8_reads_189 : decode cX8_reads 189 = .ok (.aload_n 0, 1) := by decide +kernel
theorem dX8_reads_190 : decode cX8_reads 190 = .ok (.aload_n 0, 1) := by decide +kernel
theorem dX8_reads_191 : decode cX8_reads 191 = .ok (.getfield 76, 3) := by decide +kernel
theorem dX8_reads_194 : decode cX8_reads 194 = .ok (.invokevirtual 79, 3) := by decide +kernel
theorem dX8_reads_197 : decode cX8_reads 197 = .ok (.iadd, 1) := by decide +kernel
theorem dX8_reads_198 : decode cX8_reads 198 = .ok (.bipush 48, 2) := by decide +kernel
theorem dX8_reads_200 : decode cX8_reads 200 = .ok (.isub, 1) := by decide +kernel
theorem dX8_reads_201 : decode cX8_reads 201 = .ok (.goto 7, 3) := by decide +kernel
theorem dX8_reads_204 : decode cX8_reads 204 = .ok (.aload_n 0, 1) := by decide +kernel
theorem dX8_reads_205 : decode cX8_reads 205 = .ok (.getfield 83, 3) := by decide +kernel
theorem dX8_reads_208 : decode cX8_reads 208 = .ok (.putfield 83, 3) := by decide +kernel
theorem dX8_reads_211 : decode cX8_reads 211 = .ok (.aload_n 0, 1) := by decide +kernel
theorem dX8_reads_212 : decode cX8_reads 212 = .ok (.dup, 1) := by decide +kernel
theorem dX8_reads_213 : decode cX8_reads 213 = .ok (.getfield 76, 3) := by decide +kernel
theorem dX8_reads_216 : decode cX8_reads 216 = .ok (.iconst 1, 1) := by decide +kernel
theorem dX8_reads_217 : decode cX8_reads 217 = .ok (.iadd, 1) := by decide +kernel
theorem dX8_reads_218 : decode cX8_reads 218 = .ok (.putfield 76, 3) := by decide +kernel
theorem dX8_reads_221 : decode cX8_reads 221 = .ok (.goto (-74), 3) := by decide +kernel
theorem dX8_reads_224 : decode cX8_reads 224 = .ok (.aload_n 0, 1) := by decide +kernel
theorem dX8_reads_225 : decode cX8_reads 225 = .ok (.aload_n 0, 1) := by decide +kernel
theorem dX8_reads_226 : decode cX8_reads 226 = .ok (.getfield 76, 3) := by decide +kernel
theorem dX8_reads_229 : decode cX8_reads 229 = .ok (.aload_n 0, 1) := by decide +kernel
theorem dX8_reads_230 : decode cX8_reads 230 = .ok (.getfield 70, 3) := by decide +kernel
theorem dX8_reads_233 : decode cX8_reads 233 = .ok (.isub, 1) := by decide +kernel
theorem dX8_reads_234 : decode cX8_reads 234 = .ok (.iconst 2, 1) := by decide +kernel
theorem dX8_reads_235 : decode cX8_reads 235 = .ok (.if_icmp .gt 7, 3) := by decide +kernel
theorem dX8_reads_238 : decode cX8_reads 238 = .ok (.iconst 1, 1) := by decide +kernel
theorem dX8_reads_239 : decode cX8_reads 239 = .ok (.goto 4, 3) := by decide +kernel
theorem dX8_reads_242 : decode cX8_reads 242 = .ok (.iconst 0, 1) := by decide +kernel
theorem dX8_reads_243 : decode cX8_reads 243 = .ok (.iconst 1, 1) := by decide +kernel
theorem dX8_reads_244 : decode cX8_reads 244 = .ok (.invokevirtual 97, 3) := by decide +kernel
theorem dX8_reads_247 : decode cX8_reads 247 = .ok (.goto 52, 3) := by decide +kernel
theorem dX8_reads_250 : decode cX8_reads 250 = .ok (.aload_n 0, 1) := by decide +kernel
theorem dX8_reads_251 : decode cX8_reads 251 = .ok (.iconst 3, 1) := by decide +kernel
theorem dX8_reads_252 : decode cX8_reads 252 = .ok (.putfield 86, 3) := by decide +kernel
theorem dX8_reads_255 : decode cX8_reads 255 = .ok (.aload_n 0, 1) := by decide +kernel
theorem dX8_reads_256 : decode cX8_reads 256 = .ok (.iload_n 1, 1) := by decide +kernel
theorem dX8_reads_257 : decode cX8_reads 257 = .ok (.bipush 47, 2) := by decide +kernel
theorem dX8_reads_259 : decode cX8_reads 259 = .ok (.if_icmp .eq 21, 3) := by decide +kernel
theorem dX8_reads_262 : decode cX8_reads 262 = .ok (.iload_n 1, 1) := by decide +kernel
theorem dX8_reads_263 : decode cX8_reads 263 = .ok (.bipush 43, 2) := by decide +kernel
theorem dX8_reads_265 : decode cX8_reads 265 = .ok (.if_icmp .eq 15, 3) := by decide +kernel
theorem dX8_reads_268 : decode cX8_reads 268 = .ok (.iload_n 1, 1) := by decide +kernel
theorem dX8_reads_269 : decode cX8_reads 269 = .ok (.bipush 35, 2) := by decide +kernel
theorem dX8_reads_271 : decode cX8_reads 271 = .ok (.if_icmp .eq 9, 3) := by decide +kernel
theorem dX8_reads_274 : decode cX8_reads 274 = .ok (.iload_n 1, 1) := by decide +kernel
theorem dX8_reads_275 : decode cX8_reads 275 = .ok (.bipush 59, 2) := by decide +kernel
theorem dX8_reads_277 : decode cX8_reads 277 = .ok (.if_icmp .ne 7, 3) := by decide +kernel
theorem dX8_reads_280 : decode cX8_reads 280 = .ok (.iconst 1, 1) := by decide +kernel
theorem dX8_reads_281 : decode cX8_reads 281 = .ok (.goto 4, 3) := by decide +kernel
theorem dX8_reads_284 : decode cX8_reads 284 = .ok (.iconst 0, 1) := by decide +kernel
theorem dX8_reads_285 : decode cX8_reads 285 = .ok (.iconst 1, 1) := by decide +kernel
theorem dX8_reads_286 : decode cX8_reads 286 = .ok (.invokevirtual 97, 3) := by decide +kernel
theorem dX8_reads_289 : decode cX8_reads 289 = .ok (.aload_n 0, 1) := by decide +kernel
theorem dX8_reads_290 : decode cX8_reads 290 = .ok (.dup, 1) := by decide +kernel
theorem dX8_reads_291 : decode cX8_reads 291 = .ok (.getfield 76, 3) := by decide +kernel
theorem dX8_reads_294 : decode cX8_reads 294 = .ok (.iconst 1, 1) := by decide +kernel
theorem dX8_reads_295 : decode cX8_reads 295 = .ok (.iadd, 1) := by decide +kernel
theorem dX8_reads_296 : decode cX8_reads 296 = .ok (.putfield 76, 3) := by decide +kernel
theorem dX8_reads_299 : decode cX8_reads 299 = .ok (.return_, 1) := by decide +kernel
theorem dX8_isSign_0 : decode cX8_isSign 0 = .ok (.aload_n 0, 1) := by decide +kernel
theorem dX8_isSign_1 : decode cX8_isSign 1 = .ok (.getfield 86, 3) := by decide +kernel
theorem dX8_isSign_4 : decode cX8_isSign 4 = .ok (.iconst 3, 1) := by decide +kernel
theorem dX8_isSign_5 : decode cX8_isSign 5 = .ok (.if_icmp .ne 15, 3) := by decide +kernel
theorem dX8_isSign_8 : decode cX8_isSign 8 = .ok (.aload_n 0, 1) := by decide +kernel
theorem dX8_isSign_9 : decode cX8_isSign 9 = .ok (.getfield 83, 3) := by decide +kernel
theorem dX8_isSign_12 : decode cX8_isSign 12 = .ok (.iload_n 1, 1) := by decide +kernel
theorem dX8_isSign_13 : decode cX8_isSign 13 = .ok (.if_icmp .ne 7, 3) := by decide +kernel
theorem dX8_isSign_16 : decode cX8_isSign 16 = .ok (.iconst 1, 1) := by decide +kernel
theorem dX8_isSign_17 : decode cX8_isSign 17 = .ok (.goto 4, 3) := by decide +kernel
theorem dX8_isSign_20 : decode cX8_isSign 20 = .ok (.iconst 0, 1) := by decide +kernel
theorem dX8_isSign_21 : decode cX8_isSign 21 = .ok (.ireturn, 1) := by decide +kernel
theorem dX8_isSub_0 : decode cX8_isSub 0 = .ok (.aload_n 0, 1) := by decide +kernel
theorem dX8_isSub_1 : decode cX8_isSub 1 = .ok (.getfield 86, 3) := by decide +kernel
theorem dX8_isSub_4 : decode cX8_isSub 4 = .ok (.iconst 1, 1) := by decide +kernel
theorem dX8_isSub_5 : decode cX8_isSub 5 = .ok (.if_icmp .ne 63, 3) := by decide +kernel
theorem dX8_isSub_8 : decode cX8_isSub 8 = .ok (.aload_n 0, 1) := by decide +kernel
theorem dX8_isSub_9 : decode cX8_isSub 9 = .ok (.getfield 76, 3) := by decide +kernel
theorem dX8_isSub_12 : decode cX8_isSub 12 = .ok (.aload_n 0, 1) := by decide +kernel
theorem dX8_isSub_13 : decode cX8_isSub 13 = .ok (.getfield 70, 3) := by decide +kernel
theorem dX8_isSub_16 : decode cX8_isSub 16 = .ok (.isub, 1) := by decide +kernel
theorem dX8_isSub_17 : decode cX8_isSub 17 = .ok (.iconst 3, 1) := by decide +kernel
theorem dX8_isSub_18 : decode cX8_isSub 18 = .ok (.if_icmp .ne 50, 3) := by decide +kernel
theorem dX8_isSub_21 : decode cX8_isSub 21 = .ok (.aload_n 0, 1) := by decide +kernel
theorem dX8_isSub_22 : decode cX8_isSub 22 = .ok (.aload_n 0, 1) := by decide +kernel
theorem dX8_isSub_23 : decode cX8_isSub 23 = .ok (.getfield 70, 3) := by decide +kernel
theorem dX8_isSub_26 : decode cX8_isSub 26 = .ok (.invokevirtual 79, 3) := by decide +kernel
theorem dX8_isSub_29 : decode cX8_isSub 29 = .ok (.bipush 115, 2) := by decide +kernel
theorem dX8_isSub_31 : decode cX8_isSub 31 = .ok (.if_icmp .ne 37, 3) := by decide +kernel
theorem dX8_isSub_34 : decode cX8_isSub 34 = .ok (.aload_n 0, 1) := by decide +kernel
theorem dX8_isSub_35 : decode cX8_isSub 35 = .ok (.aload_n 0, 1) := by decide +kernel
theorem dX8_isSub_36 : decode cX8_isSub 36 = .ok (.getfield 70, 3) := by decide +kernel
theorem dX8_isSub_39 : decode cX8_isSub 39 = .ok (.iconst 1, 1) := by decide +kernel
theorem dX8_isSub_40 : decode cX8_isSub 40 = .ok (.iadd, 1) := by decide +kernel
theorem dX8_isSub_41 : decode cX8_isSub 41 = .ok (.invokevirtual 79, 3) := by decide +kernel
theorem dX8_isSub_44 : decode cX8_isSub 44 = .ok (.bipush 117, 2) := by decide +kernel
theorem dX8_isSub_46 : decode cX8_isSub 46 = .ok (.if_icmp .ne 22, 3) := by decide +kernel
theorem dX8_isSub_49 : decode cX8_isSub 49 = .ok (.aload_n 0, 1) := by decide +kernel
theorem dX8_isSub_50 : decode cX8_isSub 50 = .ok (.aload_n 0, 1) := by decide +kernel
theorem dX8_isSub_51 : decode cX8_isSub 51 = .ok (.getfield 70, 3) := by decide +kernel
theorem dX8_isSub_54 : decode cX8_isSub 54 = .ok (.iconst 2, 1) := by decide +kernel
theorem dX8_isSub_55 : decode cX8_isSub 55 = .ok (.iadd, 1) := by decide +kernel
theorem dX8_isSub_56 : decode cX8_isSub 56 = .ok (.invokevirtual 79, 3) := by decide +kernel
theorem dX8_isSub_59 : decode cX8_isSub 59 = .ok (.bipush 98, 2) := by decide +kernel
theorem dX8_isSub_61 : decode cX8_isSub 61 = .ok (.if_icmp .ne 7, 3) := by decide +kernel
theorem dX8_isSub_64 : decode cX8_isSub 64 = .ok (.iconst 1, 1) := by decide +kernel
theorem dX8_isSub_65 : decode cX8_isSub 65 = .ok (.goto 4, 3) := by decide +kernel
theorem dX8_isSub_68 : decode cX8_isSub 68 = .ok (.iconst 0, 1) := by decide +kernel
theorem dX8_isSub_69 : decode cX8_isSub 69 = .ok (.ireturn, 1) := by decide +kernel
theorem dX8_isKeptNow_0 : decode cX8_isKeptNow 0 = .ok (.aload_n 0, 1) := by decide +kernel
theorem dX8_isKeptNow_1 : decode cX8_isKeptNow 1 = .ok (.getfield 86, 3) := by decide +kernel
theorem dX8_isKeptNow_4 : decode cX8_isKeptNow 4 = .ok (.iconst 1, 1) := by decide +kernel
theorem dX8_isKeptNow_5 : decode cX8_isKeptNow 5 = .ok (.if_icmp .ne 78, 3) := by decide +kernel
theorem dX8_isKeptNow_8 : decode cX8_isKeptNow 8 = .ok (.aload_n 0, 1) := by decide +kernel
theorem dX8_isKeptNow_9 : decode cX8_isKeptNow 9 = .ok (.getfield 76, 3) := by decide +kernel
theorem dX8_isKeptNow_12 : decode cX8_isKeptNow 12 = .ok (.aload_n 0, 1) := by decide +kernel
theorem dX8_isKeptNow_13 : decode cX8_isKeptNow 13 = .ok (.getfield 70, 3) := by decide +kernel
theorem dX8_isKeptNow_16 : decode cX8_isKeptNow 16 = .ok (.isub, 1) := by decide +kernel
theorem dX8_isKeptNow_17 : decode cX8_isKeptNow 17 = .ok (.iconst 4, 1) := by decide +kernel
theorem dX8_isKeptNow_18 : decode cX8_isKeptNow 18 = .ok (.if_icmp .ne 65, 3) := by decide +kernel
theorem dX8_isKeptNow_21 : decode cX8_isKeptNow 21 = .ok (.aload_n 0, 1) := by decide +kernel
theorem dX8_isKeptNow_22 : decode cX8_isKeptNow 22 = .ok (.aload_n 0, 1) := by decide +kernel
theorem dX8_isKeptNow_23 : decode cX8_isKeptNow 23 = .ok (.getfield 70, 3) := by decide +kernel
theorem dX8_isKeptNow_26 : decode cX8_isKeptNow 26 = .ok (.invokevirtual 79, 3) := by decide +kernel
theorem dX8_isKeptNow_29 : decode cX8_isKeptNow 29 = .ok (.bipush 107, 2) := by decide +kernel
theorem dX8_isKeptNow_31 : decode cX8_isKeptNow 31 = .ok (.if_icmp .ne 52, 3) := by decide +kernel
theorem dX8_isKeptNow_34 : decode cX8_isKeptNow 34 = .ok (.aload_n 0, 1) := by decide +kernel
theorem dX8_isKeptNow_35 : decode cX8_isKeptNow 35 = .ok (.aload_n 0, 1) := by decide +kernel
theorem dX8_isKeptNow_36 : decode cX8_isKeptNow 36 = .ok (.getfield 70, 3) := by decide +kernel
theorem dX8_isKeptNow_39 : decode cX8_isKeptNow 39 = .ok (.iconst 1, 1) := by decide +kernel
theorem dX8_isKeptNow_40 : decode cX8_isKeptNow 40 = .ok (.iadd, 1) := by decide +kernel
theorem dX8_isKeptNow_41 : decode cX8_isKeptNow 41 = .ok (.invokevirtual 79, 3) := by decide +kernel
theorem dX8_isKeptNow_44 : decode cX8_isKeptNow 44 = .ok (.bipush 101, 2) := by decide +kernel
theorem dX8_isKeptNow_46 : decode cX8_isKeptNow 46 = .ok (.if_icmp .ne 37, 3) := by decide +kernel
theorem dX8_isKeptNow_49 : decode cX8_isKeptNow 49 = .ok (.aload_n 0, 1) := by decide +kernel
theorem dX8_isKeptNow_50 : decode cX8_isKeptNow 50 = .ok (.aload_n 0, 1) := by decide +kernel
theorem dX8_isKeptNow_51 : decode cX8_isKeptNow 51 = .ok (.getfield 70, 3) := by decide +kernel
theorem dX8_isKeptNow_54 : decode cX8_isKeptNow 54 = .ok (.iconst 2, 1) := by decide +kernel
theorem dX8_isKeptNow_55 : decode cX8_isKeptNow 55 = .ok (.iadd, 1) := by decide +kernel
theorem dX8_isKeptNow_56 : decode cX8_isKeptNow 56 = .ok (.invokevirtual 79, 3) := by decide +kernel
theorem dX8_isKeptNow_59 : decode cX8_isKeptNow 59 = .ok (.bipush 112, 2) := by decide +kernel
theorem dX8_isKeptNow_61 : decode cX8_isKeptNow 61 = .ok (.if_icmp .ne 22, 3) := by decide +kernel
theorem dX8_isKeptNow_64 : decode cX8_isKeptNow 64 = .ok (.aload_n 0, 1) := by decide +kernel
theorem dX8_isKeptNow_65 : decode cX8_isKeptNow 65 = .ok (.aload_n 0, 1) := by decide +kernel
theorem dX8_isKeptNow_66 : decode cX8_isKeptNow 66 = .ok (.getfield 70, 3) := by decide +kernel
theorem dX8_isKeptNow_69 : decode cX8_isKeptNow 69 = .ok (.iconst 3, 1) := by decide +kernel
theorem dX8_isKeptNow_70 : decode cX8_isKeptNow 70 = .ok (.iadd, 1) := by decide +kernel
theorem dX8_isKeptNow_71 : decode cX8_isKeptNow 71 = .ok (.invokevirtual 79, 3) := by decide +kernel
theorem dX8_isKeptNow_74 : decode cX8_isKeptNow 74 = .ok (.bipush 116, 2) := by decide +kernel
theorem dX8_isKeptNow_76 : decode cX8_isKeptNow 76 = .ok (.if_icmp .ne 7, 3) := by decide +kernel
theorem dX8_isKeptNow_79 : decode cX8_isKeptNow 79 = .ok (.iconst 1, 1) := by decide +kernel
theorem dX8_isKeptNow_80 : decode cX8_isKeptNow 80 = .ok (.goto 4, 3) := by decide +kernel
theorem dX8_isKeptNow_83 : decode cX8_isKeptNow 83 = .ok (.iconst 0, 1) := by decide +kernel
theorem dX8_isKeptNow_84 : decode cX8_isKeptNow 84 = .ok (.ireturn, 1) := by decide +kernel
theorem dX8_number_0 : decode cX8_number 0 = .ok (.aload_n 0, 1) := by decide +kernel
theorem dX8_number_1 : decode cX8_number 1 = .ok (.aload_n 0, 1) := by decide +kernel
theorem dX8_number_2 : decode cX8_number 2 = .ok (.getfield 86, 3) := by decide +kernel
theorem dX8_number_5 : decode cX8_number 5 = .ok (.iconst 2, 1) := by decide +kernel
theorem dX8_number_6 : decode cX8_number 6 = .ok (.if_icmp .ne 7, 3) := by decide +kernel
theorem dX8_number_9 : decode cX8_number 9 = .ok (.iconst 1, 1) := by decide +kernel
theorem dX8_number_10 : decode cX8_number 10 = .ok (.goto 4, 3) := by decide +kernel
theorem dX8_number_13 : decode cX8_number 13 = .ok (.iconst 0, 1) := by decide +kernel
theorem dX8_number_14 : decode cX8_number 14 = .ok (.iconst 2, 1) := by decide +kernel
theorem dX8_number_15 : decode cX8_number 15 = .ok (.invokevirtual 97, 3) := by decide +kernel
theorem dX8_number_18 : decode cX8_number 18 = .ok (.aload_n 0, 1) := by decide +kernel
theorem dX8_number_19 : decode cX8_number 19 = .ok (.aload_n 0, 1) := by decide +kernel
theorem dX8_number_20 : decode cX8_number 20 = .ok (.getfield 67, 3) := by decide +kernel
theorem dX8_number_23 : decode cX8_number 23 = .ok (.ifCond .gt 18, 3) := by decide +kernel
theorem dX8_number_26 : decode cX8_number 26 = .ok (.aload_n 0, 1) := by decide +kernel
theorem dX8_number_27 : decode cX8_number 27 = .ok (.getfield 83, 3) := by decide +kernel
theorem dX8_number_30 : decode cX8_number 30 = .ok (.i2l, 1) := by decide +kernel
theorem dX8_number_31 : decode cX8_number 31 = .ok (.iload_n 1, 1) := by decide +kernel
theorem dX8_number_32 : decode cX8_number 32 = .ok (.i2l, 1) := by decide +kernel
theorem dX8_number_33 : decode cX8_number 33 = .ok (.iload_n 2, 1) := by decide +kernel
theorem dX8_number_34 : decode cX8_number 34 = .ok (.i2l, 1) := by decide +kernel
theorem dX8_number_35 : decode cX8_number 35 = .ok (.invokestatic 59, 3) := by decide +kernel
theorem dX8_number_38 : decode cX8_number 38 = .ok (.ifCond .eq 7, 3) := by decide +kernel
theorem dX8_number_41 : decode cX8_number 41 = .ok (.iconst 1, 1) := by decide +kernel
theorem dX8_number_42 : decode cX8_number 42 = .ok (.goto 4, 3) := by decide +kernel
theorem dX8_number_45 : decode cX8_number 45 = .ok (.iconst 0, 1) := by decide +kernel
theorem dX8_number_46 : decode cX8_number 46 = .ok (.iconst 3, 1) := by decide +kernel
theorem dX8_number_47 : decode cX8_number 47 = .ok (.invokevirtual 97, 3) := by decide +kernel
theorem dX8_number_50 : decode cX8_number 50 = .ok (.aload_n 0, 1) := by decide +kernel
theorem dX8_number_51 : decode cX8_number 51 = .ok (.getfield 67, 3) := by decide +kernel
theorem dX8_number_54 : decode cX8_number 54 = .ok (.ifCond .le 7, 3) := by decide +kernel
theorem dX8_number_57 : decode cX8_number 57 = .ok (.iconst 0, 1) := by decide +kernel
theorem dX8_number_58 : decode cX8_number 58 = .ok (.goto 7, 3) := by decide +kernel
theorem dX8_number_61 : decode cX8_number 61 = .ok (.aload_n 0, 1) := by decide +kernel
theorem dX8_number_62 : decode cX8_number 62 = .ok (.getfield 83, 3) := by decide +kernel
theorem dX8_number_65 : decode cX8_number 65 = .ok (.istore_n 3, 1) := by decide +kernel
theorem dX8_number_66 : decode cX8_number 66 = .ok (.aload_n 0, 1) := by decide +kernel
theorem dX8_number_67 : decode cX8_number 67 = .ok (.invokevirtual 101, 3) := by decide +kernel
theorem dX8_number_70 : decode cX8_number 70 = .ok (.iload_n 3, 1) := by decide +kernel
theorem dX8_number_71 : decode cX8_number 71 = .ok (.ireturn, 1) := by decide +kernel
theorem dX8_readsLevel_0 : decode cX8_readsLevel 0 = .ok (.aload_n 0, 1) := by decide +kernel
theorem dX8_readsLevel_1 : decode cX8_readsLevel 1 = .ok (.getfield 86, 3) := by decide +kernel
theorem dX8_readsLevel_4 : decode cX8_readsLevel 4 = .ok (.iconst 1, 1) := by decide +kernel
theorem dX8_readsLevel_5 : decode cX8_readsLevel 5 = .ok (.if_icmp .ne 20, 3) := by decide +kernel
theorem dX8_readsLevel_8 : decode cX8_readsLevel 8 = .ok (.aload_n 0, 1) := by decide +kernel
theorem dX8_readsLevel_9 : decode cX8_readsLevel 9 = .ok (.getfield 76, 3) := by decide +kernel
theorem dX8_readsLevel_12 : decode cX8_readsLevel 12 = .ok (.aload_n 0, 1) := by decide +kernel
theorem dX8_readsLevel_13 : decode cX8_readsLevel 13 = .ok (.getfield 70, 3) := by decide +kernel
theorem dX8_readsLevel_16 : decode cX8_readsLevel 16 = .ok (.isub, 1) := by decide +kernel
theorem dX8_readsLevel_17 : decode cX8_readsLevel 17 = .ok (.iconst 1, 1) := by decide +kernel
theorem dX8_readsLevel_18 : decode cX8_readsLevel 18 = .ok (.if_icmp .ne 7, 3) := by decide +kernel
theorem dX8_readsLevel_21 : decode cX8_readsLevel 21 = .ok (.iconst 1, 1) := by decide +kernel
theorem dX8_readsLevel_22 : decode cX8_readsLevel 22 = .ok (.goto 4, 3) := by decide +kernel
theorem dX8_readsLevel_25 : decode cX8_readsLevel 25 = .ok (.iconst 0, 1) := by decide +kernel
theorem dX8_readsLevel_26 : decode cX8_readsLevel 26 = .ok (.istore_n 2, 1) := by decide +kernel
theorem dX8_readsLevel_27 : decode cX8_readsLevel 27 = .ok (.aload_n 0, 1) := by decide +kernel
theorem dX8_readsLevel_28 : decode cX8_readsLevel 28 = .ok (.iload_n 2, 1) := by decide +kernel
theorem dX8_readsLevel_29 : decode cX8_readsLevel 29 = .ok (.ifCond .ne 25, 3) := by decide +kernel
theorem dX8_readsLevel_32 : decode cX8_readsLevel 32 = .ok (.iload_n 1, 1) := by decide +kernel
theorem dX8_readsLevel_33 : decode cX8_readsLevel 33 = .ok (.ifCond .ne 25, 3) := by decide +kernel
theorem dX8_readsLevel_36 : decode cX8_readsLevel 36 = .ok (.aload_n 0, 1) := by decide +kernel
theorem dX8_readsLevel_37 : decode cX8_readsLevel 37 = .ok (.bipush 43, 2) := by decide +kernel
theorem dX8_readsLevel_39 : decode cX8_readsLevel 39 = .ok (.invokevirtual 104, 3) := by decide +kernel
theorem dX8_readsLevel_42 : decode cX8_readsLevel 42 = .ok (.ifCond .ne 12, 3) := by decide +kernel
theorem dX8_readsLevel_45 : decode cX8_readsLevel 45 = .ok (.aload_n 0, 1) := by decide +kernel
theorem dX8_readsLevel_46 : decode cX8_readsLevel 46 = .ok (.bipush 35, 2) := by decide +kernel
theorem dX8_readsLevel_48 : decode cX8_readsLevel 48 = .ok (.invokevirtual 104, 3) := by decide +kernel
theorem dX8_readsLevel_51 : decode cX8_readsLevel 51 = .ok (.ifCond .eq 7, 3) := by decide +kernel
theorem dX8_readsLevel_54 : decode cX8_readsLevel 54 = .ok (.iconst 1, 1) := by decide +kernel
theorem dX8_readsLevel_55 : decode cX8_readsLevel 55 = .ok (.goto 4, 3) := by decide +kernel
theorem dX8_readsLevel_58 : decode cX8_readsLevel 58 = .ok (.iconst 0, 1) := by decide +kernel
theorem dX8_readsLevel_59 : decode cX8_readsLevel 59 = .ok (.iconst 2, 1) := by decide +kernel
theorem dX8_readsLevel_60 : decode cX8_readsLevel 60 = .ok (.invokevirtual 97, 3) := by decide +kernel
theorem dX8_readsLevel_63 : decode cX8_readsLevel 63 = .ok (.aload_n 0, 1) := by decide +kernel
theorem dX8_readsLevel_64 : decode cX8_readsLevel 64 = .ok (.getfield 67, 3) := by decide +kernel
theorem dX8_readsLevel_67 : decode cX8_readsLevel 67 = .ok (.ifCond .ne 54, 3) := by decide +kernel
theorem dX8_readsLevel_70 : decode cX8_readsLevel 70 = .ok (.aload_n 0, 1) := by decide +kernel
theorem dX8_readsLevel_71 : decode cX8_readsLevel 71 = .ok (.getfield 29, 3) := by decide +kernel
theorem dX8_readsLevel_74 : decode cX8_readsLevel 74 = .ok (.aload_n 0, 1) := by decide +kernel
theorem dX8_readsLevel_75 : decode cX8_readsLevel 75 = .ok (.getfield 108, 3) := by decide +kernel
theorem dX8_readsLevel_78 : decode cX8_readsLevel 78 = .ok (.iload_n 2, 1) := by decide +kernel
theorem dX8_readsLevel_79 : decode cX8_readsLevel 79 = .ok (.ifCond .eq 15, 3) := by decide +kernel
theorem dX8_readsLevel_82 : decode cX8_readsLevel 82 = .ok (.aload_n 0, 1) := by decide +kernel
theorem dX8_readsLevel_83 : decode cX8_readsLevel 83 = .ok (.getfield 83, 3) := by decide +kernel
theorem dX8_readsLevel_86 : decode cX8_readsLevel 86 = .ok (.bipush 97, 2) := by decide +kernel
theorem dX8_readsLevel_88 : decode cX8_readsLevel 88 = .ok (.isub, 1) := by decide +kernel
theorem dX8_readsLevel_89 : decode cX8_readsLevel 89 = .ok (.iconst 1, 1) := by decide +kernel
theorem dX8_readsLevel_90 : decode cX8_readsLevel 90 = .ok (.iadd, 1) := by decide +kernel
theorem dX8_readsLevel_91 : decode cX8_readsLevel 91 = .ok (.goto 19, 3) := by decide +kernel
theorem dX8_readsLevel_94 : decode cX8_readsLevel 94 = .ok (.aload_n 0, 1) := by decide +kernel
theorem dX8_readsLevel_95 : decode cX8_readsLevel 95 = .ok (.getfield 83, 3) := by decide +kernel
theorem dX8_readsLevel_98 : decode cX8_readsLevel 98 = .ok (.bipush 43, 2) := by decide +kernel
theorem dX8_readsLevel_100 : decode cX8_readsLevel 100 = .ok (.if_icmp .ne 8, 3) := by decide +kernel
theorem dX8_readsLevel_103 : decode cX8_readsLevel 103 = .ok (.bipush 27, 2) := by decide +kernel
theorem dX8_readsLevel_105 : decode cX8_readsLevel 105 = .ok (.goto 5, 3) := by decide +kernel
theorem dX8_readsLevel_108 : decode cX8_readsLevel 108 = .ok (.bipush 28, 2) := by decide +kernel
theorem dX8_readsLevel_110 : decode cX8_readsLevel 110 = .ok (.iastore, 1) := by decide +kernel
theorem dX8_readsLevel_111 : decode cX8_readsLevel 111 = .ok (.aload_n 0, 1) := by decide +kernel
theorem dX8_readsLevel_112 : decode cX8_readsLevel 112 = .ok (.dup, 1) := by decide +kernel
theorem dX8_readsLevel_113 : decode cX8_readsLevel 113 = .ok (.getfield 108, 3) := by decide +kernel
theorem dX8_readsLevel_116 : decode cX8_readsLevel 116 = .ok (.iconst 1, 1) := by decide +kernel
theorem dX8_readsLevel_117 : decode cX8_readsLevel 117 = .ok (.iadd, 1) := by decide +kernel
theorem dX8_readsLevel_118 : decode cX8_readsLevel 118 = .ok (.putfield 108, 3) := by decide +kernel
theorem dX8_readsLevel_121 : decode cX8_readsLevel 121 = .ok (.aload_n 0, 1) := by decide +kernel
theorem dX8_readsLevel_122 : decode cX8_readsLevel 122 = .ok (.invokevirtual 101, 3) := by decide +kernel
theorem dX8_readsLevel_125 : decode cX8_readsLevel 125 = .ok (.return_, 1) := by decide +kernel
theorem dX8_readsFilter_0 : decode cX8_readsFilter 0 = .ok (.aload_n 0, 1) := by decide +kernel
theorem dX8_readsFilter_1 : decode cX8_readsFilter 1 = .ok (.iconst 0, 1) := by decide +kernel
theorem dX8_readsFilter_2 : decode cX8_readsFilter 2 = .ok (.putfield 108, 3) := by decide +kernel
theorem dX8_readsFilter_5 : decode cX8_readsFilter 5 = .ok (.iconst 0, 1) := by decide +kernel
theorem dX8_readsFilter_6 : decode cX8_readsFilter 6 = .ok (.istore_n 2, 1) := by decide +kernel
theorem dX8_readsFilter_7 : decode cX8_readsFilter 7 = .ok (.iload_n 2, 1) := by decide +kernel
theorem dX8_readsFilter_8 : decode cX8_readsFilter 8 = .ok (.iconst 4, 1) := by decide +kernel
theorem dX8_readsFilter_9 : decode cX8_readsFilter 9 = .ok (.if_icmp .ge 16, 3) := by decide +kernel
theorem dX8_readsFilter_12 : decode cX8_readsFilter 12 = .ok (.aload_n 0, 1) := by decide +kernel
theorem dX8_readsFilter_13 : decode cX8_readsFilter 13 = .ok (.getfield 29, 3) := by decide +kernel
theorem dX8_readsFilter_16 : decode cX8_readsFilter 16 = .ok (.iload_n 2, 1) := by decide +kernel
theorem dX8_readsFilter_17 : decode cX8_readsFilter 17 = .ok (.iconst 0, 1) := by decide +kernel
theorem dX8_readsFilter_18 : decode cX8_readsFilter 18 = .ok (.iastore, 1) := by decide +kernel
theorem dX8_readsFilter_19 : decode cX8_readsFilter 19 = .ok (.iinc 2 1, 3) := by decide +kernel
theorem dX8_readsFilter_22 : decode cX8_readsFilter 22 = .ok (.goto (-15), 3) := by decide +kernel
theorem dX8_readsFilter_25 : decode cX8_readsFilter 25 = .ok (.aload_n 0, 1) := by decide +kernel
theorem dX8_readsFilter_26 : decode cX8_readsFilter 26 = .ok (.iload_n 1, 1) := by decide +kernel
theorem dX8_readsFilter_27 : decode cX8_readsFilter 27 = .ok (.invokevirtual 111, 3) := by decide +kernel
theorem dX8_readsFilter_30 : decode cX8_readsFilter 30 = .ok (.aload_n 0, 1) := by decide +kernel
theorem dX8_readsFilter_31 : decode cX8_readsFilter 31 = .ok (.getfield 67, 3) := by decide +kernel
theorem dX8_readsFilter_34 : decode cX8_readsFilter 34 = .ok (.ifCond .ne 65, 3) := by decide +kernel
theorem dX8_readsFilter_37 : decode cX8_readsFilter 37 = .ok (.aload_n 0, 1) := by decide +kernel
theorem dX8_readsFilter_38 : decode cX8_readsFilter 38 = .ok (.bipush 47, 2) := by decide +kernel
theorem dX8_readsFilter_40 : decode cX8_readsFilter 40 = .ok (.invokevirtual 104, 3) := by decide +kernel
theorem dX8_readsFilter_43 : decode cX8_readsFilter 43 = .ok (.ifCond .eq 56, 3) := by decide +kernel
theorem dX8_readsFilter_46 : decode cX8_readsFilter 46 = .ok (.aload_n 0, 1) := by decide +kernel
theorem dX8_readsFilter_47 : decode cX8_readsFilter 47 = .ok (.aload_n 0, 1) := by decide +kernel
theorem dX8_readsFilter_48 : decode cX8_readsFilter 48 = .ok (.getfield 108, 3) := by decide +kernel
theorem dX8_readsFilter_51 : decode cX8_readsFilter 51 = .ok (.iconst 4, 1) := by decide +kernel
theorem dX8_readsFilter_52 : decode cX8_readsFilter 52 = .ok (.if_icmp .ge 23, 3) := by decide +kernel
theorem dX8_readsFilter_55 : decode cX8_readsFilter 55 = .ok (.aload_n 0, 1) := by decide +kernel
theorem dX8_readsFilter_56 : decode cX8_readsFilter 56 = .ok (.getfield 29, 3) := by decide +kernel
theorem dX8_readsFilter_59 : decode cX8_readsFilter 59 = .ok (.aload_n 0, 1) := by decide +kernel
theorem dX8_readsFilter_60 : decode cX8_readsFilter 60 = .ok (.getfield 108, 3) := by decide +kernel
theorem dX8_readsFilter_63 : decode cX8_readsFilter 63 = .ok (.iconst 1, 1) := by decide +kernel
theorem dX8_readsFilter_64 : decode cX8_readsFilter 64 = .ok (.isub, 1) := by decide +kernel
theorem dX8_readsFilter_65 : decode cX8_readsFilter 65 = .ok (.iaload, 1) := by decide +kernel
theorem dX8_readsFilter_66 : decode cX8_readsFilter 66 = .ok (.bipush 28, 2) := by decide +kernel
theorem dX8_readsFilter_68 : decode cX8_readsFilter 68 = .ok (.if_icmp .eq 7, 3) := by decide +kernel
theorem dX8_readsFilter_71 : decode cX8_readsFilter 71 = .ok (.iconst 1, 1) := by decide +kernel
theorem dX8_readsFilter_72 : decode cX8_readsFilter 72 = .ok (.goto 4, 3) := by decide +kernel
theorem dX8_readsFilter_75 : decode cX8_readsFilter 75 = .ok (.iconst 0, 1) := by decide +kernel
theorem dX8_readsFilter_76 : decode cX8_readsFilter 76 = .ok (.iconst 2, 1) := by decide +kernel
theorem dX8_readsFilter_77 : decode cX8_readsFilter 77 = .ok (.invokevirtual 97, 3) := by decide +kernel
theorem dX8_readsFilter_80 : decode cX8_readsFilter 80 = .ok (.aload_n 0, 1) := by decide +kernel
theorem dX8_readsFilter_81 : decode cX8_readsFilter 81 = .ok (.invokevirtual 101, 3) := by decide +kernel
theorem dX8_readsFilter_84 : decode cX8_readsFilter 84 = .ok (.aload_n 0, 1) := by decide +kernel
theorem dX8_readsFilter_85 : decode cX8_readsFilter 85 = .ok (.getfield 67, 3) := by decide +kernel
theorem dX8_readsFilter_88 : decode cX8_readsFilter 88 = .ok (.ifCond .ne (-58), 3) := by decide +kernel
theorem dX8_readsFilter_91 : decode cX8_readsFilter 91 = .ok (.aload_n 0, 1) := by decide +kernel
theorem dX8_readsFilter_92 : decode cX8_readsFilter 92 = .ok (.iload_n 1, 1) := by decide +kernel
theorem dX8_readsFilter_93 : decode cX8_readsFilter 93 = .ok (.invokevirtual 111, 3) := by decide +kernel
theorem dX8_readsFilter_96 : decode cX8_readsFilter 96 = .ok (.goto (-66), 3) := by decide +kernel
theorem dX8_readsFilter_99 : decode cX8_readsFilter 99 = .ok (.return_, 1) := by decide +kernel
theorem dX8_isSame_0 : decode cX8_isSame 0 = .ok (.iconst 1, 1) := by decide +kernel
theorem dX8_isSame_1 : decode cX8_isSame 1 = .ok (.istore_n 3, 1) := by decide +kernel
theorem dX8_isSame_2 : decode cX8_isSame 2 = .ok (.iconst 0, 1) := by decide +kernel
theorem dX8_isSame_3 : decode cX8_isSame 3 = .ok (.istore 4, 2) := by decide +kernel
theorem dX8_isSame_5 : decode cX8_isSame 5 = .ok (.iload 4, 2) := by decide +kernel
theorem dX8_isSame_7 : decode cX8_isSame 7 = .ok (.iconst 4, 1) := by decide +kernel
theorem dX8_isSame_8 : decode cX8_isSame 8 = .ok (.if_icmp .ge 32, 3) := by decide +kernel
theorem dX8_isSame_11 : decode cX8_isSame 11 = .ok (.iload_n 3, 1) := by decide +kernel
theorem dX8_isSame_12 : decode cX8_isSame 12 = .ok (.ifCond .eq 20, 3) := by decide +kernel
theorem dX8_isSame_15 : decode cX8_isSame 15 = .ok (.aload_n 0, 1) := by decide +kernel
theorem dX8_isSame_16 : decode cX8_isSame 16 = .ok (.iload_n 1, 1) := by decide +kernel
theorem dX8_isSame_17 : decode cX8_isSame 17 = .ok (.iload 4, 2) := by decide +kernel
theorem dX8_isSame_19 : decode cX8_isSame 19 = .ok (.iadd, 1) := by decide +kernel
theorem dX8_isSame_20 : decode cX8_isSame 20 = .ok (.iaload, 1) := by decide +kernel
theorem dX8_isSame_21 : decode cX8_isSame 21 = .ok (.aload_n 2, 1) := by decide +kernel
theorem dX8_isSame_22 : decode cX8_isSame 22 = .ok (.iload 4, 2) := by decide +kernel
theorem dX8_isSame_24 : decode cX8_isSame 24 = .ok (.iaload, 1) := by decide +kernel
theorem dX8_isSame_25 : decode cX8_isSame 25 = .ok (.if_icmp .ne 7, 3) := by decide +kernel
theorem dX8_isSame_28 : decode cX8_isSame 28 = .ok (.iconst 1, 1) := by decide +kernel
theorem dX8_isSame_29 : decode cX8_isSame 29 = .ok (.goto 4, 3) := by decide +kernel
theorem dX8_isSame_32 : decode cX8_isSame 32 = .ok (.iconst 0, 1) := by decide +kernel
theorem dX8_isSame_33 : decode cX8_isSame 33 = .ok (.istore_n 3, 1) := by decide +kernel
theorem dX8_isSame_34 : decode cX8_isSame 34 = .ok (.iinc 4 1, 3) := by decide +kernel
theorem dX8_isSame_37 : decode cX8_isSame 37 = .ok (.goto (-32), 3) := by decide +kernel
theorem dX8_isSame_40 : decode cX8_isSame 40 = .ok (.iload_n 3, 1) := by decide +kernel
theorem dX8_isSame_41 : decode cX8_isSame 41 = .ok (.ireturn, 1) := by decide +kernel
theorem dX8_subOf_0 : decode cX8_subOf 0 = .ok (.iconst 0, 1) := by decide +kernel
theorem dX8_subOf_1 : decode cX8_subOf 1 = .ok (.istore 4, 2) := by decide +kernel
theorem dX8_subOf_3 : decode cX8_subOf 3 = .ok (.iload 4, 2) := by decide +kernel
theorem dX8_subOf_5 : decode cX8_subOf 5 = .ok (.aload_n 0, 1) := by decide +kernel
theorem dX8_subOf_6 : decode cX8_subOf 6 = .ok (.iload_n 1, 1) := by decide +kernel
theorem dX8_subOf_7 : decode cX8_subOf 7 = .ok (.iconst 3, 1) := by decide +kernel
theorem dX8_subOf_8 : decode cX8_subOf 8 = .ok (.invokestatic 115, 3) := by decide +kernel
theorem dX8_subOf_11 : decode cX8_subOf 11 = .ok (.iaload, 1) := by decide +kernel
theorem dX8_subOf_12 : decode cX8_subOf 12 = .ok (.if_icmp .ge 52, 3) := by decide +kernel
theorem dX8_subOf_15 : decode cX8_subOf 15 = .ok (.aload_n 0, 1) := by decide +kernel
theorem dX8_subOf_16 : decode cX8_subOf 16 = .ok (.iload_n 1, 1) := by decide +kernel
theorem dX8_subOf_17 : decode cX8_subOf 17 = .ok (.bipush 45, 2) := by decide +kernel
theorem dX8_subOf_19 : decode cX8_subOf 19 = .ok (.bipush 6, 2) := by decide +kernel
theorem dX8_subOf_21 : decode cX8_subOf 21 = .ok (.iload 4, 2) := by decide +kernel
theorem dX8_subOf_23 : decode cX8_subOf 23 = .ok (.imul, 1) := by decide +kernel
theorem dX8_subOf_24 : decode cX8_subOf 24 = .ok (.iadd, 1) := by decide +kernel
theorem dX8_subOf_25 : decode cX8_subOf 25 = .ok (.invokestatic 115, 3) := by decide +kernel
theorem dX8_subOf_28 : decode cX8_subOf 28 = .ok (.aload_n 2, 1) := by decide +kernel
theorem dX8_subOf_29 : decode cX8_subOf 29 = .ok (.invokestatic 119, 3) := by decide +kernel
theorem dX8_subOf_32 : decode cX8_subOf 32 = .ok (.ifCond .eq 26, 3) := by decide +kernel
theorem dX8_subOf_35 : decode cX8_subOf 35 = .ok (.aload_n 0, 1) := by decide +kernel
theorem dX8_subOf_36 : decode cX8_subOf 36 = .ok (.iload_n 1, 1) := by decide +kernel
theorem dX8_subOf_37 : decode cX8_subOf 37 = .ok (.bipush 45, 2) := by decide +kernel
theorem dX8_subOf_39 : decode cX8_subOf 39 = .ok (.bipush 6, 2) := by decide +kernel
theorem dX8_subOf_41 : decode cX8_subOf 41 = .ok (.iload 4, 2) := by decide +kernel
theorem dX8_subOf_43 : decode cX8_subOf 43 = .ok (.imul, 1) := by decide +kernel
theorem dX8_subOf_44 : decode cX8_subOf 44 = .ok (.iadd, 1) := by decide +kernel
theorem dX8_subOf_45 : decode cX8_subOf 45 = .ok (.iconst 5, 1) := by decide +kernel
theorem dX8_subOf_46 : decode cX8_subOf 46 = .ok (.iadd, 1) := by decide +kernel
theorem dX8_subOf_47 : decode cX8_subOf 47 = .ok (.invokestatic 115, 3) := by decide +kernel
theorem dX8_subOf_50 : decode cX8_subOf 50 = .ok (.iaload, 1) := by decide +kernel
theorem dX8_subOf_51 : decode cX8_subOf 51 = .ok (.iload_n 3, 1) := by decide +kernel
theorem dX8_subOf_52 : decode cX8_subOf 52 = .ok (.if_icmp .ne 6, 3) := by decide +kernel
theorem dX8_subOf_55 : decode cX8_subOf 55 = .ok (.iload 4, 2) := by decide +kernel
theorem dX8_subOf_57 : decode cX8_subOf 57 = .ok (.ireturn, 1) := by decide +kernel
theorem dX8_subOf_58 : decode cX8_subOf 58 = .ok (.iinc 4 1, 3) := by decide +kernel
theorem dX8_subOf_61 : decode cX8_subOf 61 = .ok (.goto (-58), 3) := by decide +kernel
theorem dX8_subOf_64 : decode cX8_subOf 64 = .ok (.bipush (-4), 2) := by decide +kernel
theorem dX8_subOf_66 : decode cX8_subOf 66 = .ok (.ireturn, 1) := by decide +kernel
theorem dX8_keptOf_0 : decode cX8_keptOf 0 = .ok (.iconst 0, 1) := by decide +kernel
theorem dX8_keptOf_1 : decode cX8_keptOf 1 = .ok (.istore_n 2, 1) := by decide +kernel
theorem dX8_keptOf_2 : decode cX8_keptOf 2 = .ok (.iload_n 2, 1) := by decide +kernel
theorem dX8_keptOf_3 : decode cX8_keptOf 3 = .ok (.aload_n 0, 1) := by decide +kernel
theorem dX8_keptOf_4 : decode cX8_keptOf 4 = .ok (.bipush 6, 2) := by decide +kernel
theorem dX8_keptOf_6 : decode cX8_keptOf 6 = .ok (.iaload, 1) := by decide +kernel
theorem dX8_keptOf_7 : decode cX8_keptOf 7 = .ok (.if_icmp .ge 26, 3) := by decide +kernel
theorem dX8_keptOf_10 : decode cX8_keptOf 10 = .ok (.aload_n 0, 1) := by decide +kernel
theorem dX8_keptOf_11 : decode cX8_keptOf 11 = .ok (.bipush 8, 2) := by decide +kernel
theorem dX8_keptOf_13 : decode cX8_keptOf 13 = .ok (.bipush 7, 2) := by decide +kernel
theorem dX8_keptOf_15 : decode cX8_keptOf 15 = .ok (.iload_n 2, 1) := by decide +kernel
theorem dX8_keptOf_16 : decode cX8_keptOf 16 = .ok (.imul, 1) := by decide +kernel
theorem dX8_keptOf_17 : decode cX8_keptOf 17 = .ok (.iadd, 1) := by decide +kernel
theorem dX8_keptOf_18 : decode cX8_keptOf 18 = .ok (.aload_n 1, 1) := by decide +kernel
theorem dX8_keptOf_19 : decode cX8_keptOf 19 = .ok (.invokestatic 119, 3) := by decide +kernel
theorem dX8_keptOf_22 : decode cX8_keptOf 22 = .ok (.ifCond .eq 5, 3) := by decide +kernel
theorem dX8_keptOf_25 : decode cX8_keptOf 25 = .ok (.iload_n 2, 1) := by decide +kernel
theorem dX8_keptOf_26 : decode cX8_keptOf 26 = .ok (.ireturn, 1) := by decide +kernel
theorem dX8_keptOf_27 : decode cX8_keptOf 27 = .ok (.iinc 2 1, 3) := by decide +kernel
theorem dX8_keptOf_30 : decode cX8_keptOf 30 = .ok (.goto (-28), 3) := by decide +kernel
theorem dX8_keptOf_33 : decode cX8_keptOf 33 = .ok (.bipush (-4), 2) := by decide +kernel
theorem dX8_keptOf_35 : decode cX8_keptOf 35 = .ok (.ireturn, 1) := by decide +kernel
theorem dX8_subComes_0 : decode cX8_subComes 0 = .ok (.aload_n 0, 1) := by decide +kernel
theorem dX8_subComes_1 : decode cX8_subComes 1 = .ok (.iload_n 1, 1) := by decide +kernel
theorem dX8_subComes_2 : decode cX8_subComes 2 = .ok (.iconst 3, 1) := by decide +kernel
theorem dX8_subComes_3 : decode cX8_subComes 3 = .ok (.invokestatic 115, 3) := by decide +kernel
theorem dX8_subComes_6 : decode cX8_subComes 6 = .ok (.iaload, 1) := by decide +kernel
theorem dX8_subComes_7 : decode cX8_subComes 7 = .ok (.istore 5, 2) := by decide +kernel
theorem dX8_subComes_9 : decode cX8_subComes 9 = .ok (.iconst 0, 1) := by decide +kernel
theorem dX8_subComes_10 : decode cX8_subComes 10 = .ok (.istore 6, 2) := by decide +kernel
theorem dX8_subComes_12 : decode cX8_subComes 12 = .ok (.iload 6, 2) := by decide +kernel
theorem dX8_subComes_14 : decode cX8_subComes 14 = .ok (.iconst 4, 1) := by decide +kernel
theorem dX8_subComes_15 : decode cX8_subComes 15 = .ok (.if_icmp .ge 30, 3) := by decide +kernel
theorem dX8_subComes_18 : decode cX8_subComes 18 = .ok (.aload_n 0, 1) := by decide +kernel
theorem dX8_subComes_19 : decode cX8_subComes 19 = .ok (.iload_n 1, 1) := by decide +kernel
theorem dX8_subComes_20 : decode cX8_subComes 20 = .ok (.bipush 45, 2) := by decide +kernel
theorem dX8_subComes_22 : decode cX8_subComes 22 = .ok (.bipush 6, 2) := by decide +kernel
theorem dX8_subComes_24 : decode cX8_subComes 24 = .ok (.iload 5, 2) := by decide +kernel
theorem dX8_subComes_26 : decode cX8_subComes 26 = .ok (.imul, 1) := by decide +kernel
theorem dX8_subComes_27 : decode cX8_subComes 27 = .ok (.iadd, 1) := by decide +kernel
theorem dX8_subComes_28 : decode cX8_subComes 28 = .ok (.iload 6, 2) := by decide +kernel
theorem dX8_subComes_30 : decode cX8_subComes 30 = .ok (.iadd, 1) := by decide +kernel
theorem dX8_subComes_31 : decode cX8_subComes 31 = .ok (.invokestatic 115, 3) := by decide +kernel
theorem dX8_subComes_34 : decode cX8_subComes 34 = .ok (.aload_n 2, 1) := by decide +kernel
theorem dX8_subComes_35 : decode cX8_subComes 35 = .ok (.iload 6, 2) := by decide +kernel
theorem dX8_subComes_37 : decode cX8_subComes 37 = .ok (.iaload, 1) := by decide +kernel
theorem dX8_subComes_38 : decode cX8_subComes 38 = .ok (.iastore, 1) := by decide +kernel
theorem dX8_subComes_39 : decode cX8_subComes 39 = .ok (.iinc 6 1, 3) := by decide +kernel
theorem dX8_subComes_42 : decode cX8_subComes 42 = .ok (.goto (-30), 3) := by decide +kernel
theorem dX8_subComes_45 : decode cX8_subComes 45 = .ok (.aload_n 0, 1) := by decide +kernel
theorem dX8_subComes_46 : decode cX8_subComes 46 = .ok (.iload_n 1, 1) := by decide +kernel
theorem dX8_subComes_47 : decode cX8_subComes 47 = .ok (.bipush 45, 2) := by decide +kernel
theorem dX8_subComes_49 : decode cX8_subComes 49 = .ok (.bipush 6, 2) := by decide +kernel
theorem dX8_subComes_51 : decode cX8_subComes 51 = .ok (.iload 5, 2) := by decide +kernel
theorem dX8_subComes_53 : decode cX8_subComes 53 = .ok (.imul, 1) := by decide +kernel
theorem dX8_subComes_54 : decode cX8_subComes 54 = .ok (.iadd, 1) := by decide +kernel
theorem dX8_subComes_55 : decode cX8_subComes 55 = .ok (.iconst 4, 1) := by decide +kernel
theorem dX8_subComes_56 : decode cX8_subComes 56 = .ok (.iadd, 1) := by decide +kernel
theorem dX8_subComes_57 : decode cX8_subComes 57 = .ok (.invokestatic 115, 3) := by decide +kernel
theorem dX8_subComes_60 : decode cX8_subComes 60 = .ok (.iload_n 3, 1) := by decide +kernel
theorem dX8_subComes_61 : decode cX8_subComes 61 = .ok (.iastore, 1) := by decide +kernel
theorem dX8_subComes_62 : decode cX8_subComes 62 = .ok (.aload_n 0, 1) := by decide +kernel
theorem dX8_subComes_63 : decode cX8_subComes 63 = .ok (.iload_n 1, 1) := by decide +kernel
theorem dX8_subComes_64 : decode cX8_subComes 64 = .ok (.bipush 45, 2) := by decide +kernel
theorem dX8_subComes_66 : decode cX8_subComes 66 = .ok (.bipush 6, 2) := by decide +kernel
theorem dX8_subComes_68 : decode cX8_subComes 68 = .ok (.iload 5, 2) := by decide +kernel
theorem dX8_subComes_70 : decode cX8_subComes 70 = .ok (.imul, 1) := by decide +kernel
theorem dX8_subComes_71 : decode cX8_subComes 71 = .ok (.iadd, 1) := by decide +kernel
theorem dX8_subComes_72 : decode cX8_subComes 72 = .ok (.iconst 5, 1) := by decide +kernel
theorem dX8_subComes_73 : decode cX8_subComes 73 = .ok (.iadd, 1) := by decide +kernel
theorem dX8_subComes_74 : decode cX8_subComes 74 = .ok (.invokestatic 115, 3) := by decide +kernel
theorem dX8_subComes_77 : decode cX8_subComes 77 = .ok (.iload 4, 2) := by decide +kernel
theorem dX8_subComes_79 : decode cX8_subComes 79 = .ok (.iastore, 1) := by decide +kernel
theorem dX8_subComes_80 : decode cX8_subComes 80 = .ok (.aload_n 0, 1) := by decide +kernel
theorem dX8_subComes_81 : decode cX8_subComes 81 = .ok (.iload_n 1, 1) := by decide +kernel
theorem dX8_subComes_82 : decode cX8_subComes 82 = .ok (.iconst 3, 1) := by decide +kernel
theorem dX8_subComes_83 : decode cX8_subComes 83 = .ok (.invokestatic 115, 3) := by decide +kernel
theorem dX8_subComes_86 : decode cX8_subComes 86 = .ok (.dup2, 1) := by decide +kernel
theorem dX8_subComes_87 : decode cX8_subComes 87 = .ok (.iaload, 1) := by decide +kernel
theorem dX8_subComes_88 : decode cX8_subComes 88 = .ok (.iconst 1, 1) := by decide +kernel
theorem dX8_subComes_89 : decode cX8_subComes 89 = .ok (.iadd, 1) := by decide +kernel
theorem dX8_subComes_90 : decode cX8_subComes 90 = .ok (.iastore, 1) := by decide +kernel
theorem dX8_subComes_91 : decode cX8_subComes 91 = .ok (.return_, 1) := by decide +kernel
theorem dX8_keptComes_0 : decode cX8_keptComes 0 = .ok (.bipush 8, 2) := by decide +kernel
theorem dX8_keptComes_2 : decode cX8_keptComes 2 = .ok (.bipush 7, 2) := by decide +kernel
theorem dX8_keptComes_4 : decode cX8_keptComes 4 = .ok (.aload_n 0, 1) := by decide +kernel
theorem dX8_keptComes_5 : decode cX8_keptComes 5 = .ok (.bipush 6, 2) := by decide +kernel
theorem dX8_keptComes_7 : decode cX8_keptComes 7 = .ok (.iaload, 1) := by decide +kernel
theorem dX8_keptComes_8 : decode cX8_keptComes 8 = .ok (.imul, 1) := by decide +kernel
theorem dX8_keptComes_9 : decode cX8_keptComes 9 = .ok (.iadd, 1) := by decide +kernel
theorem dX8_keptComes_10 : decode cX8_keptComes 10 = .ok (.istore 5, 2) := by decide +kernel
theorem dX8_keptComes_12 : decode cX8_keptComes 12 = .ok (.iconst 0, 1) := by decide +kernel
theorem dX8_keptComes_13 : decode cX8_keptComes 13 = .ok (.istore 6, 2) := by decide +kernel
theorem dX8_keptComes_15 : decode cX8_keptComes 15 = .ok (.iload 6, 2) := by decide +kernel
theorem dX8_keptComes_17 : decode cX8_keptComes 17 = .ok (.iconst 4, 1) := by decide +kernel
theorem dX8_keptComes_18 : decode cX8_keptComes 18 = .ok (.if_icmp .ge 20, 3) := by decide +kernel
theorem dX8_keptComes_21 : decode cX8_keptComes 21 = .ok (.aload_n 0, 1) := by decide +kernel
theorem dX8_keptComes_22 : decode cX8_keptComes 22 = .ok (.iload 5, 2) := by decide +kernel
theorem dX8_keptComes_24 : decode cX8_keptComes 24 = .ok (.iload 6, 2) := by decide +kernel
theorem dX8_keptComes_26 : decode cX8_keptComes 26 = .ok (.iadd, 1) := by decide +kernel
theorem dX8_keptComes_27 : decode cX8_keptComes 27 = .ok (.aload_n 1, 1) := by decide +kernel
theorem dX8_keptComes_28 : decode cX8_keptComes 28 = .ok (.iload 6, 2) := by decide +kernel
theorem dX8_keptComes_30 : decode cX8_keptComes 30 = .ok (.iaload, 1) := by decide +kernel
theorem dX8_keptComes_31 : decode cX8_keptComes 31 = .ok (.iastore, 1) := by decide +kernel
theorem dX8_keptComes_32 : decode cX8_keptComes 32 = .ok (.iinc 6 1, 3) := by decide +kernel
theorem dX8_keptComes_35 : decode cX8_keptComes 35 = .ok (.goto (-20), 3) := by decide +kernel
theorem dX8_keptComes_38 : decode cX8_keptComes 38 = .ok (.aload_n 0, 1) := by decide +kernel
theorem dX8_keptComes_39 : decode cX8_keptComes 39 = .ok (.iload 5, 2) := by decide +kernel
theorem dX8_keptComes_41 : decode cX8_keptComes 41 = .ok (.iconst 4, 1) := by decide +kernel
theorem dX8_keptComes_42 : decode cX8_keptComes 42 = .ok (.iadd, 1) := by decide +kernel
theorem dX8_keptComes_43 : decode cX8_keptComes 43 = .ok (.iload_n 2, 1) := by decide +kernel
theorem dX8_keptComes_44 : decode cX8_keptComes 44 = .ok (.iastore, 1) := by decide +kernel
theorem dX8_keptComes_45 : decode cX8_keptComes 45 = .ok (.aload_n 0, 1) := by decide +kernel
theorem dX8_keptComes_46 : decode cX8_keptComes 46 = .ok (.iload 5, 2) := by decide +kernel
theorem dX8_keptComes_48 : decode cX8_keptComes 48 = .ok (.iconst 5, 1) := by decide +kernel
theorem dX8_keptComes_49 : decode cX8_keptComes 49 = .ok (.iadd, 1) := by decide +kernel
theorem dX8_keptComes_50 : decode cX8_keptComes 50 = .ok (.iload_n 3, 1) := by decide +kernel
theorem dX8_keptComes_51 : decode cX8_keptComes 51 = .ok (.iastore, 1) := by decide +kernel
theorem dX8_keptComes_52 : decode cX8_keptComes 52 = .ok (.aload_n 0, 1) := by decide +kernel
theorem dX8_keptComes_53 : decode cX8_keptComes 53 = .ok (.iload 5, 2) := by decide +kernel
theorem dX8_keptComes_55 : decode cX8_keptComes 55 = .ok (.bipush 6, 2) := by decide +kernel
theorem dX8_keptComes_57 : decode cX8_keptComes 57 = .ok (.iadd, 1) := by decide +kernel
theorem dX8_keptComes_58 : decode cX8_keptComes 58 = .ok (.iload 4, 2) := by decide +kernel
theorem dX8_keptComes_60 : decode cX8_keptComes 60 = .ok (.iastore, 1) := by decide +kernel
theorem dX8_keptComes_61 : decode cX8_keptComes 61 = .ok (.aload_n 0, 1) := by decide +kernel
theorem dX8_keptComes_62 : decode cX8_keptComes 62 = .ok (.bipush 6, 2) := by decide +kernel
theorem dX8_keptComes_64 : decode cX8_keptComes 64 = .ok (.dup2, 1) := by decide +kernel
theorem dX8_keptComes_65 : decode cX8_keptComes 65 = .ok (.iaload, 1) := by decide +kernel
theorem dX8_keptComes_66 : decode cX8_keptComes 66 = .ok (.iconst 1, 1) := by decide +kernel
theorem dX8_keptComes_67 : decode cX8_keptComes 67 = .ok (.iadd, 1) := by decide +kernel
theorem dX8_keptComes_68 : decode cX8_keptComes 68 = .ok (.iastore, 1) := by decide +kernel
theorem dX8_keptComes_69 : decode cX8_keptComes 69 = .ok (.return_, 1) := by decide +kernel
theorem dX8_readsSub_0 : decode cX8_readsSub 0 = .ok (.aload_n 0, 1) := by decide +kernel
theorem dX8_readsSub_1 : decode cX8_readsSub 1 = .ok (.iconst 0, 1) := by decide +kernel
theorem dX8_readsSub_2 : decode cX8_readsSub 2 = .ok (.iconst 5, 1) := by decide +kernel
theorem dX8_readsSub_3 : decode cX8_readsSub 3 = .ok (.invokevirtual 123, 3) := by decide +kernel
theorem dX8_readsSub_6 : decode cX8_readsSub 6 = .ok (.istore_n 1, 1) := by decide +kernel
theorem dX8_readsSub_7 : decode cX8_readsSub 7 = .ok (.aload_n 0, 1) := by decide +kernel
theorem dX8_readsSub_8 : decode cX8_readsSub 8 = .ok (.iconst 0, 1) := by decide +kernel
theorem dX8_readsSub_9 : decode cX8_readsSub 9 = .ok (.invokevirtual 126, 3) := by decide +kernel
theorem dX8_readsSub_12 : decode cX8_readsSub 12 = .ok (.aload_n 0, 1) := by decide +kernel
theorem dX8_readsSub_13 : decode cX8_readsSub 13 = .ok (.iconst 0, 1) := by decide +kernel
theorem dX8_readsSub_14 : decode cX8_readsSub 14 = .ok (.iconst 2, 1) := by decide +kernel
theorem dX8_readsSub_15 : decode cX8_readsSub 15 = .ok (.invokevirtual 123, 3) := by decide +kernel
theorem dX8_readsSub_18 : decode cX8_readsSub 18 = .ok (.istore_n 2, 1) := by decide +kernel
theorem dX8_readsSub_19 : decode cX8_readsSub 19 = .ok (.aload_n 0, 1) := by decide +kernel
theorem dX8_readsSub_20 : decode cX8_readsSub 20 = .ok (.iconst 0, 1) := by decide +kernel
theorem dX8_readsSub_21 : decode cX8_readsSub 21 = .ok (.iconst 3, 1) := by decide +kernel
theorem dX8_readsSub_22 : decode cX8_readsSub 22 = .ok (.invokevirtual 123, 3) := by decide +kernel
theorem dX8_readsSub_25 : decode cX8_readsSub 25 = .ok (.istore_n 3, 1) := by decide +kernel
theorem dX8_readsSub_26 : decode cX8_readsSub 26 = .ok (.aload_n 0, 1) := by decide +kernel
theorem dX8_readsSub_27 : decode cX8_readsSub 27 = .ok (.aload_n 0, 1) := by decide +kernel
theorem dX8_readsSub_28 : decode cX8_readsSub 28 = .ok (.getfield 67, 3) := by decide +kernel
theorem dX8_readsSub_31 : decode cX8_readsSub 31 = .ok (.ifCond .gt 12, 3) := by decide +kernel
theorem dX8_readsSub_34 : decode cX8_readsSub 34 = .ok (.aload_n 0, 1) := by decide +kernel
theorem dX8_readsSub_35 : decode cX8_readsSub 35 = .ok (.bipush 59, 2) := by decide +kernel
theorem dX8_readsSub_37 : decode cX8_readsSub 37 = .ok (.invokevirtual 104, 3) := by decide +kernel
theorem dX8_readsSub_40 : decode cX8_readsSub 40 = .ok (.ifCond .eq 7, 3) := by decide +kernel
theorem dX8_readsSub_43 : decode cX8_readsSub 43 = .ok (.iconst 1, 1) := by decide +kernel
theorem dX8_readsSub_44 : decode cX8_readsSub 44 = .ok (.goto 4, 3) := by decide +kernel
theorem dX8_readsSub_47 : decode cX8_readsSub 47 = .ok (.iconst 0, 1) := by decide +kernel
theorem dX8_readsSub_48 : decode cX8_readsSub 48 = .ok (.iconst 2, 1) := by decide +kernel
theorem dX8_readsSub_49 : decode cX8_readsSub 49 = .ok (.invokevirtual 97, 3) := by decide +kernel
theorem dX8_readsSub_52 : decode cX8_readsSub 52 = .ok (.aload_n 0, 1) := by decide +kernel
theorem dX8_readsSub_53 : decode cX8_readsSub 53 = .ok (.aload_n 0, 1) := by decide +kernel
theorem dX8_readsSub_54 : decode cX8_readsSub 54 = .ok (.getfield 67, 3) := by decide +kernel
theorem dX8_readsSub_57 : decode cX8_readsSub 57 = .ok (.ifCond .gt 21, 3) := by decide +kernel
theorem dX8_readsSub_60 : decode cX8_readsSub 60 = .ok (.aload_n 0, 1) := by decide +kernel
theorem dX8_readsSub_61 : decode cX8_readsSub 61 = .ok (.getfield 13, 3) := by decide +kernel
theorem dX8_readsSub_64 : decode cX8_readsSub 64 = .ok (.iload_n 1, 1) := by decide +kernel
theorem dX8_readsSub_65 : decode cX8_readsSub 65 = .ok (.aload_n 0, 1) := by decide +kernel
theorem dX8_readsSub_66 : decode cX8_readsSub 66 = .ok (.getfield 29, 3) := by decide +kernel
theorem dX8_readsSub_69 : decode cX8_readsSub 69 = .ok (.iload_n 3, 1) := by decide +kernel
theorem dX8_readsSub_70 : decode cX8_readsSub 70 = .ok (.invokestatic 129, 3) := by decide +kernel
theorem dX8_readsSub_73 : decode cX8_readsSub 73 = .ok (.bipush (-4), 2) := by decide +kernel
theorem dX8_readsSub_75 : decode cX8_readsSub 75 = .ok (.if_icmp .ne 7, 3) := by decide +kernel
theorem dX8_readsSub_78 : decode cX8_readsSub 78 = .ok (.iconst 1, 1) := by decide +kernel
theorem dX8_readsSub_79 : decode cX8_readsSub 79 = .ok (.goto 4, 3) := by decide +kernel
theorem dX8_readsSub_82 : decode cX8_readsSub 82 = .ok (.iconst 0, 1) := by decide +kernel
theorem dX8_readsSub_83 : decode cX8_readsSub 83 = .ok (.iconst 4, 1) := by decide +kernel
theorem dX8_readsSub_84 : decode cX8_readsSub 84 = .ok (.invokevirtual 97, 3) := by decide +kernel
theorem dX8_readsSub_87 : decode cX8_readsSub 87 = .ok (.aload_n 0, 1) := by decide +kernel
theorem dX8_readsSub_88 : decode cX8_readsSub 88 = .ok (.aload_n 0, 1) := by decide +kernel
theorem dX8_readsSub_89 : decode cX8_readsSub 89 = .ok (.getfield 67, 3) := by decide +kernel
theorem dX8_readsSub_92 : decode cX8_readsSub 92 = .ok (.ifCond .gt 18, 3) := by decide +kernel
theorem dX8_readsSub_95 : decode cX8_readsSub 95 = .ok (.aload_n 0, 1) := by decide +kernel
theorem dX8_readsSub_96 : decode cX8_readsSub 96 = .ok (.getfield 13, 3) := by decide +kernel
theorem dX8_readsSub_99 : decode cX8_readsSub 99 = .ok (.iload_n 1, 1) := by decide +kernel
theorem dX8_readsSub_100 : decode cX8_readsSub 100 = .ok (.iconst 3, 1) := by decide +kernel
theorem dX8_readsSub_101 : decode cX8_readsSub 101 = .ok (.invokestatic 115, 3) := by decide +kernel
theorem dX8_readsSub_104 : decode cX8_readsSub 104 = .ok (.iaload, 1) := by decide +kernel
theorem dX8_readsSub_105 : decode cX8_readsSub 105 = .ok (.bipush 6, 2) := by decide +kernel
theorem dX8_readsSub_107 : decode cX8_readsSub 107 = .ok (.if_icmp .ge 7, 3) := by decide +kernel
theorem dX8_readsSub_110 : decode cX8_readsSub 110 = .ok (.iconst 1, 1) := by decide +kernel
theorem dX8_readsSub_111 : decode cX8_readsSub 111 = .ok (.goto 4, 3) := by decide +kernel
theorem dX8_readsSub_114 : decode cX8_readsSub 114 = .ok (.iconst 0, 1) := by decide +kernel
theorem dX8_readsSub_115 : decode cX8_readsSub 115 = .ok (.iconst 5, 1) := by decide +kernel
theorem dX8_readsSub_116 : decode cX8_readsSub 116 = .ok (.invokevirtual 97, 3) := by decide +kernel
theorem dX8_readsSub_119 : decode cX8_readsSub 119 = .ok (.aload_n 0, 1) := by decide +kernel
theorem dX8_readsSub_120 : decode cX8_readsSub 120 = .ok (.getfield 67, 3) := by decide +kernel
theorem dX8_readsSub_123 : decode cX8_readsSub 123 = .ok (.ifCond .ne 52, 3) := by decide +kernel
theorem dX8_readsSub_126 : decode cX8_readsSub 126 = .ok (.aload_n 0, 1) := by decide +kernel
theorem dX8_readsSub_127 : decode cX8_readsSub 127 = .ok (.getfield 13, 3) := by decide +kernel
theorem dX8_readsSub_130 : decode cX8_readsSub 130 = .ok (.iload_n 1, 1) := by decide +kernel
theorem dX8_readsSub_131 : decode cX8_readsSub 131 = .ok (.aload_n 0, 1) := by decide +kernel
theorem dX8_readsSub_132 : decode cX8_readsSub 132 = .ok (.getfield 29, 3) := by decide +kernel
theorem dX8_readsSub_135 : decode cX8_readsSub 135 = .ok (.iload_n 2, 1) := by decide +kernel
theorem dX8_readsSub_136 : decode cX8_readsSub 136 = .ok (.iload_n 3, 1) := by decide +kernel
theorem dX8_readsSub_137 : decode cX8_readsSub 137 = .ok (.invokestatic 133, 3) := by decide +kernel
theorem dX8_readsSub_140 : decode cX8_readsSub 140 = .ok (.aload_n 0, 1) := by decide +kernel
theorem dX8_readsSub_141 : decode cX8_readsSub 141 = .ok (.getfield 13, 3) := by decide +kernel
theorem dX8_readsSub_144 : decode cX8_readsSub 144 = .ok (.iload_n 1, 1) := by decide +kernel
theorem dX8_readsSub_145 : decode cX8_readsSub 145 = .ok (.iconst 0, 1) := by decide +kernel
theorem dX8_readsSub_146 : decode cX8_readsSub 146 = .ok (.invokestatic 115, 3) := by decide +kernel
theorem dX8_readsSub_149 : decode cX8_readsSub 149 = .ok (.iconst 2, 1) := by decide +kernel
theorem dX8_readsSub_150 : decode cX8_readsSub 150 = .ok (.iastore, 1) := by decide +kernel
theorem dX8_readsSub_151 : decode cX8_readsSub 151 = .ok (.aload_n 0, 1) := by decide +kernel
theorem dX8_readsSub_152 : decode cX8_readsSub 152 = .ok (.getfield 13, 3) := by decide +kernel
theorem dX8_readsSub_155 : decode cX8_readsSub 155 = .ok (.iload_n 1, 1) := by decide +kernel
theorem dX8_readsSub_156 : decode cX8_readsSub 156 = .ok (.iconst 1, 1) := by decide +kernel
theorem dX8_readsSub_157 : decode cX8_readsSub 157 = .ok (.invokestatic 115, 3) := by decide +kernel
theorem dX8_readsSub_160 : decode cX8_readsSub 160 = .ok (.bipush 99, 2) := by decide +kernel
theorem dX8_readsSub_162 : decode cX8_readsSub 162 = .ok (.iastore, 1) := by decide +kernel
theorem dX8_readsSub_163 : decode cX8_readsSub 163 = .ok (.aload_n 0, 1) := by decide +kernel
theorem dX8_readsSub_164 : decode cX8_readsSub 164 = .ok (.getfield 13, 3) := by decide +kernel
theorem dX8_readsSub_167 : decode cX8_readsSub 167 = .ok (.iload_n 1, 1) := by decide +kernel
theorem dX8_readsSub_168 : decode cX8_readsSub 168 = .ok (.iconst 2, 1) := by decide +kernel
theorem dX8_readsSub_169 : decode cX8_readsSub 169 = .ok (.invokestatic 115, 3) := by decide +kernel
theorem dX8_readsSub_172 : decode cX8_readsSub 172 = .ok (.bipush 99, 2) := by decide +kernel
theorem dX8_readsSub_174 : decode cX8_readsSub 174 = .ok (.iastore, 1) := by decide +kernel
theorem dX8_readsSub_175 : decode cX8_readsSub 175 = .ok (.return_, 1) := by decide +kernel
theorem dX8_readsKept_0 : decode cX8_readsKept 0 = .ok (.aload_n 0, 1) := by decide +kernel
theorem dX8_readsKept_1 : decode cX8_readsKept 1 = .ok (.iconst 1, 1) := by decide +kernel
theorem dX8_readsKept_2 : decode cX8_readsKept 2 = .ok (.invokevirtual 126, 3) := by decide +kernel
theorem dX8_readsKept_5 : decode cX8_readsKept 5 = .ok (.aload_n 0, 1) := by decide +kernel
theorem dX8_readsKept_6 : decode cX8_readsKept 6 = .ok (.iconst 1, 1) := by decide +kernel
theorem dX8_readsKept_7 : decode cX8_readsKept 7 = .ok (.bipush 99, 2) := by decide +kernel
theorem dX8_readsKept_9 : decode cX8_readsKept 9 = .ok (.invokevirtual 123, 3) := by decide +kernel
theorem dX8_readsKept_12 : decode cX8_readsKept 12 = .ok (.istore_n 1, 1) := by decide +kernel
theorem dX8_readsKept_13 : decode cX8_readsKept 13 = .ok (.aload_n 0, 1) := by decide +kernel
theorem dX8_readsKept_14 : decode cX8_readsKept 14 = .ok (.iconst 0, 1) := by decide +kernel
theorem dX8_readsKept_15 : decode cX8_readsKept 15 = .ok (.iconst 2, 1) := by decide +kernel
theorem dX8_readsKept_16 : decode cX8_readsKept 16 = .ok (.invokevirtual 123, 3) := by decide +kernel
theorem dX8_readsKept_19 : decode cX8_readsKept 19 = .ok (.istore_n 2, 1) := by decide +kernel
theorem dX8_readsKept_20 : decode cX8_readsKept 20 = .ok (.aload_n 0, 1) := by decide +kernel
theorem dX8_readsKept_21 : decode cX8_readsKept 21 = .ok (.aload_n 0, 1) := by decide +kernel
theorem dX8_readsKept_22 : decode cX8_readsKept 22 = .ok (.getfield 67, 3) := by decide +kernel
theorem dX8_readsKept_25 : decode cX8_readsKept 25 = .ok (.ifCond .gt 12, 3) := by decide +kernel
theorem dX8_readsKept_28 : decode cX8_readsKept 28 = .ok (.aload_n 0, 1) := by decide +kernel
theorem dX8_readsKept_29 : decode cX8_readsKept 29 = .ok (.bipush 59, 2) := by decide +kernel
theorem dX8_readsKept_31 : decode cX8_readsKept 31 = .ok (.invokevirtual 104, 3) := by decide +kernel
theorem dX8_readsKept_34 : decode cX8_readsKept 34 = .ok (.ifCond .eq 7, 3) := by decide +kernel
theorem dX8_readsKept_37 : decode cX8_readsKept 37 = .ok (.iconst 1, 1) := by decide +kernel
theorem dX8_readsKept_38 : decode cX8_readsKept 38 = .ok (.goto 4, 3) := by decide +kernel
theorem dX8_readsKept_41 : decode cX8_readsKept 41 = .ok (.iconst 0, 1) := by decide +kernel
theorem dX8_readsKept_42 : decode cX8_readsKept 42 = .ok (.iconst 2, 1) := by decide +kernel
theorem dX8_readsKept_43 : decode cX8_readsKept 43 = .ok (.invokevirtual 97, 3) := by decide +kernel
theorem dX8_readsKept_46 : decode cX8_readsKept 46 = .ok (.aload_n 0, 1) := by decide +kernel
theorem dX8_readsKept_47 : decode cX8_readsKept 47 = .ok (.aload_n 0, 1) := by decide +kernel
theorem dX8_readsKept_48 : decode cX8_readsKept 48 = .ok (.getfield 67, 3) := by decide +kernel
theorem dX8_readsKept_51 : decode cX8_readsKept 51 = .ok (.ifCond .gt 19, 3) := by decide +kernel
theorem dX8_readsKept_54 : decode cX8_readsKept 54 = .ok (.aload_n 0, 1) := by decide +kernel
theorem dX8_readsKept_55 : decode cX8_readsKept 55 = .ok (.getfield 13, 3) := by decide +kernel
theorem dX8_readsKept_58 : decode cX8_readsKept 58 = .ok (.aload_n 0, 1) := by decide +kernel
theorem dX8_readsKept_59 : decode cX8_readsKept 59 = .ok (.getfield 29, 3) := by decide +kernel
theorem dX8_readsKept_62 : decode cX8_readsKept 62 = .ok (.invokestatic 137, 3) := by decide +kernel
theorem dX8_readsKept_65 : decode cX8_readsKept 65 = .ok (.bipush (-4), 2) := by decide +kernel
theorem dX8_readsKept_67 : decode cX8_readsKept 67 = .ok (.if_icmp .ne 7, 3) := by decide +kernel
theorem dX8_readsKept_70 : decode cX8_readsKept 70 = .ok (.iconst 1, 1) := by decide +kernel
theorem dX8_readsKept_71 : decode cX8_readsKept 71 = .ok (.goto 4, 3) := by decide +kernel
theorem dX8_readsKept_74 : decode cX8_readsKept 74 = .ok (.iconst 0, 1) := by decide +kernel
theorem dX8_readsKept_75 : decode cX8_readsKept 75 = .ok (.iconst 4, 1) := by decide +kernel
theorem dX8_readsKept_76 : decode cX8_readsKept 76 = .ok (.invokevirtual 97, 3) := by decide +kernel
theorem dX8_readsKept_79 : decode cX8_readsKept 79 = .ok (.aload_n 0, 1) := by decide +kernel
theorem dX8_readsKept_80 : decode cX8_readsKept 80 = .ok (.aload_n 0, 1) := by decide +kernel
theorem dX8_readsKept_81 : decode cX8_readsKept 81 = .ok (.getfield 67, 3) := by decide +kernel
theorem dX8_readsKept_84 : decode cX8_readsKept 84 = .ok (.ifCond .gt 15, 3) := by decide +kernel
theorem dX8_readsKept_87 : decode cX8_readsKept 87 = .ok (.aload_n 0, 1) := by decide +kernel
theorem dX8_readsKept_88 : decode cX8_readsKept 88 = .ok (.getfield 13, 3) := by decide +kernel
theorem dX8_readsKept_91 : decode cX8_readsKept 91 = .ok (.bipush 6, 2) := by decide +kernel
theorem dX8_readsKept_93 : decode cX8_readsKept 93 = .ok (.iaload, 1) := by decide +kernel
theorem dX8_readsKept_94 : decode cX8_readsKept 94 = .ok (.bipush 12, 2) := by decide +kernel
theorem dX8_readsKept_96 : decode cX8_readsKept 96 = .ok (.if_icmp .ge 7, 3) := by decide +kernel
theorem dX8_readsKept_99 : decode cX8_readsKept 99 = .ok (.iconst 1, 1) := by decide +kernel
theorem dX8_readsKept_100 : decode cX8_readsKept 100 = .ok (.goto 4, 3) := by decide +kernel
theorem dX8_readsKept_103 : decode cX8_readsKept 103 = .ok (.iconst 0, 1) := by decide +kernel
theorem dX8_readsKept_104 : decode cX8_readsKept 104 = .ok (.iconst 5, 1) := by decide +kernel
theorem dX8_readsKept_105 : decode cX8_readsKept 105 = .ok (.invokevirtual 97, 3) := by decide +kernel
theorem dX8_readsKept_108 : decode cX8_readsKept 108 = .ok (.aload_n 0, 1) := by decide +kernel
theorem dX8_readsKept_109 : decode cX8_readsKept 109 = .ok (.getfield 67, 3) := by decide +kernel
theorem dX8_readsKept_112 : decode cX8_readsKept 112 = .ok (.ifCond .ne 32, 3) := by decide +kernel
theorem dX8_readsKept_115 : decode cX8_readsKept 115 = .ok (.aload_n 0, 1) := by decide +kernel
theorem dX8_readsKept_116 : decode cX8_readsKept 116 = .ok (.getfield 13, 3) := by decide +kernel
theorem dX8_readsKept_119 : decode cX8_readsKept 119 = .ok (.aload_n 0, 1) := by decide +kernel
theorem dX8_readsKept_120 : decode cX8_readsKept 120 = .ok (.getfield 29, 3) := by decide +kernel
theorem dX8_readsKept_123 : decode cX8_readsKept 123 = .ok (.iload_n 1, 1) := by decide +kernel
theorem dX8_readsKept_124 : decode cX8_readsKept 124 = .ok (.iload_n 2, 1) := by decide +kernel
theorem dX8_readsKept_125 : decode cX8_readsKept 125 = .ok (.aload_n 0, 1) := by decide +kernel
theorem dX8_readsKept_126 : decode cX8_readsKept 126 = .ok (.getfield 13, 3) := by decide +kernel
theorem dX8_readsKept_129 : decode cX8_readsKept 129 = .ok (.iconst 1, 1) := by decide +kernel
theorem dX8_readsKept_130 : decode cX8_readsKept 130 = .ok (.iaload, 1) := by decide +kernel
theorem dX8_readsKept_131 : decode cX8_readsKept 131 = .ok (.invokestatic 141, 3) := by decide +kernel
theorem dX8_readsKept_134 : decode cX8_readsKept 134 = .ok (.aload_n 0, 1) := by decide +kernel
theorem dX8_readsKept_135 : decode cX8_readsKept 135 = .ok (.getfield 13, 3) := by decide +kernel
theorem dX8_readsKept_138 : decode cX8_readsKept 138 = .ok (.iconst 1, 1) := by decide +kernel
theorem dX8_readsKept_139 : decode cX8_readsKept 139 = .ok (.dup2, 1) := by decide +kernel
theorem dX8_readsKept_140 : decode cX8_readsKept 140 = .ok (.iaload, 1) := by decide +kernel
theorem dX8_readsKept_141 : decode cX8_readsKept 141 = .ok (.iconst 1, 1) := by decide +kernel
theorem dX8_readsKept_142 : decode cX8_readsKept 142 = .ok (.iadd, 1) := by decide +kernel
theorem dX8_readsKept_143 : decode cX8_readsKept 143 = .ok (.iastore, 1) := by decide +kernel
theorem dX8_readsKept_144 : decode cX8_readsKept 144 = .ok (.return_, 1) := by decide +kernel
theorem dX8_readsLine_0 : decode cX8_readsLine 0 = .ok (.aload_n 0, 1) := by decide +kernel
theorem dX8_readsLine_1 : decode cX8_readsLine 1 = .ok (.invokevirtual 145, 3) := by decide +kernel
theorem dX8_readsLine_4 : decode cX8_readsLine 4 = .ok (.istore_n 1, 1) := by decide +kernel
theorem dX8_readsLine_5 : decode cX8_readsLine 5 = .ok (.aload_n 0, 1) := by decide +kernel
theorem dX8_readsLine_6 : decode cX8_readsLine 6 = .ok (.iload_n 1, 1) := by decide +kernel
theorem dX8_readsLine_7 : decode cX8_readsLine 7 = .ok (.ifCond .ne 10, 3) := by decide +kernel
theorem dX8_readsLine_10 : decode cX8_readsLine 10 = .ok (.aload_n 0, 1) := by decide +kernel
theorem dX8_readsLine_11 : decode cX8_readsLine 11 = .ok (.invokevirtual 149, 3) := by decide +kernel
theorem dX8_readsLine_14 : decode cX8_readsLine 14 = .ok (.ifCond .eq 7, 3) := by decide +kernel
theorem dX8_readsLine_17 : decode cX8_readsLine 17 = .ok (.iconst 1, 1) := by decide +kernel
theorem dX8_readsLine_18 : decode cX8_readsLine 18 = .ok (.goto 4, 3) := by decide +kernel
theorem dX8_readsLine_21 : decode cX8_readsLine 21 = .ok (.iconst 0, 1) := by decide +kernel
theorem dX8_readsLine_22 : decode cX8_readsLine 22 = .ok (.iconst 2, 1) := by decide +kernel
theorem dX8_readsLine_23 : decode cX8_readsLine 23 = .ok (.invokevirtual 97, 3) := by decide +kernel
theorem dX8_readsLine_26 : decode cX8_readsLine 26 = .ok (.aload_n 0, 1) := by decide +kernel
theorem dX8_readsLine_27 : decode cX8_readsLine 27 = .ok (.invokevirtual 101, 3) := by decide +kernel
theorem dX8_readsLine_30 : decode cX8_readsLine 30 = .ok (.aload_n 0, 1) := by decide +kernel
theorem dX8_readsLine_31 : decode cX8_readsLine 31 = .ok (.getfield 67, 3) := by decide +kernel
theorem dX8_readsLine_34 : decode cX8_readsLine 34 = .ok (.ifCond .le 4, 3) := by decide +kernel
theorem dX8_readsLine_37 : decode cX8_readsLine 37 = .ok (.return_, 1) := by decide +kernel
theorem dX8_readsLine_38 : decode cX8_readsLine 38 = .ok (.iload_n 1, 1) := by decide +kernel
theorem dX8_readsLine_39 : decode cX8_readsLine 39 = .ok (.ifCond .eq 10, 3) := by decide +kernel
theorem dX8_readsLine_42 : decode cX8_readsLine 42 = .ok (.aload_n 0, 1) := by decide +kernel
theorem dX8_readsLine_43 : decode cX8_readsLine 43 = .ok (.invokevirtual 152, 3) := by decide +kernel
theorem dX8_readsLine_46 : decode cX8_readsLine 46 = .ok (.goto 7, 3) := by decide +kernel
theorem dX8_readsLine_49 : decode cX8_readsLine 49 = .ok (.aload_n 0, 1) := by decide +kernel
theorem dX8_readsLine_50 : decode cX8_readsLine 50 = .ok (.invokevirtual 155, 3) := by decide +kernel
theorem dX8_readsLine_53 : decode cX8_readsLine 53 = .ok (.aload_n 0, 1) := by decide +kernel
theorem dX8_readsLine_54 : decode cX8_readsLine 54 = .ok (.invokevirtual 101, 3) := by decide +kernel
theorem dX8_readsLine_57 : decode cX8_readsLine 57 = .ok (.return_, 1) := by decide +kernel
theorem dX8_text_0 : decode cX8_text 0 = .ok (.aload_n 0, 1) := by decide +kernel
theorem dX8_text_1 : decode cX8_text 1 = .ok (.iconst 0, 1) := by decide +kernel
theorem dX8_text_2 : decode cX8_text 2 = .ok (.putfield 67, 3) := by decide +kernel
theorem dX8_text_5 : decode cX8_text 5 = .ok (.aload_n 0, 1) := by decide +kernel
theorem dX8_text_6 : decode cX8_text 6 = .ok (.iconst 0, 1) := by decide +kernel
theorem dX8_text_7 : decode cX8_text 7 = .ok (.putfield 76, 3) := by decide +kernel
theorem dX8_text_10 : decode cX8_text 10 = .ok (.aload_n 0, 1) := by decide +kernel
theorem dX8_text_11 : decode cX8_text 11 = .ok (.getfield 13, 3) := by decide +kernel
theorem dX8_text_14 : decode cX8_text 14 = .ok (.invokestatic 53, 3) := by decide +kernel
theorem dX8_text_17 : decode cX8_text 17 = .ok (.iconst 0, 1) := by decide +kernel
theorem dX8_text_18 : decode cX8_text 18 = .ok (.istore_n 1, 1) := by decide +kernel
theorem dX8_text_19 : decode cX8_text 19 = .ok (.aload_n 0, 1) := by decide +kernel
theorem dX8_text_20 : decode cX8_text 20 = .ok (.invokevirtual 101, 3) := by decide +kernel
theorem dX8_text_23 : decode cX8_text 23 = .ok (.aload_n 0, 1) := by decide +kernel
theorem dX8_text_24 : decode cX8_text 24 = .ok (.getfield 67, 3) := by decide +kernel
theorem dX8_text_27 : decode cX8_text 27 = .ok (.ifCond .ne 20, 3) := by decide +kernel
theorem dX8_text_30 : decode cX8_text 30 = .ok (.aload_n 0, 1) := by decide +kernel
theorem dX8_text_31 : decode cX8_text 31 = .ok (.getfield 86, 3) := by decide +kernel
theorem dX8_text_34 : decode cX8_text 34 = .ok (.ifCond .eq 13, 3) := by decide +kernel
theorem dX8_text_37 : decode cX8_text 37 = .ok (.aload_n 0, 1) := by decide +kernel
theorem dX8_text_38 : decode cX8_text 38 = .ok (.invokevirtual 158, 3) := by decide +kernel
theorem dX8_text_41 : decode cX8_text 41 = .ok (.iinc 1 1, 3) := by decide +kernel
theorem dX8_text_44 : decode cX8_text 44 = .ok (.goto (-21), 3) := by decide +kernel
theorem dX8_text_47 : decode cX8_text 47 = .ok (.aload_n 0, 1) := by decide +kernel
theorem dX8_text_48 : decode cX8_text 48 = .ok (.iconst 0, 1) := by decide +kernel
theorem dX8_text_49 : decode cX8_text 49 = .ok (.putfield 63, 3) := by decide +kernel
theorem dX8_text_52 : decode cX8_text 52 = .ok (.aload_n 0, 1) := by decide +kernel
theorem dX8_text_53 : decode cX8_text 53 = .ok (.getfield 67, 3) := by decide +kernel
theorem dX8_text_56 : decode cX8_text 56 = .ok (.ifCond .le 11, 3) := by decide +kernel
theorem dX8_text_59 : decode cX8_text 59 = .ok (.bipush (-10), 2) := by decide +kernel
theorem dX8_text_61 : decode cX8_text 61 = .ok (.aload_n 0, 1) := by decide +kernel
theorem dX8_text_62 : decode cX8_text 62 = .ok (.getfield 73, 3) := by decide +kernel
theorem dX8_text_65 : decode cX8_text 65 = .ok (.isub, 1) := by decide +kernel
theorem dX8_text_66 : decode cX8_text 66 = .ok (.ireturn, 1) := by decide +kernel
theorem dX8_text_67 : decode cX8_text 67 = .ok (.iconst 0, 1) := by decide +kernel
theorem dX8_text_68 : decode cX8_text 68 = .ok (.istore_n 2, 1) := by decide +kernel
theorem dX8_text_69 : decode cX8_text 69 = .ok (.iload_n 2, 1) := by decide +kernel
theorem dX8_text_70 : decode cX8_text 70 = .ok (.sipush 6074, 3) := by decide +kernel
theorem dX8_text_73 : decode cX8_text 73 = .ok (.if_icmp .ge 21, 3) := by decide +kernel
theorem dX8_text_76 : decode cX8_text 76 = .ok (.aload_n 0, 1) := by decide +kernel
theorem dX8_text_77 : decode cX8_text 77 = .ok (.getfield 7, 3) := by decide +kernel
theorem dX8_text_80 : decode cX8_text 80 = .ok (.iload_n 2, 1) := by decide +kernel
theorem dX8_text_81 : decode cX8_text 81 = .ok (.aload_n 0, 1) := by decide +kernel
theorem dX8_text_82 : decode cX8_text 82 = .ok (.getfield 13, 3) := by decide +kernel
theorem dX8_text_85 : decode cX8_text 85 = .ok (.iload_n 2, 1) := by decide +kernel
theorem dX8_text_86 : decode cX8_text 86 = .ok (.iaload, 1) := by decide +kernel
theorem dX8_text_87 : decode cX8_text 87 = .ok (.iastore, 1) := by decide +kernel
theorem dX8_text_88 : decode cX8_text 88 = .ok (.iinc 2 1, 3) := by decide +kernel
theorem dX8_text_91 : decode cX8_text 91 = .ok (.goto (-22), 3) := by decide +kernel
theorem dX8_text_94 : decode cX8_text 94 = .ok (.aload_n 0, 1) := by decide +kernel
theorem dX8_text_95 : decode cX8_text 95 = .ok (.iconst 0, 1) := by decide +kernel
theorem dX8_text_96 : decode cX8_text 96 = .ok (.putfield 161, 3) := by decide +kernel
theorem dX8_text_99 : decode cX8_text 99 = .ok (.aload_n 0, 1) := by decide +kernel
theorem dX8_text_100 : decode cX8_text 100 = .ok (.getfield 19, 3) := by decide +kernel
theorem dX8_text_103 : decode cX8_text 103 = .ok (.iconst 0, 1) := by decide +kernel
theorem dX8_text_104 : decode cX8_text 104 = .ok (.iconst 0, 1) := by decide +kernel
theorem dX8_text_105 : decode cX8_text 105 = .ok (.bastore, 1) := by decide +kernel
theorem dX8_text_106 : decode cX8_text 106 = .ok (.aload_n 0, 1) := by decide +kernel
theorem dX8_text_107 : decode cX8_text 107 = .ok (.getfield 19, 3) := by decide +kernel
theorem dX8_text_110 : decode cX8_text 110 = .ok (.iconst 1, 1) := by decide +kernel
theorem dX8_text_111 : decode cX8_text 111 = .ok (.iconst 0, 1) := by decide +kernel
theorem dX8_text_112 : decode cX8_text 112 = .ok (.bastore, 1) := by decide +kernel
theorem dX8_text_113 : decode cX8_text 113 = .ok (.iload_n 1, 1) := by decide +kernel
theorem dX8_text_114 : decode cX8_text 114 = .ok (.ireturn, 1) := by decide +kernel
theorem dX8_fault_0 : decode cX8_fault 0 = .ok (.aload_n 0, 1) := by decide +kernel
theorem dX8_fault_1 : decode cX8_fault 1 = .ok (.getfield 67, 3) := by decide +kernel
theorem dX8_fault_4 : decode cX8_fault 4 = .ok (.ireturn, 1) := by decide +kernel
theorem dX8_level_0 : decode cX8_level 0 = .ok (.iload_n 1, 1) := by decide +kernel
theorem dX8_level_1 : decode cX8_level 1 = .ok (.i2l, 1) := by decide +kernel
theorem dX8_level_2 : decode cX8_level 2 = .ok (.lconst 1, 1) := by decide +kernel
theorem dX8_level_3 : decode cX8_level 3 = .ok (.ldc2_w 164, 3) := by decide +kernel
theorem dX8_level_6 : decode cX8_level 6 = .ok (.invokestatic 59, 3) := by decide +kernel
theorem dX8_level_9 : decode cX8_level 9 = .ok (.ifCond .ne 5, 3) := by decide +kernel
theorem dX8_level_12 : decode cX8_level 12 = .ok (.iconst (-1), 1) := by decide +kernel
theorem dX8_level_13 : decode cX8_level 13 = .ok (.ireturn, 1) := by decide +kernel
theorem dX8_level_14 : decode cX8_level 14 = .ok (.aload_n 0, 1) := by decide +kernel
theorem dX8_level_15 : decode cX8_level 15 = .ok (.getfield 161, 3) := by decide +kernel
theorem dX8_level_18 : decode cX8_level 18 = .ok (.ifCond .le 22, 3) := by decide +kernel
theorem dX8_level_21 : decode cX8_level 21 = .ok (.aload_n 0, 1) := by decide +kernel
theorem dX8_level_22 : decode cX8_level 22 = .ok (.getfield 23, 3) := by decide +kernel
theorem dX8_level_25 : decode cX8_level 25 = .ok (.aload_n 0, 1) := by decide +kernel
theorem dX8_level_26 : decode cX8_level 26 = .ok (.getfield 161, 3) := by decide +kernel
theorem dX8_level_29 : decode cX8_level 29 = .ok (.iconst 1, 1) := by decide +kernel
theorem dX8_level_30 : decode cX8_level 30 = .ok (.isub, 1) := by decide +kernel
theorem dX8_level_31 : decode cX8_level 31 = .ok (.iaload, 1) := by decide +kernel
theorem dX8_level_32 : decode cX8_level 32 = .ok (.bipush 28, 2) := by decide +kernel
theorem dX8_level_34 : decode cX8_level 34 = .ok (.if_icmp .ne 6, 3) := by decide +kernel
theorem dX8_level_37 : decode cX8_level 37 = .ok (.bipush (-2), 2) := by decide +kernel
theorem dX8_level_39 : decode cX8_level 39 = .ok (.ireturn, 1) := by decide +kernel
theorem dX8_level_40 : decode cX8_level 40 = .ok (.aload_n 0, 1) := by decide +kernel
theorem dX8_level_41 : decode cX8_level 41 = .ok (.getfield 161, 3) := by decide +kernel
theorem dX8_level_44 : decode cX8_level 44 = .ok (.iconst 4, 1) := by decide +kernel
theorem dX8_level_45 : decode cX8_level 45 = .ok (.if_icmp .ne 6, 3) := by decide +kernel
theorem dX8_level_48 : decode cX8_level 48 = .ok (.bipush (-3), 2) := by decide +kernel
theorem dX8_level_50 : decode cX8_level 50 = .ok (.ireturn, 1) := by decide +kernel
theorem dX8_level_51 : decode cX8_level 51 = .ok (.aload_n 0, 1) := by decide +kernel
theorem dX8_level_52 : decode cX8_level 52 = .ok (.getfield 23, 3) := by decide +kernel
theorem dX8_level_55 : decode cX8_level 55 = .ok (.aload_n 0, 1) := by decide +kernel
theorem dX8_level_56 : decode cX8_level 56 = .ok (.getfield 161, 3) := by decide +kernel
theorem dX8_level_59 : decode cX8_level 59 = .ok (.iload_n 1, 1) := by decide +kernel
theorem dX8_level_60 : decode cX8_level 60 = .ok (.iastore, 1) := by decide +kernel
theorem dX8_level_61 : decode cX8_level 61 = .ok (.aload_n 0, 1) := by decide +kernel
theorem dX8_level_62 : decode cX8_level 62 = .ok (.dup, 1) := by decide +kernel
theorem dX8_level_63 : decode cX8_level 63 = .ok (.getfield 161, 3) := by decide +kernel
theorem dX8_level_66 : decode cX8_level 66 = .ok (.iconst 1, 1) := by decide +kernel
theorem dX8_level_67 : decode cX8_level 67 = .ok (.iadd, 1) := by decide +kernel
theorem dX8_level_68 : decode cX8_level 68 = .ok (.putfield 161, 3) := by decide +kernel
theorem dX8_level_71 : decode cX8_level 71 = .ok (.aload_n 0, 1) := by decide +kernel
theorem dX8_level_72 : decode cX8_level 72 = .ok (.getfield 161, 3) := by decide +kernel
theorem dX8_level_75 : decode cX8_level 75 = .ok (.istore_n 2, 1) := by decide +kernel
theorem dX8_level_76 : decode cX8_level 76 = .ok (.iload_n 2, 1) := by decide +kernel
theorem dX8_level_77 : decode cX8_level 77 = .ok (.iconst 4, 1) := by decide +kernel
theorem dX8_level_78 : decode cX8_level 78 = .ok (.if_icmp .ge 16, 3) := by decide +kernel
theorem dX8_level_81 : decode cX8_level 81 = .ok (.aload_n 0, 1) := by decide +kernel
theorem dX8_level_82 : decode cX8_level 82 = .ok (.getfield 23, 3) := by decide +kernel
theorem dX8_level_85 : decode cX8_level 85 = .ok (.iload_n 2, 1) := by decide +kernel
theorem dX8_level_86 : decode cX8_level 86 = .ok (.iconst 0, 1) := by decide +kernel
theorem dX8_level_87 : decode cX8_level 87 = .ok (.iastore, 1) := by decide +kernel
theorem dX8_level_88 : decode cX8_level 88 = .ok (.iinc 2 1, 3) := by decide +kernel
theorem dX8_level_91 : decode cX8_level 91 = .ok (.goto (-15), 3) := by decide +kernel
theorem dX8_level_94 : decode cX8_level 94 = .ok (.aload_n 0, 1) := by decide +kernel
theorem dX8_level_95 : decode cX8_level 95 = .ok (.getfield 161, 3) := by decide +kernel
theorem dX8_level_98 : decode cX8_level 98 = .ok (.ireturn, 1) := by decide +kernel
theorem dX8_top_0 : decode cX8_top 0 = .ok (.aload_n 0, 1) := by decide +kernel
theorem dX8_top_1 : decode cX8_top 1 = .ok (.getfield 161, 3) := by decide +kernel
theorem dX8_top_4 : decode cX8_top 4 = .ok (.istore_n 1, 1) := by decide +kernel
theorem dX8_top_5 : decode cX8_top 5 = .ok (.aload_n 0, 1) := by decide +kernel
theorem dX8_top_6 : decode cX8_top 6 = .ok (.iconst 0, 1) := by decide +kernel
theorem dX8_top_7 : decode cX8_top 7 = .ok (.putfield 161, 3) := by decide +kernel
theorem dX8_top_10 : decode cX8_top 10 = .ok (.iconst 0, 1) := by decide +kernel
theorem dX8_top_11 : decode cX8_top 11 = .ok (.istore_n 2, 1) := by decide +kernel
theorem dX8_top_12 : decode cX8_top 12 = .ok (.iload_n 2, 1) := by decide +kernel
theorem dX8_top_13 : decode cX8_top 13 = .ok (.iconst 4, 1) := by decide +kernel
theorem dX8_top_14 : decode cX8_top 14 = .ok (.if_icmp .ge 16, 3) := by decide +kernel
theorem dX8_top_17 : decode cX8_top 17 = .ok (.aload_n 0, 1) := by decide +kernel
theorem dX8_top_18 : decode cX8_top 18 = .ok (.getfield 23, 3) := by decide +kernel
theorem dX8_top_21 : decode cX8_top 21 = .ok (.iload_n 2, 1) := by decide +kernel
theorem dX8_top_22 : decode cX8_top 22 = .ok (.iconst 0, 1) := by decide +kernel
theorem dX8_top_23 : decode cX8_top 23 = .ok (.iastore, 1) := by decide +kernel
theorem dX8_top_24 : decode cX8_top 24 = .ok (.iinc 2 1, 3) := by decide +kernel
theorem dX8_top_27 : decode cX8_top 27 = .ok (.goto (-15), 3) := by decide +kernel
theorem dX8_top_30 : decode cX8_top 30 = .ok (.iload_n 1, 1) := by decide +kernel
theorem dX8_top_31 : decode cX8_top 31 = .ok (.ireturn, 1) := by decide +kernel
theorem dX8_isTopic_0 : decode cX8_isTopic 0 = .ok (.aload_n 0, 1) := by decide +kernel
theorem dX8_isTopic_1 : decode cX8_isTopic 1 = .ok (.getfield 161, 3) := by decide +kernel
theorem dX8_isTopic_4 : decode cX8_isTopic 4 = .ok (.ifCond .le 7, 3) := by decide +kernel
theorem dX8_isTopic_7 : decode cX8_isTopic 7 = .ok (.iconst 1, 1) := by decide +kernel
theorem dX8_isTopic_8 : decode cX8_isTopic 8 = .ok (.goto 4, 3) := by decide +kernel
theorem dX8_isTopic_11 : decode cX8_isTopic 11 = .ok (.iconst 0, 1) := by decide +kernel
theorem dX8_isTopic_12 : decode cX8_isTopic 12 = .ok (.istore_n 1, 1) := by decide +kernel
theorem dX8_isTopic_13 : decode cX8_isTopic 13 = .ok (.iconst 0, 1) := by decide +kernel
theorem dX8_isTopic_14 : decode cX8_isTopic 14 = .ok (.istore_n 2, 1) := by decide +kernel
theorem dX8_isTopic_15 : decode cX8_isTopic 15 = .ok (.iload_n 2, 1) := by decide +kernel
theorem dX8_isTopic_16 : decode cX8_isTopic 16 = .ok (.aload_n 0, 1) := by decide +kernel
theorem dX8_isTopic_17 : decode cX8_isTopic 17 = .ok (.getfield 161, 3) := by decide +kernel
theorem dX8_isTopic_20 : decode cX8_isTopic 20 = .ok (.if_icmp .ge 30, 3) := by decide +kernel
theorem dX8_isTopic_23 : decode cX8_isTopic 23 = .ok (.iload_n 1, 1) := by decide +kernel
theorem dX8_isTopic_24 : decode cX8_isTopic 24 = .ok (.ifCond .eq 18, 3) := by decide +kernel
theorem dX8_isTopic_27 : decode cX8_isTopic 27 = .ok (.aload_n 0, 1) := by decide +kernel
theorem dX8_isTopic_28 : decode cX8_isTopic 28 = .ok (.getfield 23, 3) := by decide +kernel
theorem dX8_isTopic_31 : decode cX8_isTopic 31 = .ok (.iload_n 2, 1) := by decide +kernel
theorem dX8_isTopic_32 : decode cX8_isTopic 32 = .ok (.iaload, 1) := by decide +kernel
theorem dX8_isTopic_33 : decode cX8_isTopic 33 = .ok (.bipush 26, 2) := by decide +kernel
theorem dX8_isTopic_35 : decode cX8_isTopic 35 = .ok (.if_icmp .gt 7, 3) := by decide +kernel
theorem dX8_isTopic_38 : decode cX8_isTopic 38 = .ok (.iconst 1, 1) := by decide +kernel
theorem dX8_isTopic_39 : decode cX8_isTopic 39 = .ok (.goto 4, 3) := by decide +kernel
theorem dX8_isTopic_42 : decode cX8_isTopic 42 = .ok (.iconst 0, 1) := by decide +kernel
theorem dX8_isTopic_43 : decode cX8_isTopic 43 = .ok (.istore_n 1, 1) := by decide +kernel
theorem dX8_isTopic_44 : decode cX8_isTopic 44 = .ok (.iinc 2 1, 3) := by decide +kernel
theorem dX8_isTopic_47 : decode cX8_isTopic 47 = .ok (.goto (-32), 3) := by decide +kernel
theorem dX8_isTopic_50 : decode cX8_isTopic 50 = .ok (.iload_n 1, 1) := by decide +kernel
theorem dX8_isTopic_51 : decode cX8_isTopic 51 = .ok (.ireturn, 1) := by decide +kernel
theorem dX8_isMatching_0 : decode cX8_isMatching 0 = .ok (.iconst 0, 1) := by decide +kernel
theorem dX8_isMatching_1 : decode cX8_isMatching 1 = .ok (.istore_n 3, 1) := by decide +kernel
theorem dX8_isMatching_2 : decode cX8_isMatching 2 = .ok (.iload_n 3, 1) := by decide +kernel
theorem dX8_isMatching_3 : decode cX8_isMatching 3 = .ok (.iconst 4, 1) := by decide +kernel
theorem dX8_isMatching_4 : decode cX8_isMatching 4 = .ok (.if_icmp .ge 51, 3) := by decide +kernel
theorem dX8_isMatching_7 : decode cX8_isMatching 7 = .ok (.aload_n 0, 1) := by decide +kernel
theorem dX8_isMatching_8 : decode cX8_isMatching 8 = .ok (.getfield 7, 3) := by decide +kernel
theorem dX8_isMatching_11 : decode cX8_isMatching 11 = .ok (.iload_n 1, 1) := by decide +kernel
theorem dX8_isMatching_12 : decode cX8_isMatching 12 = .ok (.iload_n 3, 1) := by decide +kernel
theorem dX8_isMatching_13 : decode cX8_isMatching 13 = .ok (.iadd, 1) := by decide +kernel
theorem dX8_isMatching_14 : decode cX8_isMatching 14 = .ok (.iaload, 1) := by decide +kernel
theorem dX8_isMatching_15 : decode cX8_isMatching 15 = .ok (.istore 4, 2) := by decide +kernel
theorem dX8_isMatching_17 : decode cX8_isMatching 17 = .ok (.iload 4, 2) := by decide +kernel
theorem dX8_isMatching_19 : decode cX8_isMatching 19 = .ok (.bipush 28, 2) := by decide +kernel
theorem dX8_isMatching_21 : decode cX8_isMatching 21 = .ok (.if_icmp .ne 5, 3) := by decide +kernel
theorem dX8_isMatching_24 : decode cX8_isMatching 24 = .ok (.iconst 1, 1) := by decide +kernel
theorem dX8_isMatching_25 : decode cX8_isMatching 25 = .ok (.ireturn, 1) := by decide +kernel
theorem dX8_isMatching_26 : decode cX8_isMatching 26 = .ok (.iload 4, 2) := by decide +kernel
theorem dX8_isMatching_28 : decode cX8_isMatching 28 = .ok (.aload_n 2, 1) := by decide +kernel
theorem dX8_isMatching_29 : decode cX8_isMatching 29 = .ok (.iload_n 3, 1) := by decide +kernel
theorem dX8_isMatching_30 : decode cX8_isMatching 30 = .ok (.iaload, 1) := by decide +kernel
theorem dX8_isMatching_31 : decode cX8_isMatching 31 = .ok (.if_icmp .eq 18, 3) := by decide +kernel
theorem dX8_isMatching_34 : decode cX8_isMatching 34 = .ok (.iload 4, 2) := by decide +kernel
theorem dX8_isMatching_36 : decode cX8_isMatching 36 = .ok (.bipush 27, 2) := by decide +kernel
theorem dX8_isMatching_38 : decode cX8_isMatching 38 = .ok (.if_icmp .ne 9, 3) := by decide +kernel
theorem dX8_isMatching_41 : decode cX8_isMatching 41 = .ok (.aload_n 2, 1) := by decide +kernel
theorem dX8_isMatching_42 : decode cX8_isMatching 42 = .ok (.iload_n 3, 1) := by decide +kernel
theorem dX8_isMatching_43 : decode cX8_isMatching 43 = .ok (.iaload, 1) := by decide +kernel
theorem dX8_isMatching_44 : decode cX8_isMatching 44 = .ok (.ifCond .ne 5, 3) := by decide +kernel
theorem dX8_isMatching_47 : decode cX8_isMatching 47 = .ok (.iconst 0, 1) := by decide +kernel
theorem dX8_isMatching_48 : decode cX8_isMatching 48 = .ok (.ireturn, 1) := by decide +kernel
theorem dX8_isMatching_49 : decode cX8_isMatching 49 = .ok (.iinc 3 1, 3) := by decide +kernel
theorem dX8_isMatching_52 : decode cX8_isMatching 52 = .ok (.goto (-50), 3) := by decide +kernel
theorem dX8_isMatching_55 : decode cX8_isMatching 55 = .ok (.iconst 1, 1) := by decide +kernel
theorem dX8_isMatching_56 : decode cX8_isMatching 56 = .ok (.ireturn, 1) := by decide +kernel
theorem dX8_lesser_0 : decode cX8_lesser 0 = .ok (.iload_n 0, 1) := by decide +kernel
theorem dX8_lesser_1 : decode cX8_lesser 1 = .ok (.iload_n 1, 1) := by decide +kernel
theorem dX8_lesser_2 : decode cX8_lesser 2 = .ok (.if_icmp .ge 7, 3) := by decide +kernel
theorem dX8_lesser_5 : decode cX8_lesser 5 = .ok (.iload_n 0, 1) := by decide +kernel
theorem dX8_lesser_6 : decode cX8_lesser 6 = .ok (.goto 4, 3) := by decide +kernel
theorem dX8_lesser_9 : decode cX8_lesser 9 = .ok (.iload_n 1, 1) := by decide +kernel
theorem dX8_lesser_10 : decode cX8_lesser 10 = .ok (.ireturn, 1) := by decide +kernel
theorem dX8_of_0 : decode cX8_of 0 = .ok (.aload_n 0, 1) := by decide +kernel
theorem dX8_of_1 : decode cX8_of 1 = .ok (.getfield 7, 3) := by decide +kernel
theorem dX8_of_4 : decode cX8_of 4 = .ok (.iload_n 1, 1) := by decide +kernel
theorem dX8_of_5 : decode cX8_of 5 = .ok (.iload_n 2, 1) := by decide +kernel
theorem dX8_of_6 : decode cX8_of 6 = .ok (.invokestatic 115, 3) := by decide +kernel
theorem dX8_of_9 : decode cX8_of 9 = .ok (.iaload, 1) := by decide +kernel
theorem dX8_of_10 : decode cX8_of 10 = .ok (.ireturn, 1) := by decide +kernel
theorem dX8_isAwake_0 : decode cX8_isAwake 0 = .ok (.aload_n 0, 1) := by decide +kernel
theorem dX8_isAwake_1 : decode cX8_isAwake 1 = .ok (.iload_n 1, 1) := by decide +kernel
theorem dX8_isAwake_2 : decode cX8_isAwake 2 = .ok (.iconst 0, 1) := by decide +kernel
theorem dX8_isAwake_3 : decode cX8_isAwake 3 = .ok (.invokevirtual 166, 3) := by decide +kernel
theorem dX8_isAwake_6 : decode cX8_isAwake 6 = .ok (.iconst 1, 1) := by decide +kernel
theorem dX8_isAwake_7 : decode cX8_isAwake 7 = .ok (.if_icmp .ne 7, 3) := by decide +kernel
theorem dX8_isAwake_10 : decode cX8_isAwake 10 = .ok (.iconst 1, 1) := by decide +kernel
theorem dX8_isAwake_11 : decode cX8_isAwake 11 = .ok (.goto 4, 3) := by decide +kernel
theorem dX8_isAwake_14 : decode cX8_isAwake 14 = .ok (.iconst 0, 1) := by decide +kernel
theorem dX8_isAwake_15 : decode cX8_isAwake 15 = .ok (.ireturn, 1) := by decide +kernel
theorem dX8_packetDown_0 : decode cX8_packetDown 0 = .ok (.aload_n 0, 1) := by decide +kernel
theorem dX8_packetDown_1 : decode cX8_packetDown 1 = .ok (.iload_n 1, 1) := by decide +kernel
theorem dX8_packetDown_2 : decode cX8_packetDown 2 = .ok (.bipush 6, 2) := by decide +kernel
theorem dX8_packetDown_4 : decode cX8_packetDown 4 = .ok (.invokevirtual 166, 3) := by decide +kernel
theorem dX8_packetDown_7 : decode cX8_packetDown 7 = .ok (.istore 8, 2) := by decide +kernel
theorem dX8_packetDown_9 : decode cX8_packetDown 9 = .ok (.iload 8, 2) := by decide +kernel
theorem dX8_packetDown_11 : decode cX8_packetDown 11 = .ok (.bipush 16, 2) := by decide +kernel
theorem dX8_packetDown_13 : decode cX8_packetDown 13 = .ok (.if_icmp .ge 95, 3) := by decide +kernel
theorem dX8_packetDown_16 : decode cX8_packetDown 16 = .ok (.iload_n 1, 1) := by decide +kernel
theorem dX8_packetDown_17 : decode cX8_packetDown 17 = .ok (.sipush 153, 3) := by decide +kernel
theorem dX8_packetDown_20 : decode cX8_packetDown 20 = .ok (.bipush 6, 2) := by decide +kernel
theorem dX8_packetDown_22 : decode cX8_packetDown 22 = .ok (.iload 8, 2) := by decide +kernel
theorem dX8_packetDown_24 : decode cX8_packetDown 24 = .ok (.imul, 1) := by decide +kernel
theorem dX8_packetDown_25 : decode cX8_packetDown 25 = .ok (.iadd, 1) := by decide +kernel
theorem dX8_packetDown_26 : decode cX8_packetDown 26 = .ok (.invokestatic 115, 3) := by decide +kernel
theorem dX8_packetDown_29 : decode cX8_packetDown 29 = .ok (.istore 9, 2) := by decide +kernel
theorem dX8_packetDown_31 : decode cX8_packetDown 31 = .ok (.aload_n 0, 1) := by decide +kernel
theorem dX8_packetDown_32 : decode cX8_packetDown 32 = .ok (.getfield 7, 3) := by decide +kernel
theorem dX8_packetDown_35 : decode cX8_packetDown 35 = .ok (.iload 9, 2) := by decide +kernel
theorem dX8_packetDown_37 : decode cX8_packetDown 37 = .ok (.iload_n 2, 1) := by decide +kernel
theorem dX8_packetDown_38 : decode cX8_packetDown 38 = .ok (.iastore, 1) := by decide +kernel
theorem dX8_packetDown_39 : decode cX8_packetDown 39 = .ok (.aload_n 0, 1) := by decide +kernel
theorem dX8_packetDown_40 : decode cX8_packetDown 40 = .ok (.getfield 7, 3) := by decide +kernel
theorem dX8_packetDown_43 : decode cX8_packetDown 43 = .ok (.iload 9, 2) := by decide +kernel
theorem dX8_packetDown_45 : decode cX8_packetDown 45 = .ok (.iconst 1, 1) := by decide +kernel
theorem dX8_packetDown_46 : decode cX8_packetDown 46 = .ok (.iadd, 1) := by decide +kernel
theorem dX8_packetDown_47 : decode cX8_packetDown 47 = .ok (.iload_n 3, 1) := by decide +kernel
theorem dX8_packetDown_48 : decode cX8_packetDown 48 = .ok (.iastore, 1) := by decide +kernel
theorem dX8_packetDown_49 : decode cX8_packetDown 49 = .ok (.aload_n 0, 1) := by decide +kernel
theorem dX8_packetDown_50 : decode cX8_packetDown 50 = .ok (.getfield 7, 3) := by decide +kernel
theorem dX8_packetDown_53 : decode cX8_packetDown 53 = .ok (.iload 9, 2) := by decide +kernel
theorem dX8_packetDown_55 : decode cX8_packetDown 55 = .ok (.iconst 2, 1) := by decide +kernel
theorem dX8_packetDown_56 : decode cX8_packetDown 56 = .ok (.iadd, 1) := by decide +kernel
theorem dX8_packetDown_57 : decode cX8_packetDown 57 = .ok (.iload 4, 2) := by decide +kernel
theorem dX8_packetDown_59 : decode cX8_packetDown 59 = .ok (.iastore, 1) := by decide +kernel
theorem dX8_packetDown_60 : decode cX8_packetDown 60 = .ok (.aload_n 0, 1) := by decide +kernel
theorem dX8_packetDown_61 : decode cX8_packetDown 61 = .ok (.getfield 7, 3) := by decide +kernel
theorem dX8_packetDown_64 : decode cX8_packetDown 64 = .ok (.iload 9, 2) := by decide +kernel
theorem dX8_packetDown_66 : decode cX8_packetDown 66 = .ok (.iconst 3, 1) := by decide +kernel
theorem dX8_packetDown_67 : decode cX8_packetDown 67 = .ok (.iadd, 1) := by decide +kernel
theorem dX8_packetDown_68 : decode cX8_packetDown 68 = .ok (.iload 5, 2) := by decide +kernel
theorem dX8_packetDown_70 : decode cX8_packetDown 70 = .ok (.iastore, 1) := by decide +kernel
theorem dX8_packetDown_71 : decode cX8_packetDown 71 = .ok (.aload_n 0, 1) := by decide +kernel
theorem dX8_packetDown_72 : decode cX8_packetDown 72 = .ok (.getfield 7, 3) := by decide +kernel
theorem dX8_packetDown_75 : decode cX8_packetDown 75 = .ok (.iload 9, 2) := by decide +kernel
theorem dX8_packetDown_77 : decode cX8_packetDown 77 = .ok (.iconst 4, 1) := by decide +kernel
theorem dX8_packetDown_78 : decode cX8_packetDown 78 = .ok (.iadd, 1) := by decide +kernel
theorem dX8_packetDown_79 : decode cX8_packetDown 79 = .ok (.iload 6, 2) := by decide +kernel
theorem dX8_packetDown_81 : decode cX8_packetDown 81 = .ok (.iastore, 1) := by decide +kernel
theorem dX8_packetDown_82 : decode cX8_packetDown 82 = .ok (.aload_n 0, 1) := by decide +kernel
theorem dX8_packetDown_83 : decode cX8_packetDown 83 = .ok (.getfield 7, 3) := by decide +kernel
theorem dX8_packetDown_86 : decode cX8_packetDown 86 = .ok (.iload 9, 2) := by decide +kernel
theorem dX8_packetDown_88 : decode cX8_packetDown 88 = .ok (.iconst 5, 1) := by decide +kernel
theorem dX8_packetDown_89 : decode cX8_packetDown 89 = .ok (.iadd, 1) := by decide +kernel
theorem dX8_packetDown_90 : decode cX8_packetDown 90 = .ok (.iload 7, 2) := by decide +kernel
theorem dX8_packetDown_92 : decode cX8_packetDown 92 = .ok (.iastore, 1) := by decide +kernel
theorem dX8_packetDown_93 : decode cX8_packetDown 93 = .ok (.aload_n 0, 1) := by decide +kernel
theorem dX8_packetDown_94 : decode cX8_packetDown 94 = .ok (.getfield 7, 3) := by decide +kernel
theorem dX8_packetDown_97 : decode cX8_packetDown 97 = .ok (.iload_n 1, 1) := by decide +kernel
theorem dX8_packetDown_98 : decode cX8_packetDown 98 = .ok (.bipush 6, 2) := by decide +kernel
theorem dX8_packetDown_100 : decode cX8_packetDown 100 = .ok (.invokestatic 115, 3) := by decide +kernel
theorem dX8_packetDown_103 : decode cX8_packetDown 103 = .ok (.dup2, 1) := by decide +kernel
theorem dX8_packetDown_104 : decode cX8_packetDown 104 = .ok (.iaload, 1) := by decide +kernel
theorem dX8_packetDown_105 : decode cX8_packetDown 105 = .ok (.iconst 1, 1) := by decide +kernel
theorem dX8_packetDown_106 : decode cX8_packetDown 106 = .ok (.iadd, 1) := by decide +kernel
theorem dX8_packetDown_107 : decode cX8_packetDown 107 = .ok (.iastore, 1) := by decide +kernel
theorem dX8_packetDown_108 : decode cX8_packetDown 108 = .ok (.return_, 1) := by decide +kernel
theorem dX8_packetUp_0 : decode cX8_packetUp 0 = .ok (.aload_n 0, 1) := by decide +kernel
theorem dX8_packetUp_1 : decode cX8_packetUp 1 = .ok (.iload_n 1, 1) := by decide +kernel
theorem dX8_packetUp_2 : decode cX8_packetUp 2 = .ok (.bipush 7, 2) := by decide +kernel
theorem dX8_packetUp_4 : decode cX8_packetUp 4 = .ok (.invokevirtual 166, 3) := by decide +kernel
theorem dX8_packetUp_7 : decode cX8_packetUp 7 = .ok (.istore 4, 2) := by decide +kernel
theorem dX8_packetUp_9 : decode cX8_packetUp 9 = .ok (.iload 4, 2) := by decide +kernel
theorem dX8_packetUp_11 : decode cX8_packetUp 11 = .ok (.bipush 16, 2) := by decide +kernel
theorem dX8_packetUp_13 : decode cX8_packetUp 13 = .ok (.if_icmp .ge 56, 3) := by decide +kernel
theorem dX8_packetUp_16 : decode cX8_packetUp 16 = .ok (.aload_n 0, 1) := by decide +kernel
theorem dX8_packetUp_17 : decode cX8_packetUp 17 = .ok (.getfield 7, 3) := by decide +kernel
theorem dX8_packetUp_20 : decode cX8_packetUp 20 = .ok (.iload_n 1, 1) := by decide +kernel
theorem dX8_packetUp_21 : decode cX8_packetUp 21 = .ok (.sipush 249, 3) := by decide +kernel
theorem dX8_packetUp_24 : decode cX8_packetUp 24 = .ok (.iconst 2, 1) := by decide +kernel
theorem dX8_packetUp_25 : decode cX8_packetUp 25 = .ok (.iload 4, 2) := by decide +kernel
theorem dX8_packetUp_27 : decode cX8_packetUp 27 = .ok (.imul, 1) := by decide +kernel
theorem dX8_packetUp_28 : decode cX8_packetUp 28 = .ok (.iadd, 1) := by decide +kernel
theorem dX8_packetUp_29 : decode cX8_packetUp 29 = .ok (.invokestatic 115, 3) := by decide +kernel
theorem dX8_packetUp_32 : decode cX8_packetUp 32 = .ok (.iload_n 2, 1) := by decide +kernel
theorem dX8_packetUp_33 : decode cX8_packetUp 33 = .ok (.iastore, 1) := by decide +kernel
theorem dX8_packetUp_34 : decode cX8_packetUp 34 = .ok (.aload_n 0, 1) := by decide +kernel
theorem dX8_packetUp_35 : decode cX8_packetUp 35 = .ok (.getfield 7, 3) := by decide +kernel
theorem dX8_packetUp_38 : decode cX8_packetUp 38 = .ok (.iload_n 1, 1) := by decide +kernel
theorem dX8_packetUp_39 : decode cX8_packetUp 39 = .ok (.sipush 249, 3) := by decide +kernel
theorem dX8_packetUp_42 : decode cX8_packetUp 42 = .ok (.iconst 2, 1) := by decide +kernel
theorem dX8_packetUp_43 : decode cX8_packetUp 43 = .ok (.iload 4, 2) := by decide +kernel
theorem dX8_packetUp_45 : decode cX8_packetUp 45 = .ok (.imul, 1) := by decide +kernel
theorem dX8_packetUp_46 : decode cX8_packetUp 46 = .ok (.iadd, 1) := by decide +kernel
theorem dX8_packetUp_47 : decode cX8_packetUp 47 = .ok (.iconst 1, 1) := by decide +kernel
theorem dX8_packetUp_48 : decode cX8_packetUp 48 = .ok (.iadd, 1) := by decide +kernel
theorem dX8_packetUp_49 : decode cX8_packetUp 49 = .ok (.invokestatic 115, 3) := by decide +kernel
theorem dX8_packetUp_52 : decode cX8_packetUp 52 = .ok (.iload_n 3, 1) := by decide +kernel
theorem dX8_packetUp_53 : decode cX8_packetUp 53 = .ok (.iastore, 1) := by decide +kernel
theorem dX8_packetUp_54 : decode cX8_packetUp 54 = .ok (.aload_n 0, 1) := by decide +kernel
theorem dX8_packetUp_55 : decode cX8_packetUp 55 = .ok (.getfield 7, 3) := by decide +kernel
theorem dX8_packetUp_58 : decode cX8_packetUp 58 = .ok (.iload_n 1, 1) := by decide +kernel
theorem dX8_packetUp_59 : decode cX8_packetUp 59 = .ok (.bipush 7, 2) := by decide +kernel
theorem dX8_packetUp_61 : decode cX8_packetUp 61 = .ok (.invokestatic 115, 3) := by decide +kernel
theorem dX8_packetUp_64 : decode cX8_packetUp 64 = .ok (.dup2, 1) := by decide +kernel
theorem dX8_packetUp_65 : decode cX8_packetUp 65 = .ok (.iaload, 1) := by decide +kernel
theorem dX8_packetUp_66 : decode cX8_packetUp 66 = .ok (.iconst 1, 1) := by decide +kernel
theorem dX8_packetUp_67 : decode cX8_packetUp 67 = .ok (.iadd, 1) := by decide +kernel
theorem dX8_packetUp_68 : decode cX8_packetUp 68 = .ok (.iastore, 1) := by decide +kernel
theorem dX8_packetUp_69 : decode cX8_packetUp 69 = .ok (.return_, 1) := by decide +kernel
theorem dX8_sends_0 : decode cX8_sends 0 = .ok (.iload_n 1, 1) := by decide +kernel
theorem dX8_sends_1 : decode cX8_sends 1 = .ok (.bipush 81, 2) := by decide +kernel
theorem dX8_sends_3 : decode cX8_sends 3 = .ok (.bipush 6, 2) := by decide +kernel
theorem dX8_sends_5 : decode cX8_sends 5 = .ok (.iload_n 2, 1) := by decide +kernel
theorem dX8_sends_6 : decode cX8_sends 6 = .ok (.imul, 1) := by decide +kernel
theorem dX8_sends_7 : decode cX8_sends 7 = .ok (.iadd, 1) := by decide +kernel
theorem dX8_sends_8 : decode cX8_sends 8 = .ok (.invokestatic 115, 3) := by decide +kernel
theorem dX8_sends_11 : decode cX8_sends 11 = .ok (.istore_n 3, 1) := by decide +kernel
theorem dX8_sends_12 : decode cX8_sends 12 = .ok (.aload_n 0, 1) := by decide +kernel
theorem dX8_sends_13 : decode cX8_sends 13 = .ok (.getfield 7, 3) := by decide +kernel
theorem dX8_sends_16 : decode cX8_sends 16 = .ok (.iload_n 3, 1) := by decide +kernel
theorem dX8_sends_17 : decode cX8_sends 17 = .ok (.iconst 5, 1) := by decide +kernel
theorem dX8_sends_18 : decode cX8_sends 18 = .ok (.iadd, 1) := by decide +kernel
theorem dX8_sends_19 : decode cX8_sends 19 = .ok (.iaload, 1) := by decide +kernel
theorem dX8_sends_20 : decode cX8_sends 20 = .ok (.iconst 1, 1) := by decide +kernel
theorem dX8_sends_21 : decode cX8_sends 21 = .ok (.if_icmp .ne 25, 3) := by decide +kernel
theorem dX8_sends_24 : decode cX8_sends 24 = .ok (.aload_n 0, 1) := by decide +kernel
theorem dX8_sends_25 : decode cX8_sends 25 = .ok (.iload_n 1, 1) := by decide +kernel
theorem dX8_sends_26 : decode cX8_sends 26 = .ok (.iconst 3, 1) := by decide +kernel
theorem dX8_sends_27 : decode cX8_sends 27 = .ok (.aload_n 0, 1) := by decide +kernel
theorem dX8_sends_28 : decode cX8_sends 28 = .ok (.getfield 7, 3) := by decide +kernel
theorem dX8_sends_31 : decode cX8_sends 31 = .ok (.iload_n 3, 1) := by decide +kernel
theorem dX8_sends_32 : decode cX8_sends 32 = .ok (.iaload, 1) := by decide +kernel
theorem dX8_sends_33 : decode cX8_sends 33 = .ok (.bipush (-4), 2) := by decide +kernel
theorem dX8_sends_35 : decode cX8_sends 35 = .ok (.bipush (-4), 2) := by decide +kernel
theorem dX8_sends_37 : decode cX8_sends 37 = .ok (.bipush (-4), 2) := by decide +kernel
theorem dX8_sends_39 : decode cX8_sends 39 = .ok (.iconst 0, 1) := by decide +kernel
theorem dX8_sends_40 : decode cX8_sends 40 = .ok (.invokevirtual 169, 3) := by decide +kernel
theorem dX8_sends_43 : decode cX8_sends 43 = .ok (.goto 47, 3) := by decide +kernel
theorem dX8_sends_46 : decode cX8_sends 46 = .ok (.aload_n 0, 1) := by decide +kernel
theorem dX8_sends_47 : decode cX8_sends 47 = .ok (.iload_n 1, 1) := by decide +kernel
theorem dX8_sends_48 : decode cX8_sends 48 = .ok (.iconst 0, 1) := by decide +kernel
theorem dX8_sends_49 : decode cX8_sends 49 = .ok (.aload_n 0, 1) := by decide +kernel
theorem dX8_sends_50 : decode cX8_sends 50 = .ok (.getfield 7, 3) := by decide +kernel
theorem dX8_sends_53 : decode cX8_sends 53 = .ok (.iload_n 3, 1) := by decide +kernel
theorem dX8_sends_54 : decode cX8_sends 54 = .ok (.iaload, 1) := by decide +kernel
theorem dX8_sends_55 : decode cX8_sends 55 = .ok (.aload_n 0, 1) := by decide +kernel
theorem dX8_sends_56 : decode cX8_sends 56 = .ok (.getfield 7, 3) := by decide +kernel
theorem dX8_sends_59 : decode cX8_sends 59 = .ok (.iload_n 3, 1) := by decide +kernel
theorem dX8_sends_60 : decode cX8_sends 60 = .ok (.iconst 1, 1) := by decide +kernel
theorem dX8_sends_61 : decode cX8_sends 61 = .ok (.iadd, 1) := by decide +kernel
theorem dX8_sends_62 : decode cX8_sends 62 = .ok (.iaload, 1) := by decide +kernel
theorem dX8_sends_63 : decode cX8_sends 63 = .ok (.aload_n 0, 1) := by decide +kernel
theorem dX8_sends_64 : decode cX8_sends 64 = .ok (.getfield 7, 3) := by decide +kernel
theorem dX8_sends_67 : decode cX8_sends 67 = .ok (.iload_n 3, 1) := by decide +kernel
theorem dX8_sends_68 : decode cX8_sends 68 = .ok (.iconst 2, 1) := by decide +kernel
theorem dX8_sends_69 : decode cX8_sends 69 = .ok (.iadd, 1) := by decide +kernel
theorem dX8_sends_70 : decode cX8_sends 70 = .ok (.iaload, 1) := by decide +kernel
theorem dX8_sends_71 : decode cX8_sends 71 = .ok (.aload_n 0, 1) := by decide +kernel
theorem dX8_sends_72 : decode cX8_sends 72 = .ok (.getfield 7, 3) := by decide +kernel
theorem dX8_sends_75 : decode cX8_sends 75 = .ok (.iload_n 3, 1) := by decide +kernel
theorem dX8_sends_76 : decode cX8_sends 76 = .ok (.iconst 3, 1) := by decide +kernel
theorem dX8_sends_77 : decode cX8_sends 77 = .ok (.iadd, 1) := by decide +kernel
theorem dX8_sends_78 : decode cX8_sends 78 = .ok (.iaload, 1) := by decide +kernel
theorem dX8_sends_79 : decode cX8_sends 79 = .ok (.aload_n 0, 1) := by decide +kernel
theorem dX8_sends_80 : decode cX8_sends 80 = .ok (.getfield 7, 3) := by decide +kernel
theorem dX8_sends_83 : decode cX8_sends 83 = .ok (.iload_n 3, 1) := by decide +kernel
theorem dX8_sends_84 : decode cX8_sends 84 = .ok (.iconst 4, 1) := by decide +kernel
theorem dX8_sends_85 : decode cX8_sends 85 = .ok (.iadd, 1) := by decide +kernel
theorem dX8_sends_86 : decode cX8_sends 86 = .ok (.iaload, 1) := by decide +kernel
theorem dX8_sends_87 : decode cX8_sends 87 = .ok (.invokevirtual 169, 3) := by decide +kernel
theorem dX8_sends_90 : decode cX8_sends 90 = .ok (.return_, 1) := by decide +kernel
theorem dX8_flies_0 : decode cX8_flies 0 = .ok (.aload_n 0, 1) := by decide +kernel
theorem dX8_flies_1 : decode cX8_flies 1 = .ok (.iload_n 1, 1) := by decide +kernel
theorem dX8_flies_2 : decode cX8_flies 2 = .ok (.iconst 4, 1) := by decide +kernel
theorem dX8_flies_3 : decode cX8_flies 3 = .ok (.invokevirtual 166, 3) := by decide +kernel
theorem dX8_flies_6 : decode cX8_flies 6 = .ok (.istore 6, 2) := by decide +kernel
theorem dX8_flies_8 : decode cX8_flies 8 = .ok (.iload_n 1, 1) := by decide +kernel
theorem dX8_flies_9 : decode cX8_flies 9 = .ok (.bipush 81, 2) := by decide +kernel
theorem dX8_flies_11 : decode cX8_flies 11 = .ok (.bipush 6, 2) := by decide +kernel
theorem dX8_flies_13 : decode cX8_flies 13 = .ok (.iload 6, 2) := by decide +kernel
theorem dX8_flies_15 : decode cX8_flies 15 = .ok (.imul, 1) := by decide +kernel
theorem dX8_flies_16 : decode cX8_flies 16 = .ok (.iadd, 1) := by decide +kernel
theorem dX8_flies_17 : decode cX8_flies 17 = .ok (.invokestatic 115, 3) := by decide +kernel
theorem dX8_flies_20 : decode cX8_flies 20 = .ok (.istore 7, 2) := by decide +kernel
theorem dX8_flies_22 : decode cX8_flies 22 = .ok (.aload_n 0, 1) := by decide +kernel
theorem dX8_flies_23 : decode cX8_flies 23 = .ok (.getfield 7, 3) := by decide +kernel
theorem dX8_flies_26 : decode cX8_flies 26 = .ok (.iload 7, 2) := by decide +kernel
theorem dX8_flies_28 : decode cX8_flies 28 = .ok (.aload_n 0, 1) := by decide +kernel
theorem dX8_flies_29 : decode cX8_flies 29 = .ok (.iload_n 1, 1) := by decide +kernel
theorem dX8_flies_30 : decode cX8_flies 30 = .ok (.bipush 9, 2) := by decide +kernel
theorem dX8_flies_32 : decode cX8_flies 32 = .ok (.invokevirtual 166, 3) := by decide +kernel
theorem dX8_flies_35 : decode cX8_flies 35 = .ok (.iastore, 1) := by decide +kernel
theorem dX8_flies_36 : decode cX8_flies 36 = .ok (.aload_n 0, 1) := by decide +kernel
theorem dX8_flies_37 : decode cX8_flies 37 = .ok (.getfield 7, 3) := by decide +kernel
theorem dX8_flies_40 : decode cX8_flies 40 = .ok (.iload 7, 2) := by decide +kernel
theorem dX8_flies_42 : decode cX8_flies 42 = .ok (.iconst 1, 1) := by decide +kernel
theorem dX8_flies_43 : decode cX8_flies 43 = .ok (.iadd, 1) := by decide +kernel
theorem dX8_flies_44 : decode cX8_flies 44 = .ok (.iload_n 2, 1) := by decide +kernel
theorem dX8_flies_45 : decode cX8_flies 45 = .ok (.iastore, 1) := by decide +kernel
theorem dX8_flies_46 : decode cX8_flies 46 = .ok (.aload_n 0, 1) := by decide +kernel
theorem dX8_flies_47 : decode cX8_flies 47 = .ok (.getfield 7, 3) := by decide +kernel
theorem dX8_flies_50 : decode cX8_flies 50 = .ok (.iload 7, 2) := by decide +kernel
theorem dX8_flies_52 : decode cX8_flies 52 = .ok (.iconst 2, 1) := by decide +kernel
theorem dX8_flies_53 : decode cX8_flies 53 = .ok (.iadd, 1) := by decide +kernel
theorem dX8_flies_54 : decode cX8_flies 54 = .ok (.iload_n 3, 1) := by decide +kernel
theorem dX8_flies_55 : decode cX8_flies 55 = .ok (.iastore, 1) := by decide +kernel
theorem dX8_flies_56 : decode cX8_flies 56 = .ok (.aload_n 0, 1) := by decide +kernel
theorem dX8_flies_57 : decode cX8_flies 57 = .ok (.getfield 7, 3) := by decide +kernel
theorem dX8_flies_60 : decode cX8_flies 60 = .ok (.iload 7, 2) := by decide +kernel
theorem dX8_flies_62 : decode cX8_flies 62 = .ok (.iconst 3, 1) := by decide +kernel
theorem dX8_flies_63 : decode cX8_flies 63 = .ok (.iadd, 1) := by decide +kernel
theorem dX8_flies_64 : decode cX8_flies 64 = .ok (.iload 4, 2) := by decide +kernel
theorem dX8_flies_66 : decode cX8_flies 66 = .ok (.iastore, 1) := by decide +kernel
theorem dX8_flies_67 : decode cX8_flies 67 = .ok (.aload_n 0, 1) := by decide +kernel
theorem dX8_flies_68 : decode cX8_flies 68 = .ok (.getfield 7, 3) := by decide +kernel
theorem dX8_flies_71 : decode cX8_flies 71 = .ok (.iload 7, 2) := by decide +kernel
theorem dX8_flies_73 : decode cX8_flies 73 = .ok (.iconst 4, 1) := by decide +kernel
theorem dX8_flies_74 : decode cX8_flies 74 = .ok (.iadd, 1) := by decide +kernel
theorem dX8_flies_75 : decode cX8_flies 75 = .ok (.iload 5, 2) := by decide +kernel
theorem dX8_flies_77 : decode cX8_flies 77 = .ok (.iastore, 1) := by decide +kernel
theorem dX8_flies_78 : decode cX8_flies 78 = .ok (.aload_n 0, 1) := by decide +kernel
theorem dX8_flies_79 : decode cX8_flies 79 = .ok (.getfield 7, 3) := by decide +kernel
theorem dX8_flies_82 : decode cX8_flies 82 = .ok (.iload 7, 2) := by decide +kernel
theorem dX8_flies_84 : decode cX8_flies 84 = .ok (.iconst 5, 1) := by decide +kernel
theorem dX8_flies_85 : decode cX8_flies 85 = .ok (.iadd, 1) := by decide +kernel
theorem dX8_flies_86 : decode cX8_flies 86 = .ok (.iconst 0, 1) := by decide +kernel
theorem dX8_flies_87 : decode cX8_flies 87 = .ok (.iastore, 1) := by decide +kernel
theorem dX8_flies_88 : decode cX8_flies 88 = .ok (.aload_n 0, 1) := by decide +kernel
theorem dX8_flies_89 : decode cX8_flies 89 = .ok (.getfield 7, 3) := by decide +kernel
theorem dX8_flies_92 : decode cX8_flies 92 = .ok (.iload_n 1, 1) := by decide +kernel
theorem dX8_flies_93 : decode cX8_flies 93 = .ok (.bipush 9, 2) := by decide +kernel
theorem dX8_flies_95 : decode cX8_flies 95 = .ok (.invokestatic 115, 3) := by decide +kernel
theorem dX8_flies_98 : decode cX8_flies 98 = .ok (.dup2, 1) := by decide +kernel
theorem dX8_flies_99 : decode cX8_flies 99 = .ok (.iaload, 1) := by decide +kernel
theorem dX8_flies_100 : decode cX8_flies 100 = .ok (.iconst 1, 1) := by decide +kernel
theorem dX8_flies_101 : decode cX8_flies 101 = .ok (.iadd, 1) := by decide +kernel
theorem dX8_flies_102 : decode cX8_flies 102 = .ok (.iastore, 1) := by decide +kernel
theorem dX8_flies_103 : decode cX8_flies 103 = .ok (.aload_n 0, 1) := by decide +kernel
theorem dX8_flies_104 : decode cX8_flies 104 = .ok (.getfield 7, 3) := by decide +kernel
theorem dX8_flies_107 : decode cX8_flies 107 = .ok (.iload_n 1, 1) := by decide +kernel
theorem dX8_flies_108 : decode cX8_flies 108 = .ok (.iconst 4, 1) := by decide +kernel
theorem dX8_flies_109 : decode cX8_flies 109 = .ok (.invokestatic 115, 3) := by decide +kernel
theorem dX8_flies_112 : decode cX8_flies 112 = .ok (.dup2, 1) := by decide +kernel
theorem dX8_flies_113 : decode cX8_flies 113 = .ok (.iaload, 1) := by decide +kernel
theorem dX8_flies_114 : decode cX8_flies 114 = .ok (.iconst 1, 1) := by decide +kernel
theorem dX8_flies_115 : decode cX8_flies 115 = .ok (.iadd, 1) := by decide +kernel
theorem dX8_flies_116 : decode cX8_flies 116 = .ok (.iastore, 1) := by decide +kernel
theorem dX8_flies_117 : decode cX8_flies 117 = .ok (.aload_n 0, 1) := by decide +kernel
theorem dX8_flies_118 : decode cX8_flies 118 = .ok (.iload_n 1, 1) := by decide +kernel
theorem dX8_flies_119 : decode cX8_flies 119 = .ok (.iload 6, 2) := by decide +kernel
theorem dX8_flies_121 : decode cX8_flies 121 = .ok (.invokevirtual 173, 3) := by decide +kernel
theorem dX8_flies_124 : decode cX8_flies 124 = .ok (.return_, 1) := by decide +kernel
theorem dX8_queueGoesOn_0 : decode cX8_queueGoesOn 0 = .ok (.aload_n 0, 1) := by decide +kernel
theorem dX8_queueGoesOn_1 : decode cX8_queueGoesOn 1 = .ok (.iload_n 1, 1) := by decide +kernel
theorem dX8_queueGoesOn_2 : decode cX8_queueGoesOn 2 = .ok (.invokevirtual 177, 3) := by decide +kernel
theorem dX8_queueGoesOn_5 : decode cX8_queueGoesOn 5 = .ok (.ifCond .eq 137, 3) := by decide +kernel
theorem dX8_queueGoesOn_8 : decode cX8_queueGoesOn 8 = .ok (.aload_n 0, 1) := by decide +kernel
theorem dX8_queueGoesOn_9 : decode cX8_queueGoesOn 9 = .ok (.iload_n 1, 1) := by decide +kernel
theorem dX8_queueGoesOn_10 : decode cX8_queueGoesOn 10 = .ok (.iconst 4, 1) := by decide +kernel
theorem dX8_queueGoesOn_11 : decode cX8_queueGoesOn 11 = .ok (.invokevirtual 166, 3) := by decide +kernel
theorem dX8_queueGoesOn_14 : decode cX8_queueGoesOn 14 = .ok (.iconst 4, 1) := by decide +kernel
theorem dX8_queueGoesOn_15 : decode cX8_queueGoesOn 15 = .ok (.if_icmp .ge 127, 3) := by decide +kernel
theorem dX8_queueGoesOn_18 : decode cX8_queueGoesOn 18 = .ok (.aload_n 0, 1) := by decide +kernel
theorem dX8_queueGoesOn_19 : decode cX8_queueGoesOn 19 = .ok (.iload_n 1, 1) := by decide +kernel
theorem dX8_queueGoesOn_20 : decode cX8_queueGoesOn 20 = .ok (.iconst 5, 1) := by decide +kernel
theorem dX8_queueGoesOn_21 : decode cX8_queueGoesOn 21 = .ok (.invokevirtual 166, 3) := by decide +kernel
theorem dX8_queueGoesOn_24 : decode cX8_queueGoesOn 24 = .ok (.ifCond .le 118, 3) := by decide +kernel
theorem dX8_queueGoesOn_27 : decode cX8_queueGoesOn 27 = .ok (.iload_n 1, 1) := by decide +kernel
theorem dX8_queueGoesOn_28 : decode cX8_queueGoesOn 28 = .ok (.bipush 105, 2) := by decide +kernel
theorem dX8_queueGoesOn_30 : decode cX8_queueGoesOn 30 = .ok (.invokestatic 115, 3) := by decide +kernel
theorem dX8_queueGoesOn_33 : decode cX8_queueGoesOn 33 = .ok (.istore_n 2, 1) := by decide +kernel
theorem dX8_queueGoesOn_34 : decode cX8_queueGoesOn 34 = .ok (.aload_n 0, 1) := by decide +kernel
theorem dX8_queueGoesOn_35 : decode cX8_queueGoesOn 35 = .ok (.getfield 7, 3) := by decide +kernel
theorem dX8_queueGoesOn_38 : decode cX8_queueGoesOn 38 = .ok (.iload_n 2, 1) := by decide +kernel
theorem dX8_queueGoesOn_39 : decode cX8_queueGoesOn 39 = .ok (.iaload, 1) := by decide +kernel
theorem dX8_queueGoesOn_40 : decode cX8_queueGoesOn 40 = .ok (.istore_n 3, 1) := by decide +kernel
theorem dX8_queueGoesOn_41 : decode cX8_queueGoesOn 41 = .ok (.aload_n 0, 1) := by decide +kernel
theorem dX8_queueGoesOn_42 : decode cX8_queueGoesOn 42 = .ok (.getfield 7, 3) := by decide +kernel
theorem dX8_queueGoesOn_45 : decode cX8_queueGoesOn 45 = .ok (.iload_n 2, 1) := by decide +kernel
theorem dX8_queueGoesOn_46 : decode cX8_queueGoesOn 46 = .ok (.iconst 1, 1) := by decide +kernel
theorem dX8_queueGoesOn_47 : decode cX8_queueGoesOn 47 = .ok (.iadd, 1) := by decide +kernel
theorem dX8_queueGoesOn_48 : decode cX8_queueGoesOn 48 = .ok (.iaload, 1) := by decide +kernel
theorem dX8_queueGoesOn_49 : decode cX8_queueGoesOn 49 = .ok (.istore 4, 2) := by decide +kernel
theorem dX8_queueGoesOn_51 : decode cX8_queueGoesOn 51 = .ok (.aload_n 0, 1) := by decide +kernel
theorem dX8_queueGoesOn_52 : decode cX8_queueGoesOn 52 = .ok (.getfield 7, 3) := by decide +kernel
theorem dX8_queueGoesOn_55 : decode cX8_queueGoesOn 55 = .ok (.iload_n 2, 1) := by decide +kernel
theorem dX8_queueGoesOn_56 : decode cX8_queueGoesOn 56 = .ok (.iconst 2, 1) := by decide +kernel
theorem dX8_queueGoesOn_57 : decode cX8_queueGoesOn 57 = .ok (.iadd, 1) := by decide +kernel
theorem dX8_queueGoesOn_58 : decode cX8_queueGoesOn 58 = .ok (.iaload, 1) := by decide +kernel
theorem dX8_queueGoesOn_59 : decode cX8_queueGoesOn 59 = .ok (.istore 5, 2) := by decide +kernel
theorem dX8_queueGoesOn_61 : decode cX8_queueGoesOn 61 = .ok (.aload_n 0, 1) := by decide +kernel
theorem dX8_queueGoesOn_62 : decode cX8_queueGoesOn 62 = .ok (.getfield 7, 3) := by decide +kernel
theorem dX8_queueGoesOn_65 : decode cX8_queueGoesOn 65 = .ok (.iload_n 2, 1) := by decide +kernel
theorem dX8_queueGoesOn_66 : decode cX8_queueGoesOn 66 = .ok (.iconst 3, 1) := by decide +kernel
theorem dX8_queueGoesOn_67 : decode cX8_queueGoesOn 67 = .ok (.iadd, 1) := by decide +kernel
theorem dX8_queueGoesOn_68 : decode cX8_queueGoesOn 68 = .ok (.iaload, 1) := by decide +kernel
theorem dX8_queueGoesOn_69 : decode cX8_queueGoesOn 69 = .ok (.istore 6, 2) := by decide +kernel
theorem dX8_queueGoesOn_71 : decode cX8_queueGoesOn 71 = .ok (.aload_n 0, 1) := by decide +kernel
theorem dX8_queueGoesOn_72 : decode cX8_queueGoesOn 72 = .ok (.getfield 7, 3) := by decide +kernel
theorem dX8_queueGoesOn_75 : decode cX8_queueGoesOn 75 = .ok (.iload_n 1, 1) := by decide +kernel
theorem dX8_queueGoesOn_76 : decode cX8_queueGoesOn 76 = .ok (.iconst 5, 1) := by decide +kernel
theorem dX8_queueGoesOn_77 : decode cX8_queueGoesOn 77 = .ok (.invokestatic 115, 3) := by decide +kernel
theorem dX8_queueGoesOn_80 : decode cX8_queueGoesOn 80 = .ok (.dup2, 1) := by decide +kernel
theorem dX8_queueGoesOn_81 : decode cX8_queueGoesOn 81 = .ok (.iaload, 1) := by decide +kernel
theorem dX8_queueGoesOn_82 : decode cX8_queueGoesOn 82 = .ok (.iconst 1, 1) := by decide +kernel
theorem dX8_queueGoesOn_83 : decode cX8_queueGoesOn 83 = .ok (.isub, 1) := by decide +kernel
theorem dX8_queueGoesOn_84 : decode cX8_queueGoesOn 84 = .ok (.iastore, 1) := by decide +kernel
theorem dX8_queueGoesOn_85 : decode cX8_queueGoesOn 85 = .ok (.iconst 0, 1) := by decide +kernel
theorem dX8_queueGoesOn_86 : decode cX8_queueGoesOn 86 = .ok (.istore 7, 2) := by decide +kernel
theorem dX8_queueGoesOn_88 : decode cX8_queueGoesOn 88 = .ok (.iload 7, 2) := by decide +kernel
theorem dX8_queueGoesOn_90 : decode cX8_queueGoesOn 90 = .ok (.iconst 4, 1) := by decide +kernel
theorem dX8_queueGoesOn_91 : decode cX8_queueGoesOn 91 = .ok (.aload_n 0, 1) := by decide +kernel
theorem dX8_queueGoesOn_92 : decode cX8_queueGoesOn 92 = .ok (.iload_n 1, 1) := by decide +kernel
theorem dX8_queueGoesOn_93 : decode cX8_queueGoesOn 93 = .ok (.iconst 5, 1) := by decide +kernel
theorem dX8_queueGoesOn_94 : decode cX8_queueGoesOn 94 = .ok (.invokevirtual 166, 3) := by decide +kernel
theorem dX8_queueGoesOn_97 : decode cX8_queueGoesOn 97 = .ok (.imul, 1) := by decide +kernel
theorem dX8_queueGoesOn_98 : decode cX8_queueGoesOn 98 = .ok (.if_icmp .ge 29, 3) := by decide +kernel
theorem dX8_queueGoesOn_101 : decode cX8_queueGoesOn 101 = .ok (.aload_n 0, 1) := by decide +kernel
theorem dX8_queueGoesOn_102 : decode cX8_queueGoesOn 102 = .ok (.getfield 7, 3) := by decide +kernel
theorem dX8_queueGoesOn_105 : decode cX8_queueGoesOn 105 = .ok (.iload_n 2, 1) := by decide +kernel
theorem dX8_queueGoesOn_106 : decode cX8_queueGoesOn 106 = .ok (.iload 7, 2) := by decide +kernel
theorem dX8_queueGoesOn_108 : decode cX8_queueGoesOn 108 = .ok (.iadd, 1) := by decide +kernel
theorem dX8_queueGoesOn_109 : decode cX8_queueGoesOn 109 = .ok (.aload_n 0, 1) := by decide +kernel
theorem dX8_queueGoesOn_110 : decode cX8_queueGoesOn 110 = .ok (.getfield 7, 3) := by decide +kernel
theorem dX8_queueGoesOn_113 : decode cX8_queueGoesOn 113 = .ok (.iload_n 2, 1) := by decide +kernel
theorem dX8_queueGoesOn_114 : decode cX8_queueGoesOn 114 = .ok (.iload 7, 2) := by decide +kernel
theorem dX8_queueGoesOn_116 : decode cX8_queueGoesOn 116 = .ok (.iadd, 1) := by decide +kernel
theorem dX8_queueGoesOn_117 : decode cX8_queueGoesOn 117 = .ok (.iconst 4, 1) := by decide +kernel
theorem dX8_queueGoesOn_118 : decode cX8_queueGoesOn 118 = .ok (.iadd, 1) := by decide +kernel
theorem dX8_queueGoesOn_119 : decode cX8_queueGoesOn 119 = .ok (.iaload, 1) := by decide +kernel
theorem dX8_queueGoesOn_120 : decode cX8_queueGoesOn 120 = .ok (.iastore, 1) := by decide +kernel
theorem dX8_queueGoesOn_121 : decode cX8_queueGoesOn 121 = .ok (.iinc 7 1, 3) := by decide +kernel
theorem dX8_queueGoesOn_124 : decode cX8_queueGoesOn 124 = .ok (.goto (-36), 3) := by decide +kernel
theorem dX8_queueGoesOn_127 : decode cX8_queueGoesOn 127 = .ok (.aload_n 0, 1) := by decide +kernel
theorem dX8_queueGoesOn_128 : decode cX8_queueGoesOn 128 = .ok (.iload_n 1, 1) := by decide +kernel
theorem dX8_queueGoesOn_129 : decode cX8_queueGoesOn 129 = .ok (.iload_n 3, 1) := by decide +kernel
theorem dX8_queueGoesOn_130 : decode cX8_queueGoesOn 130 = .ok (.iload 4, 2) := by decide +kernel
theorem dX8_queueGoesOn_132 : decode cX8_queueGoesOn 132 = .ok (.iload 5, 2) := by decide +kernel
theorem dX8_queueGoesOn_134 : decode cX8_queueGoesOn 134 = .ok (.iload 6, 2) := by decide +kernel
theorem dX8_queueGoesOn_136 : decode cX8_queueGoesOn 136 = .ok (.invokevirtual 180, 3) := by decide +kernel
theorem dX8_queueGoesOn_139 : decode cX8_queueGoesOn 139 = .ok (.goto (-139), 3) := by decide +kernel
theorem dX8_queueGoesOn_142 : decode cX8_queueGoesOn 142 = .ok (.return_, 1) := by decide +kernel
theorem dX8_goes_0 : decode cX8_goes 0 = .ok (.aload_n 0, 1) := by decide +kernel
theorem dX8_goes_1 : decode cX8_goes 1 = .ok (.getfield 7, 3) := by decide +kernel
theorem dX8_goes_4 : decode cX8_goes 4 = .ok (.iconst 2, 1) := by decide +kernel
theorem dX8_goes_5 : decode cX8_goes 5 = .ok (.dup2, 1) := by decide +kernel
theorem dX8_goes_6 : decode cX8_goes 6 = .ok (.iaload, 1) := by decide +kernel
theorem dX8_goes_7 : decode cX8_goes 7 = .ok (.iconst 1, 1) := by decide +kernel
theorem dX8_goes_8 : decode cX8_goes 8 = .ok (.iadd, 1) := by decide +kernel
theorem dX8_goes_9 : decode cX8_goes 9 = .ok (.iastore, 1) := by decide +kernel
theorem dX8_goes_10 : decode cX8_goes 10 = .ok (.iload_n 3, 1) := by decide +kernel
theorem dX8_goes_11 : decode cX8_goes 11 = .ok (.ifCond .ne 40, 3) := by decide +kernel
theorem dX8_goes_14 : decode cX8_goes 14 = .ok (.aload_n 0, 1) := by decide +kernel
theorem dX8_goes_15 : decode cX8_goes 15 = .ok (.iload_n 1, 1) := by decide +kernel
theorem dX8_goes_16 : decode cX8_goes 16 = .ok (.invokevirtual 177, 3) := by decide +kernel
theorem dX8_goes_19 : decode cX8_goes 19 = .ok (.ifCond .eq 19, 3) := by decide +kernel
theorem dX8_goes_22 : decode cX8_goes 22 = .ok (.aload_n 0, 1) := by decide +kernel
theorem dX8_goes_23 : decode cX8_goes 23 = .ok (.iload_n 1, 1) := by decide +kernel
theorem dX8_goes_24 : decode cX8_goes 24 = .ok (.iconst 0, 1) := by decide +kernel
theorem dX8_goes_25 : decode cX8_goes 25 = .ok (.iconst 0, 1) := by decide +kernel
theorem dX8_goes_26 : decode cX8_goes 26 = .ok (.iload_n 2, 1) := by decide +kernel
theorem dX8_goes_27 : decode cX8_goes 27 = .ok (.iconst 0, 1) := by decide +kernel
theorem dX8_goes_28 : decode cX8_goes 28 = .ok (.iload 4, 2) := by decide +kernel
theorem dX8_goes_30 : decode cX8_goes 30 = .ok (.iload 5, 2) := by decide +kernel
theorem dX8_goes_32 : decode cX8_goes 32 = .ok (.invokevirtual 169, 3) := by decide +kernel
theorem dX8_goes_35 : decode cX8_goes 35 = .ok (.goto 152, 3) := by decide +kernel
theorem dX8_goes_38 : decode cX8_goes 38 = .ok (.aload_n 0, 1) := by decide +kernel
theorem dX8_goes_39 : decode cX8_goes 39 = .ok (.getfield 7, 3) := by decide +kernel
theorem dX8_goes_42 : decode cX8_goes 42 = .ok (.iconst 3, 1) := by decide +kernel
theorem dX8_goes_43 : decode cX8_goes 43 = .ok (.dup2, 1) := by decide +kernel
theorem dX8_goes_44 : decode cX8_goes 44 = .ok (.iaload, 1) := by decide +kernel
theorem dX8_goes_45 : decode cX8_goes 45 = .ok (.iconst 1, 1) := by decide +kernel
theorem dX8_goes_46 : decode cX8_goes 46 = .ok (.iadd, 1) := by decide +kernel
theorem dX8_goes_47 : decode cX8_goes 47 = .ok (.iastore, 1) := by decide +kernel
theorem dX8_goes_48 : decode cX8_goes 48 = .ok (.goto 139, 3) := by decide +kernel
theorem dX8_goes_51 : decode cX8_goes 51 = .ok (.aload_n 0, 1) := by decide +kernel
theorem dX8_goes_52 : decode cX8_goes 52 = .ok (.iload_n 1, 1) := by decide +kernel
theorem dX8_goes_53 : decode cX8_goes 53 = .ok (.invokevirtual 177, 3) := by decide +kernel
theorem dX8_goes_56 : decode cX8_goes 56 = .ok (.ifCond .eq 36, 3) := by decide +kernel
theorem dX8_goes_59 : decode cX8_goes 59 = .ok (.aload_n 0, 1) := by decide +kernel
theorem dX8_goes_60 : decode cX8_goes 60 = .ok (.iload_n 1, 1) := by decide +kernel
theorem dX8_goes_61 : decode cX8_goes 61 = .ok (.iconst 5, 1) := by decide +kernel
theorem dX8_goes_62 : decode cX8_goes 62 = .ok (.invokevirtual 166, 3) := by decide +kernel
theorem dX8_goes_65 : decode cX8_goes 65 = .ok (.ifCond .ne 27, 3) := by decide +kernel
theorem dX8_goes_68 : decode cX8_goes 68 = .ok (.aload_n 0, 1) := by decide +kernel
theorem dX8_goes_69 : decode cX8_goes 69 = .ok (.iload_n 1, 1) := by decide +kernel
theorem dX8_goes_70 : decode cX8_goes 70 = .ok (.iconst 4, 1) := by decide +kernel
theorem dX8_goes_71 : decode cX8_goes 71 = .ok (.invokevirtual 166, 3) := by decide +kernel
theorem dX8_goes_74 : decode cX8_goes 74 = .ok (.iconst 4, 1) := by decide +kernel
theorem dX8_goes_75 : decode cX8_goes 75 = .ok (.if_icmp .ge 17, 3) := by decide +kernel
theorem dX8_goes_78 : decode cX8_goes 78 = .ok (.aload_n 0, 1) := by decide +kernel
theorem dX8_goes_79 : decode cX8_goes 79 = .ok (.iload_n 1, 1) := by decide +kernel
theorem dX8_goes_80 : decode cX8_goes 80 = .ok (.iload_n 2, 1) := by decide +kernel
theorem dX8_goes_81 : decode cX8_goes 81 = .ok (.iload_n 3, 1) := by decide +kernel
theorem dX8_goes_82 : decode cX8_goes 82 = .ok (.iload 4, 2) := by decide +kernel
theorem dX8_goes_84 : decode cX8_goes 84 = .ok (.iload 5, 2) := by decide +kernel
theorem dX8_goes_86 : decode cX8_goes 86 = .ok (.invokevirtual 180, 3) := by decide +kernel
theorem dX8_goes_89 : decode cX8_goes 89 = .ok (.goto 98, 3) := by decide +kernel
theorem dX8_goes_92 : decode cX8_goes 92 = .ok (.aload_n 0, 1) := by decide +kernel
theorem dX8_goes_93 : decode cX8_goes 93 = .ok (.iload_n 1, 1) := by decide +kernel
theorem dX8_goes_94 : decode cX8_goes 94 = .ok (.iconst 5, 1) := by decide +kernel
theorem dX8_goes_95 : decode cX8_goes 95 = .ok (.invokevirtual 166, 3) := by decide +kernel
theorem dX8_goes_98 : decode cX8_goes 98 = .ok (.bipush 12, 2) := by decide +kernel
theorem dX8_goes_100 : decode cX8_goes 100 = .ok (.if_icmp .ge 77, 3) := by decide +kernel
theorem dX8_goes_103 : decode cX8_goes 103 = .ok (.iload_n 1, 1) := by decide +kernel
theorem dX8_goes_104 : decode cX8_goes 104 = .ok (.bipush 105, 2) := by decide +kernel
theorem dX8_goes_106 : decode cX8_goes 106 = .ok (.iconst 4, 1) := by decide +kernel
theorem dX8_goes_107 : decode cX8_goes 107 = .ok (.aload_n 0, 1) := by decide +kernel
theorem dX8_goes_108 : decode cX8_goes 108 = .ok (.iload_n 1, 1) := by decide +kernel
theorem dX8_goes_109 : decode cX8_goes 109 = .ok (.iconst 5, 1) := by decide +kernel
theorem dX8_goes_110 : decode cX8_goes 110 = .ok (.invokevirtual 166, 3) := by decide +kernel
theorem dX8_goes_113 : decode cX8_goes 113 = .ok (.imul, 1) := by decide +kernel
theorem dX8_goes_114 : decode cX8_goes 114 = .ok (.iadd, 1) := by decide +kernel
theorem dX8_goes_115 : decode cX8_goes 115 = .ok (.invokestatic 115, 3) := by decide +kernel
theorem dX8_goes_118 : decode cX8_goes 118 = .ok (.istore 6, 2) := by decide +kernel
theorem dX8_goes_120 : decode cX8_goes 120 = .ok (.aload_n 0, 1) := by decide +kernel
theorem dX8_goes_121 : decode cX8_goes 121 = .ok (.getfield 7, 3) := by decide +kernel
theorem dX8_goes_124 : decode cX8_goes 124 = .ok (.iload 6, 2) := by decide +kernel
theorem dX8_goes_126 : decode cX8_goes 126 = .ok (.iload_n 2, 1) := by decide +kernel
theorem dX8_goes_127 : decode cX8_goes 127 = .ok (.iastore, 1) := by decide +kernel
theorem dX8_goes_128 : decode cX8_goes 128 = .ok (.aload_n 0, 1) := by decide +kernel
theorem dX8_goes_129 : decode cX8_goes 129 = .ok (.getfield 7, 3) := by decide +kernel
theorem dX8_goes_132 : decode cX8_goes 132 = .ok (.iload 6, 2) := by decide +kernel
theorem dX8_goes_134 : decode cX8_goes 134 = .ok (.iconst 1, 1) := by decide +kernel
theorem dX8_goes_135 : decode cX8_goes 135 = .ok (.iadd, 1) := by decide +kernel
theorem dX8_goes_136 : decode cX8_goes 136 = .ok (.iload_n 3, 1) := by decide +kernel
theorem dX8_goes_137 : decode cX8_goes 137 = .ok (.iastore, 1) := by decide +kernel
theorem dX8_goes_138 : decode cX8_goes 138 = .ok (.aload_n 0, 1) := by decide +kernel
theorem dX8_goes_139 : decode cX8_goes 139 = .ok (.getfield 7, 3) := by decide +kernel
theorem dX8_goes_142 : decode cX8_goes 142 = .ok (.iload 6, 2) := by decide +kernel
theorem dX8_goes_144 : decode cX8_goes 144 = .ok (.iconst 2, 1) := by decide +kernel
theorem dX8_goes_145 : decode cX8_goes 145 = .ok (.iadd, 1) := by decide +kernel
theorem dX8_goes_146 : decode cX8_goes 146 = .ok (.iload 4, 2) := by decide +kernel
theorem dX8_goes_148 : decode cX8_goes 148 = .ok (.iastore, 1) := by decide +kernel
theorem dX8_goes_149 : decode cX8_goes 149 = .ok (.aload_n 0, 1) := by decide +kernel
theorem dX8_goes_150 : decode cX8_goes 150 = .ok (.getfield 7, 3) := by decide +kernel
theorem dX8_goes_153 : decode cX8_goes 153 = .ok (.iload 6, 2) := by decide +kernel
theorem dX8_goes_155 : decode cX8_goes 155 = .ok (.iconst 3, 1) := by decide +kernel
theorem dX8_goes_156 : decode cX8_goes 156 = .ok (.iadd, 1) := by decide +kernel
theorem dX8_goes_157 : decode cX8_goes 157 = .ok (.iload 5, 2) := by decide +kernel
theorem dX8_goes_159 : decode cX8_goes 159 = .ok (.iastore, 1) := by decide +kernel
theorem dX8_goes_160 : decode cX8_goes 160 = .ok (.aload_n 0, 1) := by decide +kernel
theorem dX8_goes_161 : decode cX8_goes 161 = .ok (.getfield 7, 3) := by decide +kernel
theorem dX8_goes_164 : decode cX8_goes 164 = .ok (.iload_n 1, 1) := by decide +kernel
theorem dX8_goes_165 : decode cX8_goes 165 = .ok (.iconst 5, 1) := by decide +kernel
theorem dX8_goes_166 : decode cX8_goes 166 = .ok (.invokestatic 115, 3) := by decide +kernel
theorem dX8_goes_169 : decode cX8_goes 169 = .ok (.dup2, 1) := by decide +kernel
theorem dX8_goes_170 : decode cX8_goes 170 = .ok (.iaload, 1) := by decide +kernel
theorem dX8_goes_171 : decode cX8_goes 171 = .ok (.iconst 1, 1) := by decide +kernel
theorem dX8_goes_172 : decode cX8_goes 172 = .ok (.iadd, 1) := by decide +kernel
theorem dX8_goes_173 : decode cX8_goes 173 = .ok (.iastore, 1) := by decide +kernel
theorem dX8_goes_174 : decode cX8_goes 174 = .ok (.goto 13, 3) := by decide +kernel
theorem dX8_goes_177 : decode cX8_goes 177 = .ok (.aload_n 0, 1) := by decide +kernel
theorem dX8_goes_178 : decode cX8_goes 178 = .ok (.getfield 7, 3) := by decide +kernel
theorem dX8_goes_181 : decode cX8_goes 181 = .ok (.iconst 3, 1) := by decide +kernel
theorem dX8_goes_182 : decode cX8_goes 182 = .ok (.dup2, 1) := by decide +kernel
theorem dX8_goes_183 : decode cX8_goes 183 = .ok (.iaload, 1) := by decide +kernel
theorem dX8_goes_184 : decode cX8_goes 184 = .ok (.iconst 1, 1) := by decide +kernel
theorem dX8_goes_185 : decode cX8_goes 185 = .ok (.iadd, 1) := by decide +kernel
theorem dX8_goes_186 : decode cX8_goes 186 = .ok (.iastore, 1) := by decide +kernel
theorem dX8_goes_187 : decode cX8_goes 187 = .ok (.return_, 1) := by decide +kernel
theorem dX8_widest_0 : decode cX8_widest 0 = .ok (.bipush (-4), 2) := by decide +kernel
theorem dX8_widest_2 : decode cX8_widest 2 = .ok (.istore_n 3, 1) := by decide +kernel
theorem dX8_widest_3 : decode cX8_widest 3 = .ok (.iconst 0, 1) := by decide +kernel
theorem dX8_widest_4 : decode cX8_widest 4 = .ok (.istore 4, 2) := by decide +kernel
theorem dX8_widest_6 : decode cX8_widest 6 = .ok (.iload 4, 2) := by decide +kernel
theorem dX8_widest_8 : decode cX8_widest 8 = .ok (.aload_n 0, 1) := by decide +kernel
theorem dX8_widest_9 : decode cX8_widest 9 = .ok (.iload_n 1, 1) := by decide +kernel
theorem dX8_widest_10 : decode cX8_widest 10 = .ok (.iconst 3, 1) := by decide +kernel
theorem dX8_widest_11 : decode cX8_widest 11 = .ok (.invokevirtual 166, 3) := by decide +kernel
theorem dX8_widest_14 : decode cX8_widest 14 = .ok (.if_icmp .ge 72, 3) := by decide +kernel
theorem dX8_widest_17 : decode cX8_widest 17 = .ok (.iload_n 1, 1) := by decide +kernel
theorem dX8_widest_18 : decode cX8_widest 18 = .ok (.bipush 45, 2) := by decide +kernel
theorem dX8_widest_20 : decode cX8_widest 20 = .ok (.bipush 6, 2) := by decide +kernel
theorem dX8_widest_22 : decode cX8_widest 22 = .ok (.iload 4, 2) := by decide +kernel
theorem dX8_widest_24 : decode cX8_widest 24 = .ok (.imul, 1) := by decide +kernel
theorem dX8_widest_25 : decode cX8_widest 25 = .ok (.iadd, 1) := by decide +kernel
theorem dX8_widest_26 : decode cX8_widest 26 = .ok (.invokestatic 115, 3) := by decide +kernel
theorem dX8_widest_29 : decode cX8_widest 29 = .ok (.istore 5, 2) := by decide +kernel
theorem dX8_widest_31 : decode cX8_widest 31 = .ok (.aload_n 0, 1) := by decide +kernel
theorem dX8_widest_32 : decode cX8_widest 32 = .ok (.getfield 7, 3) := by decide +kernel
theorem dX8_widest_35 : decode cX8_widest 35 = .ok (.iload 5, 2) := by decide +kernel
theorem dX8_widest_37 : decode cX8_widest 37 = .ok (.iconst 5, 1) := by decide +kernel
theorem dX8_widest_38 : decode cX8_widest 38 = .ok (.iadd, 1) := by decide +kernel
theorem dX8_widest_39 : decode cX8_widest 39 = .ok (.iaload, 1) := by decide +kernel
theorem dX8_widest_40 : decode cX8_widest 40 = .ok (.ifCond .ne 38, 3) := by decide +kernel
theorem dX8_widest_43 : decode cX8_widest 43 = .ok (.aload_n 0, 1) := by decide +kernel
theorem dX8_widest_44 : decode cX8_widest 44 = .ok (.iload 5, 2) := by decide +kernel
theorem dX8_widest_46 : decode cX8_widest 46 = .ok (.aload_n 2, 1) := by decide +kernel
theorem dX8_widest_47 : decode cX8_widest 47 = .ok (.invokevirtual 184, 3) := by decide +kernel
theorem dX8_widest_50 : decode cX8_widest 50 = .ok (.ifCond .eq 28, 3) := by decide +kernel
theorem dX8_widest_53 : decode cX8_widest 53 = .ok (.aload_n 0, 1) := by decide +kernel
theorem dX8_widest_54 : decode cX8_widest 54 = .ok (.getfield 7, 3) := by decide +kernel
theorem dX8_widest_57 : decode cX8_widest 57 = .ok (.iload 5, 2) := by decide +kernel
theorem dX8_widest_59 : decode cX8_widest 59 = .ok (.iconst 4, 1) := by decide +kernel
theorem dX8_widest_60 : decode cX8_widest 60 = .ok (.iadd, 1) := by decide +kernel
theorem dX8_widest_61 : decode cX8_widest 61 = .ok (.iaload, 1) := by decide +kernel
theorem dX8_widest_62 : decode cX8_widest 62 = .ok (.iload_n 3, 1) := by decide +kernel
theorem dX8_widest_63 : decode cX8_widest 63 = .ok (.if_icmp .le 15, 3) := by decide +kernel
theorem dX8_widest_66 : decode cX8_widest 66 = .ok (.aload_n 0, 1) := by decide +kernel
theorem dX8_widest_67 : decode cX8_widest 67 = .ok (.getfield 7, 3) := by decide +kernel
theorem dX8_widest_70 : decode cX8_widest 70 = .ok (.iload 5, 2) := by decide +kernel
theorem dX8_widest_72 : decode cX8_widest 72 = .ok (.iconst 4, 1) := by decide +kernel
theorem dX8_widest_73 : decode cX8_widest 73 = .ok (.iadd, 1) := by decide +kernel
theorem dX8_widest_74 : decode cX8_widest 74 = .ok (.iaload, 1) := by decide +kernel
theorem dX8_widest_75 : decode cX8_widest 75 = .ok (.goto 4, 3) := by decide +kernel
theorem dX8_widest_78 : decode cX8_widest 78 = .ok (.iload_n 3, 1) := by decide +kernel
theorem dX8_widest_79 : decode cX8_widest 79 = .ok (.istore_n 3, 1) := by decide +kernel
theorem dX8_widest_80 : decode cX8_widest 80 = .ok (.iinc 4 1, 3) := by decide +kernel
theorem dX8_widest_83 : decode cX8_widest 83 = .ok (.goto (-77), 3) := by decide +kernel
theorem dX8_widest_86 : decode cX8_widest 86 = .ok (.iload_n 3, 1) := by decide +kernel
theorem dX8_widest_87 : decode cX8_widest 87 = .ok (.ireturn, 1) := by decide +kernel
theorem dX8_keeps_0 : decode cX8_keeps 0 = .ok (.aload_n 0, 1) := by decide +kernel
theorem dX8_keeps_1 : decode cX8_keeps 1 = .ok (.getfield 7, 3) := by decide +kernel
theorem dX8_keeps_4 : decode cX8_keeps 4 = .ok (.aload_n 1, 1) := by decide +kernel
theorem dX8_keeps_5 : decode cX8_keeps 5 = .ok (.invokestatic 137, 3) := by decide +kernel
theorem dX8_keeps_8 : decode cX8_keeps 8 = .ok (.istore 5, 2) := by decide +kernel
theorem dX8_keeps_10 : decode cX8_keeps 10 = .ok (.iload 5, 2) := by decide +kernel
theorem dX8_keeps_12 : decode cX8_keeps 12 = .ok (.bipush (-4), 2) := by decide +kernel
theorem dX8_keeps_14 : decode cX8_keeps 14 = .ok (.if_icmp .eq 9, 3) := by decide +kernel
theorem dX8_keeps_17 : decode cX8_keeps 17 = .ok (.aload_n 0, 1) := by decide +kernel
theorem dX8_keeps_18 : decode cX8_keeps 18 = .ok (.iload 5, 2) := by decide +kernel
theorem dX8_keeps_20 : decode cX8_keeps 20 = .ok (.invokevirtual 188, 3) := by decide +kernel
theorem dX8_keeps_23 : decode cX8_keeps 23 = .ok (.iload_n 2, 1) := by decide +kernel
theorem dX8_keeps_24 : decode cX8_keeps 24 = .ok (.ifCond .le 32, 3) := by decide +kernel
theorem dX8_keeps_27 : decode cX8_keeps 27 = .ok (.aload_n 0, 1) := by decide +kernel
theorem dX8_keeps_28 : decode cX8_keeps 28 = .ok (.getfield 7, 3) := by decide +kernel
theorem dX8_keeps_31 : decode cX8_keeps 31 = .ok (.bipush 6, 2) := by decide +kernel
theorem dX8_keeps_33 : decode cX8_keeps 33 = .ok (.iaload, 1) := by decide +kernel
theorem dX8_keeps_34 : decode cX8_keeps 34 = .ok (.bipush 12, 2) := by decide +kernel
theorem dX8_keeps_36 : decode cX8_keeps 36 = .ok (.if_icmp .ne 8, 3) := by decide +kernel
theorem dX8_keeps_39 : decode cX8_keeps 39 = .ok (.aload_n 0, 1) := by decide +kernel
theorem dX8_keeps_40 : decode cX8_keeps 40 = .ok (.iconst 0, 1) := by decide +kernel
theorem dX8_keeps_41 : decode cX8_keeps 41 = .ok (.invokevirtual 188, 3) := by decide +kernel
theorem dX8_keeps_44 : decode cX8_keeps 44 = .ok (.aload_n 0, 1) := by decide +kernel
theorem dX8_keeps_45 : decode cX8_keeps 45 = .ok (.getfield 7, 3) := by decide +kernel
theorem dX8_keeps_48 : decode cX8_keeps 48 = .ok (.aload_n 1, 1) := by decide +kernel
theorem dX8_keeps_49 : decode cX8_keeps 49 = .ok (.iload_n 2, 1) := by decide +kernel
theorem dX8_keeps_50 : decode cX8_keeps 50 = .ok (.iload_n 3, 1) := by decide +kernel
theorem dX8_keeps_51 : decode cX8_keeps 51 = .ok (.iload 4, 2) := by decide +kernel
theorem dX8_keeps_53 : decode cX8_keeps 53 = .ok (.invokestatic 141, 3) := by decide +kernel
theorem dX8_keeps_56 : decode cX8_keeps 56 = .ok (.return_, 1) := by decide +kernel
theorem dX8_keptGoes_0 : decode cX8_keptGoes 0 = .ok (.bipush 8, 2) := by decide +kernel
theorem dX8_keptGoes_2 : decode cX8_keptGoes 2 = .ok (.bipush 7, 2) := by decide +kernel
theorem dX8_keptGoes_4 : decode cX8_keptGoes 4 = .ok (.iload_n 1, 1) := by decide +kernel
theorem dX8_keptGoes_5 : decode cX8_keptGoes 5 = .ok (.imul, 1) := by decide +kernel
theorem dX8_keptGoes_6 : decode cX8_keptGoes 6 = .ok (.iadd, 1) := by decide +kernel
theorem dX8_keptGoes_7 : decode cX8_keptGoes 7 = .ok (.istore_n 2, 1) := by decide +kernel
theorem dX8_keptGoes_8 : decode cX8_keptGoes 8 = .ok (.iload_n 2, 1) := by decide +kernel
theorem dX8_keptGoes_9 : decode cX8_keptGoes 9 = .ok (.bipush 8, 2) := by decide +kernel
theorem dX8_keptGoes_11 : decode cX8_keptGoes 11 = .ok (.bipush 7, 2) := by decide +kernel
theorem dX8_keptGoes_13 : decode cX8_keptGoes 13 = .ok (.aload_n 0, 1) := by decide +kernel
theorem dX8_keptGoes_14 : decode cX8_keptGoes 14 = .ok (.getfield 7, 3) := by decide +kernel
theorem dX8_keptGoes_17 : decode cX8_keptGoes 17 = .ok (.bipush 6, 2) := by decide +kernel
theorem dX8_keptGoes_19 : decode cX8_keptGoes 19 = .ok (.iaload, 1) := by decide +kernel
theorem dX8_keptGoes_20 : decode cX8_keptGoes 20 = .ok (.iconst 1, 1) := by decide +kernel
theorem dX8_keptGoes_21 : decode cX8_keptGoes 21 = .ok (.isub, 1) := by decide +kernel
theorem dX8_keptGoes_22 : decode cX8_keptGoes 22 = .ok (.imul, 1) := by decide +kernel
theorem dX8_keptGoes_23 : decode cX8_keptGoes 23 = .ok (.iadd, 1) := by decide +kernel
theorem dX8_keptGoes_24 : decode cX8_keptGoes 24 = .ok (.if_icmp .ge 24, 3) := by decide +kernel
theorem dX8_keptGoes_27 : decode cX8_keptGoes 27 = .ok (.aload_n 0, 1) := by decide +kernel
theorem dX8_keptGoes_28 : decode cX8_keptGoes 28 = .ok (.getfield 7, 3) := by decide +kernel
theorem dX8_keptGoes_31 : decode cX8_keptGoes 31 = .ok (.iload_n 2, 1) := by decide +kernel
theorem dX8_keptGoes_32 : decode cX8_keptGoes 32 = .ok (.aload_n 0, 1) := by decide +kernel
theorem dX8_keptGoes_33 : decode cX8_keptGoes 33 = .ok (.getfield 7, 3) := by decide +kernel
theorem dX8_keptGoes_36 : decode cX8_keptGoes 36 = .ok (.iload_n 2, 1) := by decide +kernel
theorem dX8_keptGoes_37 : decode cX8_keptGoes 37 = .ok (.bipush 7, 2) := by decide +kernel
theorem dX8_keptGoes_39 : decode cX8_keptGoes 39 = .ok (.iadd, 1) := by decide +kernel
theorem dX8_keptGoes_40 : decode cX8_keptGoes 40 = .ok (.iaload, 1) := by decide +kernel
theorem dX8_keptGoes_41 : decode cX8_keptGoes 41 = .ok (.iastore, 1) := by decide +kernel
theorem dX8_keptGoes_42 : decode cX8_keptGoes 42 = .ok (.iinc 2 1, 3) := by decide +kernel
theorem dX8_keptGoes_45 : decode cX8_keptGoes 45 = .ok (.goto (-37), 3) := by decide +kernel
theorem dX8_keptGoes_48 : decode cX8_keptGoes 48 = .ok (.aload_n 0, 1) := by decide +kernel
theorem dX8_keptGoes_49 : decode cX8_keptGoes 49 = .ok (.getfield 7, 3) := by decide +kernel
theorem dX8_keptGoes_52 : decode cX8_keptGoes 52 = .ok (.bipush 6, 2) := by decide +kernel
theorem dX8_keptGoes_54 : decode cX8_keptGoes 54 = .ok (.dup2, 1) := by decide +kernel
theorem dX8_keptGoes_55 : decode cX8_keptGoes 55 = .ok (.iaload, 1) := by decide +kernel
theorem dX8_keptGoes_56 : decode cX8_keptGoes 56 = .ok (.iconst 1, 1) := by decide +kernel
theorem dX8_keptGoes_57 : decode cX8_keptGoes 57 = .ok (.isub, 1) := by decide +kernel
theorem dX8_keptGoes_58 : decode cX8_keptGoes 58 = .ok (.iastore, 1) := by decide +kernel
theorem dX8_keptGoes_59 : decode cX8_keptGoes 59 = .ok (.return_, 1) := by decide +kernel
theorem dX8_isAhead_0 : decode cX8_isAhead 0 = .ok (.iconst 0, 1) := by decide +kernel
theorem dX8_isAhead_1 : decode cX8_isAhead 1 = .ok (.istore_n 3, 1) := by decide +kernel
theorem dX8_isAhead_2 : decode cX8_isAhead 2 = .ok (.iload_n 3, 1) := by decide +kernel
theorem dX8_isAhead_3 : decode cX8_isAhead 3 = .ok (.iconst 5, 1) := by decide +kernel
theorem dX8_isAhead_4 : decode cX8_isAhead 4 = .ok (.if_icmp .ge 18, 3) := by decide +kernel
theorem dX8_isAhead_7 : decode cX8_isAhead 7 = .ok (.aload_n 1, 1) := by decide +kernel
theorem dX8_isAhead_8 : decode cX8_isAhead 8 = .ok (.iload_n 3, 1) := by decide +kernel
theorem dX8_isAhead_9 : decode cX8_isAhead 9 = .ok (.iaload, 1) := by decide +kernel
theorem dX8_isAhead_10 : decode cX8_isAhead 10 = .ok (.aload_n 2, 1) := by decide +kernel
theorem dX8_isAhead_11 : decode cX8_isAhead 11 = .ok (.iload_n 3, 1) := by decide +kernel
theorem dX8_isAhead_12 : decode cX8_isAhead 12 = .ok (.iaload, 1) := by decide +kernel
theorem dX8_isAhead_13 : decode cX8_isAhead 13 = .ok (.if_icmp .ne 9, 3) := by decide +kernel
theorem dX8_isAhead_16 : decode cX8_isAhead 16 = .ok (.iinc 3 1, 3) := by decide +kernel
theorem dX8_isAhead_19 : decode cX8_isAhead 19 = .ok (.goto (-17), 3) := by decide +kernel
theorem dX8_isAhead_22 : decode cX8_isAhead 22 = .ok (.iload_n 3, 1) := by decide +kernel
theorem dX8_isAhead_23 : decode cX8_isAhead 23 = .ok (.iconst 5, 1) := by decide +kernel
theorem dX8_isAhead_24 : decode cX8_isAhead 24 = .ok (.if_icmp .ge 16, 3) := by decide +kernel
theorem dX8_isAhead_27 : decode cX8_isAhead 27 = .ok (.aload_n 1, 1) := by decide +kernel
theorem dX8_isAhead_28 : decode cX8_isAhead 28 = .ok (.iload_n 3, 1) := by decide +kernel
theorem dX8_isAhead_29 : decode cX8_isAhead 29 = .ok (.iaload, 1) := by decide +kernel
theorem dX8_isAhead_30 : decode cX8_isAhead 30 = .ok (.aload_n 2, 1) := by decide +kernel
theorem dX8_isAhead_31 : decode cX8_isAhead 31 = .ok (.iload_n 3, 1) := by decide +kernel
theorem dX8_isAhead_32 : decode cX8_isAhead 32 = .ok (.iaload, 1) := by decide +kernel
theorem dX8_isAhead_33 : decode cX8_isAhead 33 = .ok (.if_icmp .ge 7, 3) := by decide +kernel
theorem dX8_isAhead_36 : decode cX8_isAhead 36 = .ok (.iconst 1, 1) := by decide +kernel
theorem dX8_isAhead_37 : decode cX8_isAhead 37 = .ok (.goto 4, 3) := by decide +kernel
theorem dX8_isAhead_40 : decode cX8_isAhead 40 = .ok (.iconst 0, 1) := by decide +kernel
theorem dX8_isAhead_41 : decode cX8_isAhead 41 = .ok (.ireturn, 1) := by decide +kernel
theorem dX8_takesShare_0 : decode cX8_takesShare 0 = .ok (.iload_n 1, 1) := by decide +kernel
theorem dX8_takesShare_1 : decode cX8_takesShare 1 = .ok (.bipush 45, 2) := by decide +kernel
theorem dX8_takesShare_3 : decode cX8_takesShare 3 = .ok (.bipush 6, 2) := by decide +kernel
theorem dX8_takesShare_5 : decode cX8_takesShare 5 = .ok (.iload_n 2, 1) := by decide +kernel
theorem dX8_takesShare_6 : decode cX8_takesShare 6 = .ok (.imul, 1) := by decide +kernel
theorem dX8_takesShare_7 : decode cX8_takesShare 7 = .ok (.iadd, 1) := by decide +kernel
theorem dX8_takesShare_8 : decode cX8_takesShare 8 = .ok (.invokestatic 115, 3) := by decide +kernel
theorem dX8_takesShare_11 : decode cX8_takesShare 11 = .ok (.istore 4, 2) := by decide +kernel
theorem dX8_takesShare_13 : decode cX8_takesShare 13 = .ok (.aload_n 3, 1) := by decide +kernel
theorem dX8_takesShare_14 : decode cX8_takesShare 14 = .ok (.iconst 0, 1) := by decide +kernel
theorem dX8_takesShare_15 : decode cX8_takesShare 15 = .ok (.aload_n 0, 1) := by decide +kernel
theorem dX8_takesShare_16 : decode cX8_takesShare 16 = .ok (.getfield 7, 3) := by decide +kernel
theorem dX8_takesShare_19 : decode cX8_takesShare 19 = .ok (.iload 4, 2) := by decide +kernel
theorem dX8_takesShare_21 : decode cX8_takesShare 21 = .ok (.iconst 5, 1) := by decide +kernel
theorem dX8_takesShare_22 : decode cX8_takesShare 22 = .ok (.iadd, 1) := by decide +kernel
theorem dX8_takesShare_23 : decode cX8_takesShare 23 = .ok (.iaload, 1) := by decide +kernel
theorem dX8_takesShare_24 : decode cX8_takesShare 24 = .ok (.iastore, 1) := by decide +kernel
theorem dX8_takesShare_25 : decode cX8_takesShare 25 = .ok (.iconst 0, 1) := by decide +kernel
theorem dX8_takesShare_26 : decode cX8_takesShare 26 = .ok (.istore 5, 2) := by decide +kernel
theorem dX8_takesShare_28 : decode cX8_takesShare 28 = .ok (.iload 5, 2) := by decide +kernel
theorem dX8_takesShare_30 : decode cX8_takesShare 30 = .ok (.iconst 4, 1) := by decide +kernel
theorem dX8_takesShare_31 : decode cX8_takesShare 31 = .ok (.if_icmp .ge 25, 3) := by decide +kernel
theorem dX8_takesShare_34 : decode cX8_takesShare 34 = .ok (.aload_n 3, 1) := by decide +kernel
theorem dX8_takesShare_35 : decode cX8_takesShare 35 = .ok (.iconst 1, 1) := by decide +kernel
theorem dX8_takesShare_36 : decode cX8_takesShare 36 = .ok (.iload 5, 2) := by decide +kernel
theorem dX8_takesShare_38 : decode cX8_takesShare 38 = .ok (.iadd, 1) := by decide +kernel
theorem dX8_takesShare_39 : decode cX8_takesShare 39 = .ok (.aload_n 0, 1) := by decide +kernel
theorem dX8_takesShare_40 : decode cX8_takesShare 40 = .ok (.getfield 7, 3) := by decide +kernel
theorem dX8_takesShare_43 : decode cX8_takesShare 43 = .ok (.iload 4, 2) := by decide +kernel
theorem dX8_takesShare_45 : decode cX8_takesShare 45 = .ok (.iload 5, 2) := by decide +kernel
theorem dX8_takesShare_47 : decode cX8_takesShare 47 = .ok (.iadd, 1) := by decide +kernel
theorem dX8_takesShare_48 : decode cX8_takesShare 48 = .ok (.iaload, 1) := by decide +kernel
theorem dX8_takesShare_49 : decode cX8_takesShare 49 = .ok (.iastore, 1) := by decide +kernel
theorem dX8_takesShare_50 : decode cX8_takesShare 50 = .ok (.iinc 5 1, 3) := by decide +kernel
theorem dX8_takesShare_53 : decode cX8_takesShare 53 = .ok (.goto (-25), 3) := by decide +kernel
theorem dX8_takesShare_56 : decode cX8_takesShare 56 = .ok (.return_, 1) := by decide +kernel
theorem dX8_nextShare_0 : decode cX8_nextShare 0 = .ok (.iconst 0, 1) := by decide +kernel
theorem dX8_nextShare_1 : decode cX8_nextShare 1 = .ok (.istore_n 1, 1) := by decide +kernel
theorem dX8_nextShare_2 : decode cX8_nextShare 2 = .ok (.iload_n 1, 1) := by decide +kernel
theorem dX8_nextShare_3 : decode cX8_nextShare 3 = .ok (.iconst 5, 1) := by decide +kernel
theorem dX8_nextShare_4 : decode cX8_nextShare 4 = .ok (.if_icmp .ge 21, 3) := by decide +kernel
theorem dX8_nextShare_7 : decode cX8_nextShare 7 = .ok (.aload_n 0, 1) := by decide +kernel
theorem dX8_nextShare_8 : decode cX8_nextShare 8 = .ok (.getfield 38, 3) := by decide +kernel
theorem dX8_nextShare_11 : decode cX8_nextShare 11 = .ok (.iload_n 1, 1) := by decide +kernel
theorem dX8_nextShare_12 : decode cX8_nextShare 12 = .ok (.aload_n 0, 1) := by decide +kernel
theorem dX8_nextShare_13 : decode cX8_nextShare 13 = .ok (.getfield 32, 3) := by decide +kernel
theorem dX8_nextShare_16 : decode cX8_nextShare 16 = .ok (.iload_n 1, 1) := by decide +kernel
theorem dX8_nextShare_17 : decode cX8_nextShare 17 = .ok (.iaload, 1) := by decide +kernel
theorem dX8_nextShare_18 : decode cX8_nextShare 18 = .ok (.iastore, 1) := by decide +kernel
theorem dX8_nextShare_19 : decode cX8_nextShare 19 = .ok (.iinc 1 1, 3) := by decide +kernel
theorem dX8_nextShare_22 : decode cX8_nextShare 22 = .ok (.goto (-20), 3) := by decide +kernel
theorem dX8_nextShare_25 : decode cX8_nextShare 25 = .ok (.iconst 0, 1) := by decide +kernel
theorem dX8_nextShare_26 : decode cX8_nextShare 26 = .ok (.istore_n 1, 1) := by decide +kernel
theorem dX8_nextShare_27 : decode cX8_nextShare 27 = .ok (.iconst 0, 1) := by decide +kernel
theorem dX8_nextShare_28 : decode cX8_nextShare 28 = .ok (.istore_n 2, 1) := by decide +kernel
theorem dX8_nextShare_29 : decode cX8_nextShare 29 = .ok (.iload_n 2, 1) := by decide +kernel
theorem dX8_nextShare_30 : decode cX8_nextShare 30 = .ok (.bipush 6, 2) := by decide +kernel
theorem dX8_nextShare_32 : decode cX8_nextShare 32 = .ok (.if_icmp .ge 101, 3) := by decide +kernel
theorem dX8_nextShare_35 : decode cX8_nextShare 35 = .ok (.iconst 0, 1) := by decide +kernel
theorem dX8_nextShare_36 : decode cX8_nextShare 36 = .ok (.istore_n 3, 1) := by decide +kernel
theorem dX8_nextShare_37 : decode cX8_nextShare 37 = .ok (.aload_n 0, 1) := by decide +kernel
theorem dX8_nextShare_38 : decode cX8_nextShare 38 = .ok (.iload_n 2, 1) := by decide +kernel
theorem dX8_nextShare_39 : decode cX8_nextShare 39 = .ok (.iconst 0, 1) := by decide +kernel
theorem dX8_nextShare_40 : decode cX8_nextShare 40 = .ok (.invokevirtual 166, 3) := by decide +kernel
theorem dX8_nextShare_43 : decode cX8_nextShare 43 = .ok (.ifCond .eq 84, 3) := by decide +kernel
theorem dX8_nextShare_46 : decode cX8_nextShare 46 = .ok (.iload_n 3, 1) := by decide +kernel
theorem dX8_nextShare_47 : decode cX8_nextShare 47 = .ok (.aload_n 0, 1) := by decide +kernel
theorem dX8_nextShare_48 : decode cX8_nextShare 48 = .ok (.iload_n 2, 1) := by decide +kernel
theorem dX8_nextShare_49 : decode cX8_nextShare 49 = .ok (.iconst 3, 1) := by decide +kernel
theorem dX8_nextShare_50 : decode cX8_nextShare 50 = .ok (.invokevirtual 166, 3) := by decide +kernel
theorem dX8_nextShare_53 : decode cX8_nextShare 53 = .ok (.if_icmp .ge 74, 3) := by decide +kernel
theorem dX8_nextShare_56 : decode cX8_nextShare 56 = .ok (.aload_n 0, 1) := by decide +kernel
theorem dX8_nextShare_57 : decode cX8_nextShare 57 = .ok (.iload_n 2, 1) := by decide +kernel
theorem dX8_nextShare_58 : decode cX8_nextShare 58 = .ok (.iload_n 3, 1) := by decide +kernel
theorem dX8_nextShare_59 : decode cX8_nextShare 59 = .ok (.aload_n 0, 1) := by decide +kernel
theorem dX8_nextShare_60 : decode cX8_nextShare 60 = .ok (.getfield 35, 3) := by decide +kernel
theorem dX8_nextShare_63 : decode cX8_nextShare 63 = .ok (.invokevirtual 192, 3) := by decide +kernel
theorem dX8_nextShare_66 : decode cX8_nextShare 66 = .ok (.aload_n 0, 1) := by decide +kernel
theorem dX8_nextShare_67 : decode cX8_nextShare 67 = .ok (.getfield 35, 3) := by decide +kernel
theorem dX8_nextShare_70 : decode cX8_nextShare 70 = .ok (.iconst 0, 1) := by decide +kernel
theorem dX8_nextShare_71 : decode cX8_nextShare 71 = .ok (.iaload, 1) := by decide +kernel
theorem dX8_nextShare_72 : decode cX8_nextShare 72 = .ok (.ifCond .le 49, 3) := by decide +kernel
theorem dX8_nextShare_75 : decode cX8_nextShare 75 = .ok (.aload_n 0, 1) := by decide +kernel
theorem dX8_nextShare_76 : decode cX8_nextShare 76 = .ok (.aload_n 0, 1) := by decide +kernel
theorem dX8_nextShare_77 : decode cX8_nextShare 77 = .ok (.getfield 38, 3) := by decide +kernel
theorem dX8_nextShare_80 : decode cX8_nextShare 80 = .ok (.aload_n 0, 1) := by decide +kernel
theorem dX8_nextShare_81 : decode cX8_nextShare 81 = .ok (.getfield 35, 3) := by decide +kernel
theorem dX8_nextShare_84 : decode cX8_nextShare 84 = .ok (.invokevirtual 196, 3) := by decide +kernel
theorem dX8_nextShare_87 : decode cX8_nextShare 87 = .ok (.ifCond .eq 34, 3) := by decide +kernel
theorem dX8_nextShare_90 : decode cX8_nextShare 90 = .ok (.iload_n 1, 1) := by decide +kernel
theorem dX8_nextShare_91 : decode cX8_nextShare 91 = .ok (.ifCond .eq 18, 3) := by decide +kernel
theorem dX8_nextShare_94 : decode cX8_nextShare 94 = .ok (.aload_n 0, 1) := by decide +kernel
theorem dX8_nextShare_95 : decode cX8_nextShare 95 = .ok (.aload_n 0, 1) := by decide +kernel
theorem dX8_nextShare_96 : decode cX8_nextShare 96 = .ok (.getfield 35, 3) := by decide +kernel
theorem dX8_nextShare_99 : decode cX8_nextShare 99 = .ok (.aload_n 0, 1) := by decide +kernel
theorem dX8_nextShare_100 : decode cX8_nextShare 100 = .ok (.getfield 32, 3) := by decide +kernel
theorem dX8_nextShare_103 : decode cX8_nextShare 103 = .ok (.invokevirtual 196, 3) := by decide +kernel
theorem dX8_nextShare_106 : decode cX8_nextShare 106 = .ok (.ifCond .eq 15, 3) := by decide +kernel
theorem dX8_nextShare_109 : decode cX8_nextShare 109 = .ok (.aload_n 0, 1) := by decide +kernel
theorem dX8_nextShare_110 : decode cX8_nextShare 110 = .ok (.iload_n 2, 1) := by decide +kernel
theorem dX8_nextShare_111 : decode cX8_nextShare 111 = .ok (.iload_n 3, 1) := by decide +kernel
theorem dX8_nextShare_112 : decode cX8_nextShare 112 = .ok (.aload_n 0, 1) := by decide +kernel
theorem dX8_nextShare_113 : decode cX8_nextShare 113 = .ok (.getfield 32, 3) := by decide +kernel
theorem dX8_nextShare_116 : decode cX8_nextShare 116 = .ok (.invokevirtual 192, 3) := by decide +kernel
theorem dX8_nextShare_119 : decode cX8_nextShare 119 = .ok (.iconst 1, 1) := by decide +kernel
theorem dX8_nextShare_120 : decode cX8_nextShare 120 = .ok (.istore_n 1, 1) := by decide +kernel
theorem dX8_nextShare_121 : decode cX8_nextShare 121 = .ok (.iinc 3 1, 3) := by decide +kernel
theorem dX8_nextShare_124 : decode cX8_nextShare 124 = .ok (.goto (-87), 3) := by decide +kernel
theorem dX8_nextShare_127 : decode cX8_nextShare 127 = .ok (.iinc 2 1, 3) := by decide +kernel
theorem dX8_nextShare_130 : decode cX8_nextShare 130 = .ok (.goto (-101), 3) := by decide +kernel
theorem dX8_nextShare_133 : decode cX8_nextShare 133 = .ok (.iload_n 1, 1) := by decide +kernel
theorem dX8_nextShare_134 : decode cX8_nextShare 134 = .ok (.ireturn, 1) := by decide +kernel
theorem dX8_noShare_0 : decode cX8_noShare 0 = .ok (.iconst 0, 1) := by decide +kernel
theorem dX8_noShare_1 : decode cX8_noShare 1 = .ok (.istore_n 1, 1) := by decide +kernel
theorem dX8_noShare_2 : decode cX8_noShare 2 = .ok (.iload_n 1, 1) := by decide +kernel
theorem dX8_noShare_3 : decode cX8_noShare 3 = .ok (.iconst 5, 1) := by decide +kernel
theorem dX8_noShare_4 : decode cX8_noShare 4 = .ok (.if_icmp .ge 16, 3) := by decide +kernel
theorem dX8_noShare_7 : decode cX8_noShare 7 = .ok (.aload_n 0, 1) := by decide +kernel
theorem dX8_noShare_8 : decode cX8_noShare 8 = .ok (.getfield 32, 3) := by decide +kernel
theorem dX8_noShare_11 : decode cX8_noShare 11 = .ok (.iload_n 1, 1) := by decide +kernel
theorem dX8_noShare_12 : decode cX8_noShare 12 = .ok (.iconst 0, 1) := by decide +kernel
theorem dX8_noShare_13 : decode cX8_noShare 13 = .ok (.iastore, 1) := by decide +kernel
theorem dX8_noShare_14 : decode cX8_noShare 14 = .ok (.iinc 1 1, 3) := by decide +kernel
theorem dX8_noShare_17 : decode cX8_noShare 17 = .ok (.goto (-15), 3) := by decide +kernel
theorem dX8_noShare_20 : decode cX8_noShare 20 = .ok (.return_, 1) := by decide +kernel
theorem dX8_memberOf_0 : decode cX8_memberOf 0 = .ok (.iconst 0, 1) := by decide +kernel
theorem dX8_memberOf_1 : decode cX8_memberOf 1 = .ok (.istore_n 2, 1) := by decide +kernel
theorem dX8_memberOf_2 : decode cX8_memberOf 2 = .ok (.iload_n 2, 1) := by decide +kernel
theorem dX8_memberOf_3 : decode cX8_memberOf 3 = .ok (.iconst 4, 1) := by decide +kernel
theorem dX8_memberOf_4 : decode cX8_memberOf 4 = .ok (.if_icmp .ge 23, 3) := by decide +kernel
theorem dX8_memberOf_7 : decode cX8_memberOf 7 = .ok (.aload_n 0, 1) := by decide +kernel
theorem dX8_memberOf_8 : decode cX8_memberOf 8 = .ok (.getfield 41, 3) := by decide +kernel
theorem dX8_memberOf_11 : decode cX8_memberOf 11 = .ok (.iload_n 2, 1) := by decide +kernel
theorem dX8_memberOf_12 : decode cX8_memberOf 12 = .ok (.aload_n 0, 1) := by decide +kernel
theorem dX8_memberOf_13 : decode cX8_memberOf 13 = .ok (.getfield 32, 3) := by decide +kernel
theorem dX8_memberOf_16 : decode cX8_memberOf 16 = .ok (.iconst 1, 1) := by decide +kernel
theorem dX8_memberOf_17 : decode cX8_memberOf 17 = .ok (.iload_n 2, 1) := by decide +kernel
theorem dX8_memberOf_18 : decode cX8_memberOf 18 = .ok (.iadd, 1) := by decide +kernel
theorem dX8_memberOf_19 : decode cX8_memberOf 19 = .ok (.iaload, 1) := by decide +kernel
theorem dX8_memberOf_20 : decode cX8_memberOf 20 = .ok (.iastore, 1) := by decide +kernel
theorem dX8_memberOf_21 : decode cX8_memberOf 21 = .ok (.iinc 2 1, 3) := by decide +kernel
theorem dX8_memberOf_24 : decode cX8_memberOf 24 = .ok (.goto (-22), 3) := by decide +kernel
theorem dX8_memberOf_27 : decode cX8_memberOf 27 = .ok (.aload_n 0, 1) := by decide +kernel
theorem dX8_memberOf_28 : decode cX8_memberOf 28 = .ok (.iload_n 1, 1) := by decide +kernel
theorem dX8_memberOf_29 : decode cX8_memberOf 29 = .ok (.iconst 0, 1) := by decide +kernel
theorem dX8_memberOf_30 : decode cX8_memberOf 30 = .ok (.invokevirtual 166, 3) := by decide +kernel
theorem dX8_memberOf_33 : decode cX8_memberOf 33 = .ok (.ifCond .ne 8, 3) := by decide +kernel
theorem dX8_memberOf_36 : decode cX8_memberOf 36 = .ok (.bipush (-4), 2) := by decide +kernel
theorem dX8_memberOf_38 : decode cX8_memberOf 38 = .ok (.goto 21, 3) := by decide +kernel
theorem dX8_memberOf_41 : decode cX8_memberOf 41 = .ok (.aload_n 0, 1) := by decide +kernel
theorem dX8_memberOf_42 : decode cX8_memberOf 42 = .ok (.getfield 7, 3) := by decide +kernel
theorem dX8_memberOf_45 : decode cX8_memberOf 45 = .ok (.iload_n 1, 1) := by decide +kernel
theorem dX8_memberOf_46 : decode cX8_memberOf 46 = .ok (.aload_n 0, 1) := by decide +kernel
theorem dX8_memberOf_47 : decode cX8_memberOf 47 = .ok (.getfield 41, 3) := by decide +kernel
theorem dX8_memberOf_50 : decode cX8_memberOf 50 = .ok (.aload_n 0, 1) := by decide +kernel
theorem dX8_memberOf_51 : decode cX8_memberOf 51 = .ok (.getfield 32, 3) := by decide +kernel
theorem dX8_memberOf_54 : decode cX8_memberOf 54 = .ok (.iconst 0, 1) := by decide +kernel
theorem dX8_memberOf_55 : decode cX8_memberOf 55 = .ok (.iaload, 1) := by decide +kernel
theorem dX8_memberOf_56 : decode cX8_memberOf 56 = .ok (.invokestatic 129, 3) := by decide +kernel
theorem dX8_memberOf_59 : decode cX8_memberOf 59 = .ok (.ireturn, 1) := by decide +kernel
theorem dX8_hadOf_0 : decode cX8_hadOf 0 = .ok (.iconst 0, 1) := by decide +kernel
theorem dX8_hadOf_1 : decode cX8_hadOf 1 = .ok (.istore_n 1, 1) := by decide +kernel
theorem dX8_hadOf_2 : decode cX8_hadOf 2 = .ok (.iload_n 1, 1) := by decide +kernel
theorem dX8_hadOf_3 : decode cX8_hadOf 3 = .ok (.aload_n 0, 1) := by decide +kernel
theorem dX8_hadOf_4 : decode cX8_hadOf 4 = .ok (.getfield 7, 3) := by decide +kernel
theorem dX8_hadOf_7 : decode cX8_hadOf 7 = .ok (.bipush 7, 2) := by decide +kernel
theorem dX8_hadOf_9 : decode cX8_hadOf 9 = .ok (.iaload, 1) := by decide +kernel
theorem dX8_hadOf_10 : decode cX8_hadOf 10 = .ok (.if_icmp .ge 63, 3) := by decide +kernel
theorem dX8_hadOf_13 : decode cX8_hadOf 13 = .ok (.iconst 1, 1) := by decide +kernel
theorem dX8_hadOf_14 : decode cX8_hadOf 14 = .ok (.istore_n 2, 1) := by decide +kernel
theorem dX8_hadOf_15 : decode cX8_hadOf 15 = .ok (.iconst 0, 1) := by decide +kernel
theorem dX8_hadOf_16 : decode cX8_hadOf 16 = .ok (.istore_n 3, 1) := by decide +kernel
theorem dX8_hadOf_17 : decode cX8_hadOf 17 = .ok (.iload_n 3, 1) := by decide +kernel
theorem dX8_hadOf_18 : decode cX8_hadOf 18 = .ok (.iconst 5, 1) := by decide +kernel
theorem dX8_hadOf_19 : decode cX8_hadOf 19 = .ok (.if_icmp .ge 42, 3) := by decide +kernel
theorem dX8_hadOf_22 : decode cX8_hadOf 22 = .ok (.iload_n 2, 1) := by decide +kernel
theorem dX8_hadOf_23 : decode cX8_hadOf 23 = .ok (.ifCond .eq 30, 3) := by decide +kernel
theorem dX8_hadOf_26 : decode cX8_hadOf 26 = .ok (.aload_n 0, 1) := by decide +kernel
theorem dX8_hadOf_27 : decode cX8_hadOf 27 = .ok (.getfield 7, 3) := by decide +kernel
theorem dX8_hadOf_30 : decode cX8_hadOf 30 = .ok (.bipush 92, 2) := by decide +kernel
theorem dX8_hadOf_32 : decode cX8_hadOf 32 = .ok (.bipush 6, 2) := by decide +kernel
theorem dX8_hadOf_34 : decode cX8_hadOf 34 = .ok (.iload_n 1, 1) := by decide +kernel
theorem dX8_hadOf_35 : decode cX8_hadOf 35 = .ok (.imul, 1) := by decide +kernel
theorem dX8_hadOf_36 : decode cX8_hadOf 36 = .ok (.iadd, 1) := by decide +kernel
theorem dX8_hadOf_37 : decode cX8_hadOf 37 = .ok (.iload_n 3, 1) := by decide +kernel
theorem dX8_hadOf_38 : decode cX8_hadOf 38 = .ok (.iadd, 1) := by decide +kernel
theorem dX8_hadOf_39 : decode cX8_hadOf 39 = .ok (.iaload, 1) := by decide +kernel
theorem dX8_hadOf_40 : decode cX8_hadOf 40 = .ok (.aload_n 0, 1) := by decide +kernel
theorem dX8_hadOf_41 : decode cX8_hadOf 41 = .ok (.getfield 32, 3) := by decide +kernel
theorem dX8_hadOf_44 : decode cX8_hadOf 44 = .ok (.iload_n 3, 1) := by decide +kernel
theorem dX8_hadOf_45 : decode cX8_hadOf 45 = .ok (.iaload, 1) := by decide +kernel
theorem dX8_hadOf_46 : decode cX8_hadOf 46 = .ok (.if_icmp .ne 7, 3) := by decide +kernel
theorem dX8_hadOf_49 : decode cX8_hadOf 49 = .ok (.iconst 1, 1) := by decide +kernel
theorem dX8_hadOf_50 : decode cX8_hadOf 50 = .ok (.goto 4, 3) := by decide +kernel
theorem dX8_hadOf_53 : decode cX8_hadOf 53 = .ok (.iconst 0, 1) := by decide +kernel
theorem dX8_hadOf_54 : decode cX8_hadOf 54 = .ok (.istore_n 2, 1) := by decide +kernel
theorem dX8_hadOf_55 : decode cX8_hadOf 55 = .ok (.iinc 3 1, 3) := by decide +kernel
theorem dX8_hadOf_58 : decode cX8_hadOf 58 = .ok (.goto (-41), 3) := by decide +kernel
theorem dX8_hadOf_61 : decode cX8_hadOf 61 = .ok (.iload_n 2, 1) := by decide +kernel
theorem dX8_hadOf_62 : decode cX8_hadOf 62 = .ok (.ifCond .eq 5, 3) := by decide +kernel
theorem dX8_hadOf_65 : decode cX8_hadOf 65 = .ok (.iload_n 1, 1) := by decide +kernel
theorem dX8_hadOf_66 : decode cX8_hadOf 66 = .ok (.ireturn, 1) := by decide +kernel
theorem dX8_hadOf_67 : decode cX8_hadOf 67 = .ok (.iinc 1 1, 3) := by decide +kernel
theorem dX8_hadOf_70 : decode cX8_hadOf 70 = .ok (.goto (-68), 3) := by decide +kernel
theorem dX8_hadOf_73 : decode cX8_hadOf 73 = .ok (.bipush (-4), 2) := by decide +kernel
theorem dX8_hadOf_75 : decode cX8_hadOf 75 = .ok (.ireturn, 1) := by decide +kernel
theorem dX8_turnOf_0 : decode cX8_turnOf 0 = .ok (.iconst 1, 1) := by decide +kernel
theorem dX8_turnOf_1 : decode cX8_turnOf 1 = .ok (.istore_n 3, 1) := by decide +kernel
theorem dX8_turnOf_2 : decode cX8_turnOf 2 = .ok (.iload_n 3, 1) := by decide +kernel
theorem dX8_turnOf_3 : decode cX8_turnOf 3 = .ok (.bipush 6, 2) := by decide +kernel
theorem dX8_turnOf_5 : decode cX8_turnOf 5 = .ok (.if_icmp .gt 42, 3) := by decide +kernel
theorem dX8_turnOf_8 : decode cX8_turnOf 8 = .ok (.iload_n 1, 1) := by decide +kernel
theorem dX8_turnOf_9 : decode cX8_turnOf 9 = .ok (.iload_n 3, 1) := by decide +kernel
theorem dX8_turnOf_10 : decode cX8_turnOf 10 = .ok (.iadd, 1) := by decide +kernel
theorem dX8_turnOf_11 : decode cX8_turnOf 11 = .ok (.bipush 6, 2) := by decide +kernel
theorem dX8_turnOf_13 : decode cX8_turnOf 13 = .ok (.irem, 1) := by decide +kernel
theorem dX8_turnOf_14 : decode cX8_turnOf 14 = .ok (.istore 4, 2) := by decide +kernel
theorem dX8_turnOf_16 : decode cX8_turnOf 16 = .ok (.aload_n 0, 1) := by decide +kernel
theorem dX8_turnOf_17 : decode cX8_turnOf 17 = .ok (.iload 4, 2) := by decide +kernel
theorem dX8_turnOf_19 : decode cX8_turnOf 19 = .ok (.iconst 0, 1) := by decide +kernel
theorem dX8_turnOf_20 : decode cX8_turnOf 20 = .ok (.invokevirtual 166, 3) := by decide +kernel
theorem dX8_turnOf_23 : decode cX8_turnOf 23 = .ok (.iload_n 2, 1) := by decide +kernel
theorem dX8_turnOf_24 : decode cX8_turnOf 24 = .ok (.if_icmp .ne 17, 3) := by decide +kernel
theorem dX8_turnOf_27 : decode cX8_turnOf 27 = .ok (.aload_n 0, 1) := by decide +kernel
theorem dX8_turnOf_28 : decode cX8_turnOf 28 = .ok (.iload 4, 2) := by decide +kernel
theorem dX8_turnOf_30 : decode cX8_turnOf 30 = .ok (.invokevirtual 200, 3) := by decide +kernel
theorem dX8_turnOf_33 : decode cX8_turnOf 33 = .ok (.bipush (-4), 2) := by decide +kernel
theorem dX8_turnOf_35 : decode cX8_turnOf 35 = .ok (.if_icmp .eq 6, 3) := by decide +kernel
theorem dX8_turnOf_38 : decode cX8_turnOf 38 = .ok (.iload 4, 2) := by decide +kernel
theorem dX8_turnOf_40 : decode cX8_turnOf 40 = .ok (.ireturn, 1) := by decide +kernel
theorem dX8_turnOf_41 : decode cX8_turnOf 41 = .ok (.iinc 3 1, 3) := by decide +kernel
theorem dX8_turnOf_44 : decode cX8_turnOf 44 = .ok (.goto (-42), 3) := by decide +kernel
theorem dX8_turnOf_47 : decode cX8_turnOf 47 = .ok (.bipush (-4), 2) := by decide +kernel
theorem dX8_turnOf_49 : decode cX8_turnOf 49 = .ok (.ireturn, 1) := by decide +kernel
theorem dX8_sharesOut_0 : decode cX8_sharesOut 0 = .ok (.aload_n 0, 1) := by decide +kernel
theorem dX8_sharesOut_1 : decode cX8_sharesOut 1 = .ok (.invokevirtual 203, 3) := by decide +kernel
theorem dX8_sharesOut_4 : decode cX8_sharesOut 4 = .ok (.istore 4, 2) := by decide +kernel
theorem dX8_sharesOut_6 : decode cX8_sharesOut 6 = .ok (.iload 4, 2) := by decide +kernel
theorem dX8_sharesOut_8 : decode cX8_sharesOut 8 = .ok (.bipush (-4), 2) := by decide +kernel
theorem dX8_sharesOut_10 : decode cX8_sharesOut 10 = .ok (.if_icmp .ne 7, 3) := by decide +kernel
theorem dX8_sharesOut_13 : decode cX8_sharesOut 13 = .ok (.iconst 5, 1) := by decide +kernel
theorem dX8_sharesOut_14 : decode cX8_sharesOut 14 = .ok (.goto 18, 3) := by decide +kernel
theorem dX8_sharesOut_17 : decode cX8_sharesOut 17 = .ok (.aload_n 0, 1) := by decide +kernel
theorem dX8_sharesOut_18 : decode cX8_sharesOut 18 = .ok (.getfield 7, 3) := by decide +kernel
theorem dX8_sharesOut_21 : decode cX8_sharesOut 21 = .ok (.bipush 92, 2) := by decide +kernel
theorem dX8_sharesOut_23 : decode cX8_sharesOut 23 = .ok (.bipush 6, 2) := by decide +kernel
theorem dX8_sharesOut_25 : decode cX8_sharesOut 25 = .ok (.iload 4, 2) := by decide +kernel
theorem dX8_sharesOut_27 : decode cX8_sharesOut 27 = .ok (.imul, 1) := by decide +kernel
theorem dX8_sharesOut_28 : decode cX8_sharesOut 28 = .ok (.iadd, 1) := by decide +kernel
theorem dX8_sharesOut_29 : decode cX8_sharesOut 29 = .ok (.iconst 5, 1) := by decide +kernel
theorem dX8_sharesOut_30 : decode cX8_sharesOut 30 = .ok (.iadd, 1) := by decide +kernel
theorem dX8_sharesOut_31 : decode cX8_sharesOut 31 = .ok (.iaload, 1) := by decide +kernel
theorem dX8_sharesOut_32 : decode cX8_sharesOut 32 = .ok (.istore 5, 2) := by decide +kernel
theorem dX8_sharesOut_34 : decode cX8_sharesOut 34 = .ok (.aload_n 0, 1) := by decide +kernel
theorem dX8_sharesOut_35 : decode cX8_sharesOut 35 = .ok (.iload 5, 2) := by decide +kernel
theorem dX8_sharesOut_37 : decode cX8_sharesOut 37 = .ok (.iconst 1, 1) := by decide +kernel
theorem dX8_sharesOut_38 : decode cX8_sharesOut 38 = .ok (.invokevirtual 207, 3) := by decide +kernel
theorem dX8_sharesOut_41 : decode cX8_sharesOut 41 = .ok (.istore 6, 2) := by decide +kernel
theorem dX8_sharesOut_43 : decode cX8_sharesOut 43 = .ok (.iload 6, 2) := by decide +kernel
theorem dX8_sharesOut_45 : decode cX8_sharesOut 45 = .ok (.bipush (-4), 2) := by decide +kernel
theorem dX8_sharesOut_47 : decode cX8_sharesOut 47 = .ok (.if_icmp .ne 13, 3) := by decide +kernel
theorem dX8_sharesOut_50 : decode cX8_sharesOut 50 = .ok (.aload_n 0, 1) := by decide +kernel
theorem dX8_sharesOut_51 : decode cX8_sharesOut 51 = .ok (.iload 5, 2) := by decide +kernel
theorem dX8_sharesOut_53 : decode cX8_sharesOut 53 = .ok (.iconst 2, 1) := by decide +kernel
theorem dX8_sharesOut_54 : decode cX8_sharesOut 54 = .ok (.invokevirtual 207, 3) := by decide +kernel
theorem dX8_sharesOut_57 : decode cX8_sharesOut 57 = .ok (.goto 5, 3) := by decide +kernel
theorem dX8_sharesOut_60 : decode cX8_sharesOut 60 = .ok (.iload 6, 2) := by decide +kernel
theorem dX8_sharesOut_62 : decode cX8_sharesOut 62 = .ok (.istore 6, 2) := by decide +kernel
theorem dX8_sharesOut_64 : decode cX8_sharesOut 64 = .ok (.iload 4, 2) := by decide +kernel
theorem dX8_sharesOut_66 : decode cX8_sharesOut 66 = .ok (.bipush (-4), 2) := by decide +kernel
theorem dX8_sharesOut_68 : decode cX8_sharesOut 68 = .ok (.if_icmp .ne 61, 3) := by decide +kernel
theorem dX8_sharesOut_71 : decode cX8_sharesOut 71 = .ok (.aload_n 0, 1) := by decide +kernel
theorem dX8_sharesOut_72 : decode cX8_sharesOut 72 = .ok (.getfield 7, 3) := by decide +kernel
theorem dX8_sharesOut_75 : decode cX8_sharesOut 75 = .ok (.bipush 7, 2) := by decide +kernel
theorem dX8_sharesOut_77 : decode cX8_sharesOut 77 = .ok (.iaload, 1) := by decide +kernel
theorem dX8_sharesOut_78 : decode cX8_sharesOut 78 = .ok (.istore 4, 2) := by decide +kernel
theorem dX8_sharesOut_80 : decode cX8_sharesOut 80 = .ok (.aload_n 0, 1) := by decide +kernel
theorem dX8_sharesOut_81 : decode cX8_sharesOut 81 = .ok (.getfield 7, 3) := by decide +kernel
theorem dX8_sharesOut_84 : decode cX8_sharesOut 84 = .ok (.bipush 7, 2) := by decide +kernel
theorem dX8_sharesOut_86 : decode cX8_sharesOut 86 = .ok (.dup2, 1) := by decide +kernel
theorem dX8_sharesOut_87 : decode cX8_sharesOut 87 = .ok (.iaload, 1) := by decide +kernel
theorem dX8_sharesOut_88 : decode cX8_sharesOut 88 = .ok (.iconst 1, 1) := by decide +kernel
theorem dX8_sharesOut_89 : decode cX8_sharesOut 89 = .ok (.iadd, 1) := by decide +kernel
theorem dX8_sharesOut_90 : decode cX8_sharesOut 90 = .ok (.iastore, 1) := by decide +kernel
theorem dX8_sharesOut_91 : decode cX8_sharesOut 91 = .ok (.iconst 0, 1) := by decide +kernel
theorem dX8_sharesOut_92 : decode cX8_sharesOut 92 = .ok (.istore 7, 2) := by decide +kernel
theorem dX8_sharesOut_94 : decode cX8_sharesOut 94 = .ok (.iload 7, 2) := by decide +kernel
theorem dX8_sharesOut_96 : decode cX8_sharesOut 96 = .ok (.iconst 5, 1) := by decide +kernel
theorem dX8_sharesOut_97 : decode cX8_sharesOut 97 = .ok (.if_icmp .ge 32, 3) := by decide +kernel
theorem dX8_sharesOut_100 : decode cX8_sharesOut 100 = .ok (.aload_n 0, 1) := by decide +kernel
theorem dX8_sharesOut_101 : decode cX8_sharesOut 101 = .ok (.getfield 7, 3) := by decide +kernel
theorem dX8_sharesOut_104 : decode cX8_sharesOut 104 = .ok (.bipush 92, 2) := by decide +kernel
theorem dX8_sharesOut_106 : decode cX8_sharesOut 106 = .ok (.bipush 6, 2) := by decide +kernel
theorem dX8_sharesOut_108 : decode cX8_sharesOut 108 = .ok (.iload 4, 2) := by decide +kernel
theorem dX8_sharesOut_110 : decode cX8_sharesOut 110 = .ok (.imul, 1) := by decide +kernel
theorem dX8_sharesOut_111 : decode cX8_sharesOut 111 = .ok (.iadd, 1) := by decide +kernel
theorem dX8_sharesOut_112 : decode cX8_sharesOut 112 = .ok (.iload 7, 2) := by decide +kernel
theorem dX8_sharesOut_114 : decode cX8_sharesOut 114 = .ok (.iadd, 1) := by decide +kernel
theorem dX8_sharesOut_115 : decode cX8_sharesOut 115 = .ok (.aload_n 0, 1) := by decide +kernel
theorem dX8_sharesOut_116 : decode cX8_sharesOut 116 = .ok (.getfield 32, 3) := by decide +kernel
theorem dX8_sharesOut_119 : decode cX8_sharesOut 119 = .ok (.iload 7, 2) := by decide +kernel
theorem dX8_sharesOut_121 : decode cX8_sharesOut 121 = .ok (.iaload, 1) := by decide +kernel
theorem dX8_sharesOut_122 : decode cX8_sharesOut 122 = .ok (.iastore, 1) := by decide +kernel
theorem dX8_sharesOut_123 : decode cX8_sharesOut 123 = .ok (.iinc 7 1, 3) := by decide +kernel
theorem dX8_sharesOut_126 : decode cX8_sharesOut 126 = .ok (.goto (-32), 3) := by decide +kernel
theorem dX8_sharesOut_129 : decode cX8_sharesOut 129 = .ok (.aload_n 0, 1) := by decide +kernel
theorem dX8_sharesOut_130 : decode cX8_sharesOut 130 = .ok (.getfield 7, 3) := by decide +kernel
theorem dX8_sharesOut_133 : decode cX8_sharesOut 133 = .ok (.bipush 92, 2) := by decide +kernel
theorem dX8_sharesOut_135 : decode cX8_sharesOut 135 = .ok (.bipush 6, 2) := by decide +kernel
theorem dX8_sharesOut_137 : decode cX8_sharesOut 137 = .ok (.iload 4, 2) := by decide +kernel
theorem dX8_sharesOut_139 : decode cX8_sharesOut 139 = .ok (.imul, 1) := by decide +kernel
theorem dX8_sharesOut_140 : decode cX8_sharesOut 140 = .ok (.iadd, 1) := by decide +kernel
theorem dX8_sharesOut_141 : decode cX8_sharesOut 141 = .ok (.iconst 5, 1) := by decide +kernel
theorem dX8_sharesOut_142 : decode cX8_sharesOut 142 = .ok (.iadd, 1) := by decide +kernel
theorem dX8_sharesOut_143 : decode cX8_sharesOut 143 = .ok (.iload 6, 2) := by decide +kernel
theorem dX8_sharesOut_145 : decode cX8_sharesOut 145 = .ok (.iastore, 1) := by decide +kernel
theorem dX8_sharesOut_146 : decode cX8_sharesOut 146 = .ok (.aload_n 0, 1) := by decide +kernel
theorem dX8_sharesOut_147 : decode cX8_sharesOut 147 = .ok (.iload 6, 2) := by decide +kernel
theorem dX8_sharesOut_149 : decode cX8_sharesOut 149 = .ok (.iload_n 1, 1) := by decide +kernel
theorem dX8_sharesOut_150 : decode cX8_sharesOut 150 = .ok (.iload_n 2, 1) := by decide +kernel
theorem dX8_sharesOut_151 : decode cX8_sharesOut 151 = .ok (.aload_n 0, 1) := by decide +kernel
theorem dX8_sharesOut_152 : decode cX8_sharesOut 152 = .ok (.iload 6, 2) := by decide +kernel
theorem dX8_sharesOut_154 : decode cX8_sharesOut 154 = .ok (.bipush 45, 2) := by decide +kernel
theorem dX8_sharesOut_156 : decode cX8_sharesOut 156 = .ok (.bipush 6, 2) := by decide +kernel
theorem dX8_sharesOut_158 : decode cX8_sharesOut 158 = .ok (.aload_n 0, 1) := by decide +kernel
theorem dX8_sharesOut_159 : decode cX8_sharesOut 159 = .ok (.iload 6, 2) := by decide +kernel
theorem dX8_sharesOut_161 : decode cX8_sharesOut 161 = .ok (.invokevirtual 200, 3) := by decide +kernel
theorem dX8_sharesOut_164 : decode cX8_sharesOut 164 = .ok (.imul, 1) := by decide +kernel
theorem dX8_sharesOut_165 : decode cX8_sharesOut 165 = .ok (.iadd, 1) := by decide +kernel
theorem dX8_sharesOut_166 : decode cX8_sharesOut 166 = .ok (.iconst 4, 1) := by decide +kernel
theorem dX8_sharesOut_167 : decode cX8_sharesOut 167 = .ok (.iadd, 1) := by decide +kernel
theorem dX8_sharesOut_168 : decode cX8_sharesOut 168 = .ok (.invokevirtual 166, 3) := by decide +kernel
theorem dX8_sharesOut_171 : decode cX8_sharesOut 171 = .ok (.invokestatic 210, 3) := by decide +kernel
theorem dX8_sharesOut_174 : decode cX8_sharesOut 174 = .ok (.iload_n 3, 1) := by decide +kernel
theorem dX8_sharesOut_175 : decode cX8_sharesOut 175 = .ok (.iconst 0, 1) := by decide +kernel
theorem dX8_sharesOut_176 : decode cX8_sharesOut 176 = .ok (.invokevirtual 213, 3) := by decide +kernel
theorem dX8_sharesOut_179 : decode cX8_sharesOut 179 = .ok (.return_, 1) := by decide +kernel
theorem dX8_forgets_0 : decode cX8_forgets 0 = .ok (.iconst 0, 1) := by decide +kernel
theorem dX8_forgets_1 : decode cX8_forgets 1 = .ok (.istore_n 1, 1) := by decide +kernel
theorem dX8_forgets_2 : decode cX8_forgets 2 = .ok (.iconst 0, 1) := by decide +kernel
theorem dX8_forgets_3 : decode cX8_forgets 3 = .ok (.istore_n 2, 1) := by decide +kernel
theorem dX8_forgets_4 : decode cX8_forgets 4 = .ok (.iload_n 2, 1) := by decide +kernel
theorem dX8_forgets_5 : decode cX8_forgets 5 = .ok (.aload_n 0, 1) := by decide +kernel
theorem dX8_forgets_6 : decode cX8_forgets 6 = .ok (.getfield 7, 3) := by decide +kernel
theorem dX8_forgets_9 : decode cX8_forgets 9 = .ok (.bipush 7, 2) := by decide +kernel
theorem dX8_forgets_11 : decode cX8_forgets 11 = .ok (.iaload, 1) := by decide +kernel
theorem dX8_forgets_12 : decode cX8_forgets 12 = .ok (.if_icmp .ge 134, 3) := by decide +kernel
theorem dX8_forgets_15 : decode cX8_forgets 15 = .ok (.iconst 0, 1) := by decide +kernel
theorem dX8_forgets_16 : decode cX8_forgets 16 = .ok (.istore_n 3, 1) := by decide +kernel
theorem dX8_forgets_17 : decode cX8_forgets 17 = .ok (.iload_n 3, 1) := by decide +kernel
theorem dX8_forgets_18 : decode cX8_forgets 18 = .ok (.iconst 5, 1) := by decide +kernel
theorem dX8_forgets_19 : decode cX8_forgets 19 = .ok (.if_icmp .ge 29, 3) := by decide +kernel
theorem dX8_forgets_22 : decode cX8_forgets 22 = .ok (.aload_n 0, 1) := by decide +kernel
theorem dX8_forgets_23 : decode cX8_forgets 23 = .ok (.getfield 32, 3) := by decide +kernel
theorem dX8_forgets_26 : decode cX8_forgets 26 = .ok (.iload_n 3, 1) := by decide +kernel
theorem dX8_forgets_27 : decode cX8_forgets 27 = .ok (.aload_n 0, 1) := by decide +kernel
theorem dX8_forgets_28 : decode cX8_forgets 28 = .ok (.getfield 7, 3) := by decide +kernel
theorem dX8_forgets_31 : decode cX8_forgets 31 = .ok (.bipush 92, 2) := by decide +kernel
theorem dX8_forgets_33 : decode cX8_forgets 33 = .ok (.bipush 6, 2) := by decide +kernel
theorem dX8_forgets_35 : decode cX8_forgets 35 = .ok (.iload_n 2, 1) := by decide +kernel
theorem dX8_forgets_36 : decode cX8_forgets 36 = .ok (.imul, 1) := by decide +kernel
theorem dX8_forgets_37 : decode cX8_forgets 37 = .ok (.iadd, 1) := by decide +kernel
theorem dX8_forgets_38 : decode cX8_forgets 38 = .ok (.iload_n 3, 1) := by decide +kernel
theorem dX8_forgets_39 : decode cX8_forgets 39 = .ok (.iadd, 1) := by decide +kernel
theorem dX8_forgets_40 : decode cX8_forgets 40 = .ok (.iaload, 1) := by decide +kernel
theorem dX8_forgets_41 : decode cX8_forgets 41 = .ok (.iastore, 1) := by decide +kernel
theorem dX8_forgets_42 : decode cX8_forgets 42 = .ok (.iinc 3 1, 3) := by decide +kernel
theorem dX8_forgets_45 : decode cX8_forgets 45 = .ok (.goto (-28), 3) := by decide +kernel
theorem dX8_forgets_48 : decode cX8_forgets 48 = .ok (.iconst 0, 1) := by decide +kernel
theorem dX8_forgets_49 : decode cX8_forgets 49 = .ok (.istore_n 3, 1) := by decide +kernel
theorem dX8_forgets_50 : decode cX8_forgets 50 = .ok (.iconst 0, 1) := by decide +kernel
theorem dX8_forgets_51 : decode cX8_forgets 51 = .ok (.istore 4, 2) := by decide +kernel
theorem dX8_forgets_53 : decode cX8_forgets 53 = .ok (.iload 4, 2) := by decide +kernel
theorem dX8_forgets_55 : decode cX8_forgets 55 = .ok (.bipush 6, 2) := by decide +kernel
theorem dX8_forgets_57 : decode cX8_forgets 57 = .ok (.if_icmp .ge 30, 3) := by decide +kernel
theorem dX8_forgets_60 : decode cX8_forgets 60 = .ok (.iload_n 3, 1) := by decide +kernel
theorem dX8_forgets_61 : decode cX8_forgets 61 = .ok (.ifCond .ne 14, 3) := by decide +kernel
theorem dX8_forgets_64 : decode cX8_forgets 64 = .ok (.aload_n 0, 1) := by decide +kernel
theorem dX8_forgets_65 : decode cX8_forgets 65 = .ok (.iload 4, 2) := by decide +kernel
theorem dX8_forgets_67 : decode cX8_forgets 67 = .ok (.invokevirtual 200, 3) := by decide +kernel
theorem dX8_forgets_70 : decode cX8_forgets 70 = .ok (.bipush (-4), 2) := by decide +kernel
theorem dX8_forgets_72 : decode cX8_forgets 72 = .ok (.if_icmp .eq 7, 3) := by decide +kernel
theorem dX8_forgets_75 : decode cX8_forgets 75 = .ok (.iconst 1, 1) := by decide +kernel
theorem dX8_forgets_76 : decode cX8_forgets 76 = .ok (.goto 4, 3) := by decide +kernel
theorem dX8_forgets_79 : decode cX8_forgets 79 = .ok (.iconst 0, 1) := by decide +kernel
theorem dX8_forgets_80 : decode cX8_forgets 80 = .ok (.istore_n 3, 1) := by decide +kernel
theorem dX8_forgets_81 : decode cX8_forgets 81 = .ok (.iinc 4 1, 3) := by decide +kernel
theorem dX8_forgets_84 : decode cX8_forgets 84 = .ok (.goto (-31), 3) := by decide +kernel
theorem dX8_forgets_87 : decode cX8_forgets 87 = .ok (.iload_n 3, 1) := by decide +kernel
theorem dX8_forgets_88 : decode cX8_forgets 88 = .ok (.ifCond .eq 52, 3) := by decide +kernel
theorem dX8_forgets_91 : decode cX8_forgets 91 = .ok (.iconst 0, 1) := by decide +kernel
theorem dX8_forgets_92 : decode cX8_forgets 92 = .ok (.istore 4, 2) := by decide +kernel
theorem dX8_forgets_94 : decode cX8_forgets 94 = .ok (.iload 4, 2) := by decide +kernel
theorem dX8_forgets_96 : decode cX8_forgets 96 = .ok (.bipush 6, 2) := by decide +kernel
theorem dX8_forgets_98 : decode cX8_forgets 98 = .ok (.if_icmp .ge 39, 3) := by decide +kernel
theorem dX8_forgets_101 : decode cX8_forgets 101 = .ok (.aload_n 0, 1) := by decide +kernel
theorem dX8_forgets_102 : decode cX8_forgets 102 = .ok (.getfield 7, 3) := by decide +kernel
theorem dX8_forgets_105 : decode cX8_forgets 105 = .ok (.bipush 92, 2) := by decide +kernel
theorem dX8_forgets_107 : decode cX8_forgets 107 = .ok (.bipush 6, 2) := by decide +kernel
theorem dX8_forgets_109 : decode cX8_forgets 109 = .ok (.iload_n 1, 1) := by decide +kernel
theorem dX8_forgets_110 : decode cX8_forgets 110 = .ok (.imul, 1) := by decide +kernel
theorem dX8_forgets_111 : decode cX8_forgets 111 = .ok (.iadd, 1) := by decide +kernel
theorem dX8_forgets_112 : decode cX8_forgets 112 = .ok (.iload 4, 2) := by decide +kernel
theorem dX8_forgets_114 : decode cX8_forgets 114 = .ok (.iadd, 1) := by decide +kernel
theorem dX8_forgets_115 : decode cX8_forgets 115 = .ok (.aload_n 0, 1) := by decide +kernel
theorem dX8_forgets_116 : decode cX8_forgets 116 = .ok (.getfield 7, 3) := by decide +kernel
theorem dX8_forgets_119 : decode cX8_forgets 119 = .ok (.bipush 92, 2) := by decide +kernel
theorem dX8_forgets_121 : decode cX8_forgets 121 = .ok (.bipush 6, 2) := by decide +kernel
theorem dX8_forgets_123 : decode cX8_forgets 123 = .ok (.iload_n 2, 1) := by decide +kernel
theorem dX8_forgets_124 : decode cX8_forgets 124 = .ok (.imul, 1) := by decide +kernel
theorem dX8_forgets_125 : decode cX8_forgets 125 = .ok (.iadd, 1) := by decide +kernel
theorem dX8_forgets_126 : decode cX8_forgets 126 = .ok (.iload 4, 2) := by decide +kernel
theorem dX8_forgets_128 : decode cX8_forgets 128 = .ok (.iadd, 1) := by decide +kernel
theorem dX8_forgets_129 : decode cX8_forgets 129 = .ok (.iaload, 1) := by decide +kernel
theorem dX8_forgets_130 : decode cX8_forgets 130 = .ok (.iastore, 1) := by decide +kernel
theorem dX8_forgets_131 : decode cX8_forgets 131 = .ok (.iinc 4 1, 3) := by decide +kernel
theorem dX8_forgets_134 : decode cX8_forgets 134 = .ok (.goto (-40), 3) := by decide +kernel
theorem dX8_forgets_137 : decode cX8_forgets 137 = .ok (.iinc 1 1, 3) := by decide +kernel
theorem dX8_forgets_140 : decode cX8_forgets 140 = .ok (.iinc 2 1, 3) := by decide +kernel
theorem dX8_forgets_143 : decode cX8_forgets 143 = .ok (.goto (-139), 3) := by decide +kernel
theorem dX8_forgets_146 : decode cX8_forgets 146 = .ok (.aload_n 0, 1) := by decide +kernel
theorem dX8_forgets_147 : decode cX8_forgets 147 = .ok (.getfield 7, 3) := by decide +kernel
theorem dX8_forgets_150 : decode cX8_forgets 150 = .ok (.bipush 7, 2) := by decide +kernel
theorem dX8_forgets_152 : decode cX8_forgets 152 = .ok (.iload_n 1, 1) := by decide +kernel
theorem dX8_forgets_153 : decode cX8_forgets 153 = .ok (.iastore, 1) := by decide +kernel
theorem dX8_forgets_154 : decode cX8_forgets 154 = .ok (.return_, 1) := by decide +kernel
theorem dX8_isShareMatching_0 : decode cX8_isShareMatching 0 = .ok (.iconst 0, 1) := by decide +kernel
theorem dX8_isShareMatching_1 : decode cX8_isShareMatching 1 = .ok (.istore_n 2, 1) := by decide +kernel
theorem dX8_isShareMatching_2 : decode cX8_isShareMatching 2 = .ok (.iload_n 2, 1) := by decide +kernel
theorem dX8_isShareMatching_3 : decode cX8_isShareMatching 3 = .ok (.bipush 6, 2) := by decide +kernel
theorem dX8_isShareMatching_5 : decode cX8_isShareMatching 5 = .ok (.if_icmp .ge 38, 3) := by decide +kernel
theorem dX8_isShareMatching_8 : decode cX8_isShareMatching 8 = .ok (.aload_n 0, 1) := by decide +kernel
theorem dX8_isShareMatching_9 : decode cX8_isShareMatching 9 = .ok (.iload_n 2, 1) := by decide +kernel
theorem dX8_isShareMatching_10 : decode cX8_isShareMatching 10 = .ok (.invokevirtual 200, 3) := by decide +kernel
theorem dX8_isShareMatching_13 : decode cX8_isShareMatching 13 = .ok (.istore_n 3, 1) := by decide +kernel
theorem dX8_isShareMatching_14 : decode cX8_isShareMatching 14 = .ok (.iload_n 3, 1) := by decide +kernel
theorem dX8_isShareMatching_15 : decode cX8_isShareMatching 15 = .ok (.bipush (-4), 2) := by decide +kernel
theorem dX8_isShareMatching_17 : decode cX8_isShareMatching 17 = .ok (.if_icmp .eq 20, 3) := by decide +kernel
theorem dX8_isShareMatching_20 : decode cX8_isShareMatching 20 = .ok (.aload_n 0, 1) := by decide +kernel
theorem dX8_isShareMatching_21 : decode cX8_isShareMatching 21 = .ok (.iload_n 2, 1) := by decide +kernel
theorem dX8_isShareMatching_22 : decode cX8_isShareMatching 22 = .ok (.bipush 45, 2) := by decide +kernel
theorem dX8_isShareMatching_24 : decode cX8_isShareMatching 24 = .ok (.bipush 6, 2) := by decide +kernel
theorem dX8_isShareMatching_26 : decode cX8_isShareMatching 26 = .ok (.iload_n 3, 1) := by decide +kernel
theorem dX8_isShareMatching_27 : decode cX8_isShareMatching 27 = .ok (.imul, 1) := by decide +kernel
theorem dX8_isShareMatching_28 : decode cX8_isShareMatching 28 = .ok (.iadd, 1) := by decide +kernel
theorem dX8_isShareMatching_29 : decode cX8_isShareMatching 29 = .ok (.invokestatic 115, 3) := by decide +kernel
theorem dX8_isShareMatching_32 : decode cX8_isShareMatching 32 = .ok (.aload_n 1, 1) := by decide +kernel
theorem dX8_isShareMatching_33 : decode cX8_isShareMatching 33 = .ok (.invokevirtual 184, 3) := by decide +kernel
theorem dX8_isShareMatching_36 : decode cX8_isShareMatching 36 = .ok (.ireturn, 1) := by decide +kernel
theorem dX8_isShareMatching_37 : decode cX8_isShareMatching 37 = .ok (.iinc 2 1, 3) := by decide +kernel
theorem dX8_isShareMatching_40 : decode cX8_isShareMatching 40 = .ok (.goto (-38), 3) := by decide +kernel
theorem dX8_isShareMatching_43 : decode cX8_isShareMatching 43 = .ok (.iconst 0, 1) := by decide +kernel
theorem dX8_isShareMatching_44 : decode cX8_isShareMatching 44 = .ok (.ireturn, 1) := by decide +kernel
theorem dX8_says_0 : decode cX8_says 0 = .ok (.aload_n 0, 1) := by decide +kernel
theorem dX8_says_1 : decode cX8_says 1 = .ok (.getfield 7, 3) := by decide +kernel
theorem dX8_says_4 : decode cX8_says 4 = .ok (.iconst 1, 1) := by decide +kernel
theorem dX8_says_5 : decode cX8_says 5 = .ok (.iaload, 1) := by decide +kernel
theorem dX8_says_6 : decode cX8_says 6 = .ok (.istore 5, 2) := by decide +kernel
theorem dX8_says_8 : decode cX8_says 8 = .ok (.aload_n 0, 1) := by decide +kernel
theorem dX8_says_9 : decode cX8_says 9 = .ok (.getfield 7, 3) := by decide +kernel
theorem dX8_says_12 : decode cX8_says 12 = .ok (.iconst 2, 1) := by decide +kernel
theorem dX8_says_13 : decode cX8_says 13 = .ok (.iaload, 1) := by decide +kernel
theorem dX8_says_14 : decode cX8_says 14 = .ok (.istore 6, 2) := by decide +kernel
theorem dX8_says_16 : decode cX8_says 16 = .ok (.aload_n 0, 1) := by decide +kernel
theorem dX8_says_17 : decode cX8_says 17 = .ok (.getfield 7, 3) := by decide +kernel
theorem dX8_says_20 : decode cX8_says 20 = .ok (.iconst 1, 1) := by decide +kernel
theorem dX8_says_21 : decode cX8_says 21 = .ok (.dup2, 1) := by decide +kernel
theorem dX8_says_22 : decode cX8_says 22 = .ok (.iaload, 1) := by decide +kernel
theorem dX8_says_23 : decode cX8_says 23 = .ok (.iconst 1, 1) := by decide +kernel
theorem dX8_says_24 : decode cX8_says 24 = .ok (.iadd, 1) := by decide +kernel
theorem dX8_says_25 : decode cX8_says 25 = .ok (.iastore, 1) := by decide +kernel
theorem dX8_says_26 : decode cX8_says 26 = .ok (.iconst 0, 1) := by decide +kernel
theorem dX8_says_27 : decode cX8_says 27 = .ok (.istore 7, 2) := by decide +kernel
theorem dX8_says_29 : decode cX8_says 29 = .ok (.iload 7, 2) := by decide +kernel
theorem dX8_says_31 : decode cX8_says 31 = .ok (.iconst 4, 1) := by decide +kernel
theorem dX8_says_32 : decode cX8_says 32 = .ok (.if_icmp .ge 20, 3) := by decide +kernel
theorem dX8_says_35 : decode cX8_says 35 = .ok (.aload_n 0, 1) := by decide +kernel
theorem dX8_says_36 : decode cX8_says 36 = .ok (.getfield 44, 3) := by decide +kernel
theorem dX8_says_39 : decode cX8_says 39 = .ok (.iload 7, 2) := by decide +kernel
theorem dX8_says_41 : decode cX8_says 41 = .ok (.aload_n 1, 1) := by decide +kernel
theorem dX8_says_42 : decode cX8_says 42 = .ok (.iload 7, 2) := by decide +kernel
theorem dX8_says_44 : decode cX8_says 44 = .ok (.iaload, 1) := by decide +kernel
theorem dX8_says_45 : decode cX8_says 45 = .ok (.iastore, 1) := by decide +kernel
theorem dX8_says_46 : decode cX8_says 46 = .ok (.iinc 7 1, 3) := by decide +kernel
theorem dX8_says_49 : decode cX8_says 49 = .ok (.goto (-20), 3) := by decide +kernel
theorem dX8_says_52 : decode cX8_says 52 = .ok (.iload 4, 2) := by decide +kernel
theorem dX8_says_54 : decode cX8_says 54 = .ok (.iconst 1, 1) := by decide +kernel
theorem dX8_says_55 : decode cX8_says 55 = .ok (.if_icmp .ne 15, 3) := by decide +kernel
theorem dX8_says_58 : decode cX8_says 58 = .ok (.aload_n 0, 1) := by decide +kernel
theorem dX8_says_59 : decode cX8_says 59 = .ok (.aload_n 0, 1) := by decide +kernel
theorem dX8_says_60 : decode cX8_says 60 = .ok (.getfield 44, 3) := by decide +kernel
theorem dX8_says_63 : decode cX8_says 63 = .ok (.iload_n 2, 1) := by decide +kernel
theorem dX8_says_64 : decode cX8_says 64 = .ok (.iload_n 3, 1) := by decide +kernel
theorem dX8_says_65 : decode cX8_says 65 = .ok (.iload 5, 2) := by decide +kernel
theorem dX8_says_67 : decode cX8_says 67 = .ok (.invokevirtual 216, 3) := by decide +kernel
theorem dX8_says_70 : decode cX8_says 70 = .ok (.iconst 0, 1) := by decide +kernel
theorem dX8_says_71 : decode cX8_says 71 = .ok (.istore 7, 2) := by decide +kernel
theorem dX8_says_73 : decode cX8_says 73 = .ok (.iload 7, 2) := by decide +kernel
theorem dX8_says_75 : decode cX8_says 75 = .ok (.bipush 6, 2) := by decide +kernel
theorem dX8_says_77 : decode cX8_says 77 = .ok (.if_icmp .ge 59, 3) := by decide +kernel
theorem dX8_says_80 : decode cX8_says 80 = .ok (.aload_n 0, 1) := by decide +kernel
theorem dX8_says_81 : decode cX8_says 81 = .ok (.iload 7, 2) := by decide +kernel
theorem dX8_says_83 : decode cX8_says 83 = .ok (.iconst 0, 1) := by decide +kernel
theorem dX8_says_84 : decode cX8_says 84 = .ok (.invokevirtual 166, 3) := by decide +kernel
theorem dX8_says_87 : decode cX8_says 87 = .ok (.ifCond .ne 8, 3) := by decide +kernel
theorem dX8_says_90 : decode cX8_says 90 = .ok (.bipush (-4), 2) := by decide +kernel
theorem dX8_says_92 : decode cX8_says 92 = .ok (.goto 13, 3) := by decide +kernel
theorem dX8_says_95 : decode cX8_says 95 = .ok (.aload_n 0, 1) := by decide +kernel
theorem dX8_says_96 : decode cX8_says 96 = .ok (.iload 7, 2) := by decide +kernel
theorem dX8_says_98 : decode cX8_says 98 = .ok (.aload_n 0, 1) := by decide +kernel
theorem dX8_says_99 : decode cX8_says 99 = .ok (.getfield 44, 3) := by decide +kernel
theorem dX8_says_102 : decode cX8_says 102 = .ok (.invokevirtual 220, 3) := by decide +kernel
theorem dX8_says_105 : decode cX8_says 105 = .ok (.istore 8, 2) := by decide +kernel
theorem dX8_says_107 : decode cX8_says 107 = .ok (.iload 8, 2) := by decide +kernel
theorem dX8_says_109 : decode cX8_says 109 = .ok (.bipush (-4), 2) := by decide +kernel
theorem dX8_says_111 : decode cX8_says 111 = .ok (.if_icmp .eq 19, 3) := by decide +kernel
theorem dX8_says_114 : decode cX8_says 114 = .ok (.aload_n 0, 1) := by decide +kernel
theorem dX8_says_115 : decode cX8_says 115 = .ok (.iload 7, 2) := by decide +kernel
theorem dX8_says_117 : decode cX8_says 117 = .ok (.iload 5, 2) := by decide +kernel
theorem dX8_says_119 : decode cX8_says 119 = .ok (.iload_n 3, 1) := by decide +kernel
theorem dX8_says_120 : decode cX8_says 120 = .ok (.iload 8, 2) := by decide +kernel
theorem dX8_says_122 : decode cX8_says 122 = .ok (.invokestatic 210, 3) := by decide +kernel
theorem dX8_says_125 : decode cX8_says 125 = .ok (.iload_n 2, 1) := by decide +kernel
theorem dX8_says_126 : decode cX8_says 126 = .ok (.iconst 0, 1) := by decide +kernel
theorem dX8_says_127 : decode cX8_says 127 = .ok (.invokevirtual 213, 3) := by decide +kernel
theorem dX8_says_130 : decode cX8_says 130 = .ok (.iinc 7 1, 3) := by decide +kernel
theorem dX8_says_133 : decode cX8_says 133 = .ok (.goto (-60), 3) := by decide +kernel
theorem dX8_says_136 : decode cX8_says 136 = .ok (.aload_n 0, 1) := by decide +kernel
theorem dX8_says_137 : decode cX8_says 137 = .ok (.invokevirtual 224, 3) := by decide +kernel
theorem dX8_says_140 : decode cX8_says 140 = .ok (.aload_n 0, 1) := by decide +kernel
theorem dX8_says_141 : decode cX8_says 141 = .ok (.invokevirtual 227, 3) := by decide +kernel
theorem dX8_says_144 : decode cX8_says 144 = .ok (.ifCond .eq 25, 3) := by decide +kernel
theorem dX8_says_147 : decode cX8_says 147 = .ok (.aload_n 0, 1) := by decide +kernel
theorem dX8_says_148 : decode cX8_says 148 = .ok (.aload_n 0, 1) := by decide +kernel
theorem dX8_says_149 : decode cX8_says 149 = .ok (.getfield 44, 3) := by decide +kernel
theorem dX8_says_152 : decode cX8_says 152 = .ok (.invokevirtual 230, 3) := by decide +kernel
theorem dX8_says_155 : decode cX8_says 155 = .ok (.ifCond .eq (-15), 3) := by decide +kernel
theorem dX8_says_158 : decode cX8_says 158 = .ok (.aload_n 0, 1) := by decide +kernel
theorem dX8_says_159 : decode cX8_says 159 = .ok (.iload 5, 2) := by decide +kernel
theorem dX8_says_161 : decode cX8_says 161 = .ok (.iload_n 3, 1) := by decide +kernel
theorem dX8_says_162 : decode cX8_says 162 = .ok (.iload_n 2, 1) := by decide +kernel
theorem dX8_says_163 : decode cX8_says 163 = .ok (.invokevirtual 234, 3) := by decide +kernel
theorem dX8_says_166 : decode cX8_says 166 = .ok (.goto (-26), 3) := by decide +kernel
theorem dX8_says_169 : decode cX8_says 169 = .ok (.aload_n 0, 1) := by decide +kernel
theorem dX8_says_170 : decode cX8_says 170 = .ok (.getfield 7, 3) := by decide +kernel
theorem dX8_says_173 : decode cX8_says 173 = .ok (.iconst 2, 1) := by decide +kernel
theorem dX8_says_174 : decode cX8_says 174 = .ok (.iaload, 1) := by decide +kernel
theorem dX8_says_175 : decode cX8_says 175 = .ok (.iload 6, 2) := by decide +kernel
theorem dX8_says_177 : decode cX8_says 177 = .ok (.isub, 1) := by decide +kernel
theorem dX8_says_178 : decode cX8_says 178 = .ok (.ireturn, 1) := by decide +kernel
theorem dX8_isClient_0 : decode cX8_isClient 0 = .ok (.iload_n 0, 1) := by decide +kernel
theorem dX8_isClient_1 : decode cX8_isClient 1 = .ok (.i2l, 1) := by decide +kernel
theorem dX8_isClient_2 : decode cX8_isClient 2 = .ok (.lconst 0, 1) := by decide +kernel
theorem dX8_isClient_3 : decode cX8_isClient 3 = .ok (.ldc2_w 238, 3) := by decide +kernel
theorem dX8_isClient_6 : decode cX8_isClient 6 = .ok (.invokestatic 59, 3) := by decide +kernel
theorem dX8_isClient_9 : decode cX8_isClient 9 = .ok (.ireturn, 1) := by decide +kernel
theorem dX8_isNew_0 : decode cX8_isNew 0 = .ok (.iconst 0, 1) := by decide +kernel
theorem dX8_isNew_1 : decode cX8_isNew 1 = .ok (.istore_n 3, 1) := by decide +kernel
theorem dX8_isNew_2 : decode cX8_isNew 2 = .ok (.iload_n 3, 1) := by decide +kernel
theorem dX8_isNew_3 : decode cX8_isNew 3 = .ok (.sipush 961, 3) := by decide +kernel
theorem dX8_isNew_6 : decode cX8_isNew 6 = .ok (.if_icmp .ge 85, 3) := by decide +kernel
theorem dX8_isNew_9 : decode cX8_isNew 9 = .ok (.iload_n 3, 1) := by decide +kernel
theorem dX8_isNew_10 : decode cX8_isNew 10 = .ok (.bipush 10, 2) := by decide +kernel
theorem dX8_isNew_12 : decode cX8_isNew 12 = .ok (.if_icmp .eq 37, 3) := by decide +kernel
theorem dX8_isNew_15 : decode cX8_isNew 15 = .ok (.iload_n 3, 1) := by decide +kernel
theorem dX8_isNew_16 : decode cX8_isNew 16 = .ok (.bipush 11, 2) := by decide +kernel
theorem dX8_isNew_18 : decode cX8_isNew 18 = .ok (.if_icmp .eq 31, 3) := by decide +kernel
theorem dX8_isNew_21 : decode cX8_isNew 21 = .ok (.iload_n 3, 1) := by decide +kernel
theorem dX8_isNew_22 : decode cX8_isNew 22 = .ok (.i2l, 1) := by decide +kernel
theorem dX8_isNew_23 : decode cX8_isNew 23 = .ok (.ldc2_w 240, 3) := by decide +kernel
theorem dX8_isNew_26 : decode cX8_isNew 26 = .ok (.ldc2_w 164, 3) := by decide +kernel
theorem dX8_isNew_29 : decode cX8_isNew 29 = .ok (.invokestatic 59, 3) := by decide +kernel
theorem dX8_isNew_32 : decode cX8_isNew 32 = .ok (.ifCond .ne 17, 3) := by decide +kernel
theorem dX8_isNew_35 : decode cX8_isNew 35 = .ok (.iload_n 3, 1) := by decide +kernel
theorem dX8_isNew_36 : decode cX8_isNew 36 = .ok (.i2l, 1) := by decide +kernel
theorem dX8_isNew_37 : decode cX8_isNew 37 = .ok (.ldc2_w 242, 3) := by decide +kernel
theorem dX8_isNew_40 : decode cX8_isNew 40 = .ok (.ldc2_w 244, 3) := by decide +kernel
theorem dX8_isNew_43 : decode cX8_isNew 43 = .ok (.invokestatic 59, 3) := by decide +kernel
theorem dX8_isNew_46 : decode cX8_isNew 46 = .ok (.ifCond .eq 7, 3) := by decide +kernel
theorem dX8_isNew_49 : decode cX8_isNew 49 = .ok (.iconst 1, 1) := by decide +kernel
theorem dX8_isNew_50 : decode cX8_isNew 50 = .ok (.goto 4, 3) := by decide +kernel
theorem dX8_isNew_53 : decode cX8_isNew 53 = .ok (.iconst 0, 1) := by decide +kernel
theorem dX8_isNew_54 : decode cX8_isNew 54 = .ok (.istore 4, 2) := by decide +kernel
theorem dX8_isNew_56 : decode cX8_isNew 56 = .ok (.aload_n 0, 1) := by decide +kernel
theorem dX8_isNew_57 : decode cX8_isNew 57 = .ok (.getfield 7, 3) := by decide +kernel
theorem dX8_isNew_60 : decode cX8_isNew 60 = .ok (.iload_n 1, 1) := by decide +kernel
theorem dX8_isNew_61 : decode cX8_isNew 61 = .ok (.iload_n 3, 1) := by decide +kernel
theorem dX8_isNew_62 : decode cX8_isNew 62 = .ok (.invokestatic 115, 3) := by decide +kernel
theorem dX8_isNew_65 : decode cX8_isNew 65 = .ok (.iload 4, 2) := by decide +kernel
theorem dX8_isNew_67 : decode cX8_isNew 67 = .ok (.ifCond .eq 16, 3) := by decide +kernel
theorem dX8_isNew_70 : decode cX8_isNew 70 = .ok (.aload_n 0, 1) := by decide +kernel
theorem dX8_isNew_71 : decode cX8_isNew 71 = .ok (.getfield 7, 3) := by decide +kernel
theorem dX8_isNew_74 : decode cX8_isNew 74 = .ok (.iload_n 1, 1) := by decide +kernel
theorem dX8_isNew_75 : decode cX8_isNew 75 = .ok (.iload_n 3, 1) := by decide +kernel
theorem dX8_isNew_76 : decode cX8_isNew 76 = .ok (.invokestatic 115, 3) := by decide +kernel
theorem dX8_isNew_79 : decode cX8_isNew 79 = .ok (.iaload, 1) := by decide +kernel
theorem dX8_isNew_80 : decode cX8_isNew 80 = .ok (.goto 4, 3) := by decide +kernel
theorem dX8_isNew_83 : decode cX8_isNew 83 = .ok (.iconst 0, 1) := by decide +kernel
theorem dX8_isNew_84 : decode cX8_isNew 84 = .ok (.iastore, 1) := by decide +kernel
theorem dX8_isNew_85 : decode cX8_isNew 85 = .ok (.iinc 3 1, 3) := by decide +kernel
theorem dX8_isNew_88 : decode cX8_isNew 88 = .ok (.goto (-86), 3) := by decide +kernel
theorem dX8_isNew_91 : decode cX8_isNew 91 = .ok (.aload_n 0, 1) := by decide +kernel
theorem dX8_isNew_92 : decode cX8_isNew 92 = .ok (.getfield 7, 3) := by decide +kernel
theorem dX8_isNew_95 : decode cX8_isNew 95 = .ok (.iload_n 1, 1) := by decide +kernel
theorem dX8_isNew_96 : decode cX8_isNew 96 = .ok (.iconst 0, 1) := by decide +kernel
theorem dX8_isNew_97 : decode cX8_isNew 97 = .ok (.invokestatic 115, 3) := by decide +kernel
theorem dX8_isNew_100 : decode cX8_isNew 100 = .ok (.iload_n 2, 1) := by decide +kernel
theorem dX8_isNew_101 : decode cX8_isNew 101 = .ok (.iastore, 1) := by decide +kernel
theorem dX8_isNew_102 : decode cX8_isNew 102 = .ok (.aload_n 0, 1) := by decide +kernel
theorem dX8_isNew_103 : decode cX8_isNew 103 = .ok (.getfield 7, 3) := by decide +kernel
theorem dX8_isNew_106 : decode cX8_isNew 106 = .ok (.iload_n 1, 1) := by decide +kernel
theorem dX8_isNew_107 : decode cX8_isNew 107 = .ok (.bipush 9, 2) := by decide +kernel
theorem dX8_isNew_109 : decode cX8_isNew 109 = .ok (.invokestatic 115, 3) := by decide +kernel
theorem dX8_isNew_112 : decode cX8_isNew 112 = .ok (.iconst 1, 1) := by decide +kernel
theorem dX8_isNew_113 : decode cX8_isNew 113 = .ok (.iastore, 1) := by decide +kernel
theorem dX8_isNew_114 : decode cX8_isNew 114 = .ok (.aload_n 0, 1) := by decide +kernel
theorem dX8_isNew_115 : decode cX8_isNew 115 = .ok (.invokevirtual 246, 3) := by decide +kernel
theorem dX8_isNew_118 : decode cX8_isNew 118 = .ok (.return_, 1) := by decide +kernel
theorem dX8_wake_0 : decode cX8_wake 0 = .ok (.iload_n 1, 1) := by decide +kernel
theorem dX8_wake_1 : decode cX8_wake 1 = .ok (.invokestatic 249, 3) := by decide +kernel
theorem dX8_wake_4 : decode cX8_wake 4 = .ok (.ifCond .eq 25, 3) := by decide +kernel
theorem dX8_wake_7 : decode cX8_wake 7 = .ok (.iload_n 2, 1) := by decide +kernel
theorem dX8_wake_8 : decode cX8_wake 8 = .ok (.i2l, 1) := by decide +kernel
theorem dX8_wake_9 : decode cX8_wake 9 = .ok (.lconst 0, 1) := by decide +kernel
theorem dX8_wake_10 : decode cX8_wake 10 = .ok (.lconst 1, 1) := by decide +kernel
theorem dX8_wake_11 : decode cX8_wake 11 = .ok (.invokestatic 59, 3) := by decide +kernel
theorem dX8_wake_14 : decode cX8_wake 14 = .ok (.ifCond .eq 15, 3) := by decide +kernel
theorem dX8_wake_17 : decode cX8_wake 17 = .ok (.iload_n 3, 1) := by decide +kernel
theorem dX8_wake_18 : decode cX8_wake 18 = .ok (.i2l, 1) := by decide +kernel
theorem dX8_wake_19 : decode cX8_wake 19 = .ok (.lconst 0, 1) := by decide +kernel
theorem dX8_wake_20 : decode cX8_wake 20 = .ok (.ldc2_w 252, 3) := by decide +kernel
theorem dX8_wake_23 : decode cX8_wake 23 = .ok (.invokestatic 59, 3) := by decide +kernel
theorem dX8_wake_26 : decode cX8_wake 26 = .ok (.ifCond .ne 5, 3) := by decide +kernel
theorem dX8_wake_29 : decode cX8_wake 29 = .ok (.iconst (-1), 1) := by decide +kernel
theorem dX8_wake_30 : decode cX8_wake 30 = .ok (.ireturn, 1) := by decide +kernel
theorem dX8_wake_31 : decode cX8_wake 31 = .ok (.aload_n 0, 1) := by decide +kernel
theorem dX8_wake_32 : decode cX8_wake 32 = .ok (.iload_n 1, 1) := by decide +kernel
theorem dX8_wake_33 : decode cX8_wake 33 = .ok (.invokevirtual 177, 3) := by decide +kernel
theorem dX8_wake_36 : decode cX8_wake 36 = .ok (.ifCond .eq 6, 3) := by decide +kernel
theorem dX8_wake_39 : decode cX8_wake 39 = .ok (.bipush (-2), 2) := by decide +kernel
theorem dX8_wake_41 : decode cX8_wake 41 = .ok (.ireturn, 1) := by decide +kernel
theorem dX8_wake_42 : decode cX8_wake 42 = .ok (.iload_n 2, 1) := by decide +kernel
theorem dX8_wake_43 : decode cX8_wake 43 = .ok (.ifCond .ne 17, 3) := by decide +kernel
theorem dX8_wake_46 : decode cX8_wake 46 = .ok (.aload_n 0, 1) := by decide +kernel
theorem dX8_wake_47 : decode cX8_wake 47 = .ok (.iload_n 1, 1) := by decide +kernel
theorem dX8_wake_48 : decode cX8_wake 48 = .ok (.iconst 0, 1) := by decide +kernel
theorem dX8_wake_49 : decode cX8_wake 49 = .ok (.invokevirtual 166, 3) := by decide +kernel
theorem dX8_wake_52 : decode cX8_wake 52 = .ok (.iconst 2, 1) := by decide +kernel
theorem dX8_wake_53 : decode cX8_wake 53 = .ok (.if_icmp .ne 7, 3) := by decide +kernel
theorem dX8_wake_56 : decode cX8_wake 56 = .ok (.iconst 1, 1) := by decide +kernel
theorem dX8_wake_57 : decode cX8_wake 57 = .ok (.goto 4, 3) := by decide +kernel
theorem dX8_wake_60 : decode cX8_wake 60 = .ok (.iconst 0, 1) := by decide +kernel
theorem dX8_wake_61 : decode cX8_wake 61 = .ok (.istore 4, 2) := by decide +kernel
theorem dX8_wake_63 : decode cX8_wake 63 = .ok (.iload 4, 2) := by decide +kernel
theorem dX8_wake_65 : decode cX8_wake 65 = .ok (.ifCond .ne 9, 3) := by decide +kernel
theorem dX8_wake_68 : decode cX8_wake 68 = .ok (.aload_n 0, 1) := by decide +kernel
theorem dX8_wake_69 : decode cX8_wake 69 = .ok (.iload_n 1, 1) := by decide +kernel
theorem dX8_wake_70 : decode cX8_wake 70 = .ok (.iconst 1, 1) := by decide +kernel
theorem dX8_wake_71 : decode cX8_wake 71 = .ok (.invokevirtual 254, 3) := by decide +kernel
theorem dX8_wake_74 : decode cX8_wake 74 = .ok (.aload_n 0, 1) := by decide +kernel
theorem dX8_wake_75 : decode cX8_wake 75 = .ok (.getfield 7, 3) := by decide +kernel
theorem dX8_wake_78 : decode cX8_wake 78 = .ok (.iload_n 1, 1) := by decide +kernel
theorem dX8_wake_79 : decode cX8_wake 79 = .ok (.iconst 0, 1) := by decide +kernel
theorem dX8_wake_80 : decode cX8_wake 80 = .ok (.invokestatic 115, 3) := by decide +kernel
theorem dX8_wake_83 : decode cX8_wake 83 = .ok (.iconst 1, 1) := by decide +kernel
theorem dX8_wake_84 : decode cX8_wake 84 = .ok (.iastore, 1) := by decide +kernel
theorem dX8_wake_85 : decode cX8_wake 85 = .ok (.aload_n 0, 1) := by decide +kernel
theorem dX8_wake_86 : decode cX8_wake 86 = .ok (.getfield 7, 3) := by decide +kernel
theorem dX8_wake_89 : decode cX8_wake 89 = .ok (.iload_n 1, 1) := by decide +kernel
theorem dX8_wake_90 : decode cX8_wake 90 = .ok (.iconst 1, 1) := by decide +kernel
theorem dX8_wake_91 : decode cX8_wake 91 = .ok (.invokestatic 115, 3) := by decide +kernel
theorem dX8_wake_94 : decode cX8_wake 94 = .ok (.iload_n 3, 1) := by decide +kernel
theorem dX8_wake_95 : decode cX8_wake 95 = .ok (.iastore, 1) := by decide +kernel
theorem dX8_wake_96 : decode cX8_wake 96 = .ok (.aload_n 0, 1) := by decide +kernel
theorem dX8_wake_97 : decode cX8_wake 97 = .ok (.getfield 7, 3) := by decide +kernel
theorem dX8_wake_100 : decode cX8_wake 100 = .ok (.iload_n 1, 1) := by decide +kernel
theorem dX8_wake_101 : decode cX8_wake 101 = .ok (.bipush 12, 2) := by decide +kernel
theorem dX8_wake_103 : decode cX8_wake 103 = .ok (.invokestatic 115, 3) := by decide +kernel
theorem dX8_wake_106 : decode cX8_wake 106 = .ok (.iconst 0, 1) := by decide +kernel
theorem dX8_wake_107 : decode cX8_wake 107 = .ok (.iastore, 1) := by decide +kernel
theorem dX8_wake_108 : decode cX8_wake 108 = .ok (.aload_n 0, 1) := by decide +kernel
theorem dX8_wake_109 : decode cX8_wake 109 = .ok (.getfield 7, 3) := by decide +kernel
theorem dX8_wake_112 : decode cX8_wake 112 = .ok (.iload_n 1, 1) := by decide +kernel
theorem dX8_wake_113 : decode cX8_wake 113 = .ok (.bipush 21, 2) := by decide +kernel
theorem dX8_wake_115 : decode cX8_wake 115 = .ok (.invokestatic 115, 3) := by decide +kernel
theorem dX8_wake_118 : decode cX8_wake 118 = .ok (.bipush (-4), 2) := by decide +kernel
theorem dX8_wake_120 : decode cX8_wake 120 = .ok (.iastore, 1) := by decide +kernel
theorem dX8_wake_121 : decode cX8_wake 121 = .ok (.aload_n 0, 1) := by decide +kernel
theorem dX8_wake_122 : decode cX8_wake 122 = .ok (.getfield 7, 3) := by decide +kernel
theorem dX8_wake_125 : decode cX8_wake 125 = .ok (.iload_n 1, 1) := by decide +kernel
theorem dX8_wake_126 : decode cX8_wake 126 = .ok (.bipush 6, 2) := by decide +kernel
theorem dX8_wake_128 : decode cX8_wake 128 = .ok (.invokestatic 115, 3) := by decide +kernel
theorem dX8_wake_131 : decode cX8_wake 131 = .ok (.iconst 0, 1) := by decide +kernel
theorem dX8_wake_132 : decode cX8_wake 132 = .ok (.iastore, 1) := by decide +kernel
theorem dX8_wake_133 : decode cX8_wake 133 = .ok (.aload_n 0, 1) := by decide +kernel
theorem dX8_wake_134 : decode cX8_wake 134 = .ok (.getfield 7, 3) := by decide +kernel
theorem dX8_wake_137 : decode cX8_wake 137 = .ok (.iload_n 1, 1) := by decide +kernel
theorem dX8_wake_138 : decode cX8_wake 138 = .ok (.bipush 7, 2) := by decide +kernel
theorem dX8_wake_140 : decode cX8_wake 140 = .ok (.invokestatic 115, 3) := by decide +kernel
theorem dX8_wake_143 : decode cX8_wake 143 = .ok (.iconst 0, 1) := by decide +kernel
theorem dX8_wake_144 : decode cX8_wake 144 = .ok (.iastore, 1) := by decide +kernel
theorem dX8_wake_145 : decode cX8_wake 145 = .ok (.iconst 0, 1) := by decide +kernel
theorem dX8_wake_146 : decode cX8_wake 146 = .ok (.istore 5, 2) := by decide +kernel
theorem dX8_wake_148 : decode cX8_wake 148 = .ok (.iload 5, 2) := by decide +kernel
theorem dX8_wake_150 : decode cX8_wake 150 = .ok (.aload_n 0, 1) := by decide +kernel
theorem dX8_wake_151 : decode cX8_wake 151 = .ok (.iload_n 1, 1) := by decide +kernel
theorem dX8_wake_152 : decode cX8_wake 152 = .ok (.iconst 4, 1) := by decide +kernel
theorem dX8_wake_153 : decode cX8_wake 153 = .ok (.invokevirtual 166, 3) := by decide +kernel
theorem dX8_wake_156 : decode cX8_wake 156 = .ok (.if_icmp .ge 16, 3) := by decide +kernel
theorem dX8_wake_159 : decode cX8_wake 159 = .ok (.aload_n 0, 1) := by decide +kernel
theorem dX8_wake_160 : decode cX8_wake 160 = .ok (.iload_n 1, 1) := by decide +kernel
theorem dX8_wake_161 : decode cX8_wake 161 = .ok (.iload 5, 2) := by decide +kernel
theorem dX8_wake_163 : decode cX8_wake 163 = .ok (.invokevirtual 173, 3) := by decide +kernel
theorem dX8_wake_166 : decode cX8_wake 166 = .ok (.iinc 5 1, 3) := by decide +kernel
theorem dX8_wake_169 : decode cX8_wake 169 = .ok (.goto (-21), 3) := by decide +kernel
theorem dX8_wake_172 : decode cX8_wake 172 = .ok (.aload_n 0, 1) := by decide +kernel
theorem dX8_wake_173 : decode cX8_wake 173 = .ok (.iload_n 1, 1) := by decide +kernel
theorem dX8_wake_174 : decode cX8_wake 174 = .ok (.invokevirtual 257, 3) := by decide +kernel
theorem dX8_wake_177 : decode cX8_wake 177 = .ok (.iload 4, 2) := by decide +kernel
theorem dX8_wake_179 : decode cX8_wake 179 = .ok (.invokestatic 260, 3) := by decide +kernel
theorem dX8_wake_182 : decode cX8_wake 182 = .ok (.ireturn, 1) := by decide +kernel
theorem dX8_saysWill_0 : decode cX8_saysWill 0 = .ok (.iload_n 1, 1) := by decide +kernel
theorem dX8_saysWill_1 : decode cX8_saysWill 1 = .ok (.bipush 22, 2) := by decide +kernel
theorem dX8_saysWill_3 : decode cX8_saysWill 3 = .ok (.invokestatic 115, 3) := by decide +kernel
theorem dX8_saysWill_6 : decode cX8_saysWill 6 = .ok (.istore_n 2, 1) := by decide +kernel
theorem dX8_saysWill_7 : decode cX8_saysWill 7 = .ok (.aload_n 0, 1) := by decide +kernel
theorem dX8_saysWill_8 : decode cX8_saysWill 8 = .ok (.getfield 7, 3) := by decide +kernel
theorem dX8_saysWill_11 : decode cX8_saysWill 11 = .ok (.iload_n 1, 1) := by decide +kernel
theorem dX8_saysWill_12 : decode cX8_saysWill 12 = .ok (.bipush 21, 2) := by decide +kernel
theorem dX8_saysWill_14 : decode cX8_saysWill 14 = .ok (.invokestatic 115, 3) := by decide +kernel
theorem dX8_saysWill_17 : decode cX8_saysWill 17 = .ok (.bipush (-4), 2) := by decide +kernel
theorem dX8_saysWill_19 : decode cX8_saysWill 19 = .ok (.iastore, 1) := by decide +kernel
theorem dX8_saysWill_20 : decode cX8_saysWill 20 = .ok (.iconst 0, 1) := by decide +kernel
theorem dX8_saysWill_21 : decode cX8_saysWill 21 = .ok (.istore_n 3, 1) := by decide +kernel
theorem dX8_saysWill_22 : decode cX8_saysWill 22 = .ok (.iload_n 3, 1) := by decide +kernel
theorem dX8_saysWill_23 : decode cX8_saysWill 23 = .ok (.iconst 4, 1) := by decide +kernel
theorem dX8_saysWill_24 : decode cX8_saysWill 24 = .ok (.if_icmp .ge 23, 3) := by decide +kernel
theorem dX8_saysWill_27 : decode cX8_saysWill 27 = .ok (.aload_n 0, 1) := by decide +kernel
theorem dX8_saysWill_28 : decode cX8_saysWill 28 = .ok (.getfield 47, 3) := by decide +kernel
theorem dX8_saysWill_31 : decode cX8_saysWill 31 = .ok (.iload_n 3, 1) := by decide +kernel
theorem dX8_saysWill_32 : decode cX8_saysWill 32 = .ok (.aload_n 0, 1) := by decide +kernel
theorem dX8_saysWill_33 : decode cX8_saysWill 33 = .ok (.getfield 7, 3) := by decide +kernel
theorem dX8_saysWill_36 : decode cX8_saysWill 36 = .ok (.iload_n 2, 1) := by decide +kernel
theorem dX8_saysWill_37 : decode cX8_saysWill 37 = .ok (.iload_n 3, 1) := by decide +kernel
theorem dX8_saysWill_38 : decode cX8_saysWill 38 = .ok (.iadd, 1) := by decide +kernel
theorem dX8_saysWill_39 : decode cX8_saysWill 39 = .ok (.iaload, 1) := by decide +kernel
theorem dX8_saysWill_40 : decode cX8_saysWill 40 = .ok (.iastore, 1) := by decide +kernel
theorem dX8_saysWill_41 : decode cX8_saysWill 41 = .ok (.iinc 3 1, 3) := by decide +kernel
theorem dX8_saysWill_44 : decode cX8_saysWill 44 = .ok (.goto (-22), 3) := by decide +kernel
theorem dX8_saysWill_47 : decode cX8_saysWill 47 = .ok (.aload_n 0, 1) := by decide +kernel
theorem dX8_saysWill_48 : decode cX8_saysWill 48 = .ok (.aload_n 0, 1) := by decide +kernel
theorem dX8_saysWill_49 : decode cX8_saysWill 49 = .ok (.getfield 47, 3) := by decide +kernel
theorem dX8_saysWill_52 : decode cX8_saysWill 52 = .ok (.aload_n 0, 1) := by decide +kernel
theorem dX8_saysWill_53 : decode cX8_saysWill 53 = .ok (.getfield 7, 3) := by decide +kernel
theorem dX8_saysWill_56 : decode cX8_saysWill 56 = .ok (.iload_n 2, 1) := by decide +kernel
theorem dX8_saysWill_57 : decode cX8_saysWill 57 = .ok (.iconst 4, 1) := by decide +kernel
theorem dX8_saysWill_58 : decode cX8_saysWill 58 = .ok (.iadd, 1) := by decide +kernel
theorem dX8_saysWill_59 : decode cX8_saysWill 59 = .ok (.iaload, 1) := by decide +kernel
theorem dX8_saysWill_60 : decode cX8_saysWill 60 = .ok (.aload_n 0, 1) := by decide +kernel
theorem dX8_saysWill_61 : decode cX8_saysWill 61 = .ok (.getfield 7, 3) := by decide +kernel
theorem dX8_saysWill_64 : decode cX8_saysWill 64 = .ok (.iload_n 2, 1) := by decide +kernel
theorem dX8_saysWill_65 : decode cX8_saysWill 65 = .ok (.iconst 5, 1) := by decide +kernel
theorem dX8_saysWill_66 : decode cX8_saysWill 66 = .ok (.iadd, 1) := by decide +kernel
theorem dX8_saysWill_67 : decode cX8_saysWill 67 = .ok (.iaload, 1) := by decide +kernel
theorem dX8_saysWill_68 : decode cX8_saysWill 68 = .ok (.aload_n 0, 1) := by decide +kernel
theorem dX8_saysWill_69 : decode cX8_saysWill 69 = .ok (.getfield 7, 3) := by decide +kernel
theorem dX8_saysWill_72 : decode cX8_saysWill 72 = .ok (.iload_n 2, 1) := by decide +kernel
theorem dX8_saysWill_73 : decode cX8_saysWill 73 = .ok (.bipush 6, 2) := by decide +kernel
theorem dX8_saysWill_75 : decode cX8_saysWill 75 = .ok (.iadd, 1) := by decide +kernel
theorem dX8_saysWill_76 : decode cX8_saysWill 76 = .ok (.iaload, 1) := by decide +kernel
theorem dX8_saysWill_77 : decode cX8_saysWill 77 = .ok (.invokevirtual 264, 3) := by decide +kernel
theorem dX8_saysWill_80 : decode cX8_saysWill 80 = .ok (.ireturn, 1) := by decide +kernel
theorem dX8_sleep_0 : decode cX8_sleep 0 = .ok (.iload_n 1, 1) := by decide +kernel
theorem dX8_sleep_1 : decode cX8_sleep 1 = .ok (.invokestatic 249, 3) := by decide +kernel
theorem dX8_sleep_4 : decode cX8_sleep 4 = .ok (.ifCond .eq 13, 3) := by decide +kernel
theorem dX8_sleep_7 : decode cX8_sleep 7 = .ok (.iload_n 2, 1) := by decide +kernel
theorem dX8_sleep_8 : decode cX8_sleep 8 = .ok (.i2l, 1) := by decide +kernel
theorem dX8_sleep_9 : decode cX8_sleep 9 = .ok (.lconst 0, 1) := by decide +kernel
theorem dX8_sleep_10 : decode cX8_sleep 10 = .ok (.lconst 1, 1) := by decide +kernel
theorem dX8_sleep_11 : decode cX8_sleep 11 = .ok (.invokestatic 59, 3) := by decide +kernel
theorem dX8_sleep_14 : decode cX8_sleep 14 = .ok (.ifCond .ne 5, 3) := by decide +kernel
theorem dX8_sleep_17 : decode cX8_sleep 17 = .ok (.iconst (-1), 1) := by decide +kernel
theorem dX8_sleep_18 : decode cX8_sleep 18 = .ok (.ireturn, 1) := by decide +kernel
theorem dX8_sleep_19 : decode cX8_sleep 19 = .ok (.aload_n 0, 1) := by decide +kernel
theorem dX8_sleep_20 : decode cX8_sleep 20 = .ok (.iload_n 1, 1) := by decide +kernel
theorem dX8_sleep_21 : decode cX8_sleep 21 = .ok (.invokevirtual 177, 3) := by decide +kernel
theorem dX8_sleep_24 : decode cX8_sleep 24 = .ok (.ifCond .ne 6, 3) := by decide +kernel
theorem dX8_sleep_27 : decode cX8_sleep 27 = .ok (.bipush (-2), 2) := by decide +kernel
theorem dX8_sleep_29 : decode cX8_sleep 29 = .ok (.ireturn, 1) := by decide +kernel
theorem dX8_sleep_30 : decode cX8_sleep 30 = .ok (.iload_n 2, 1) := by decide +kernel
theorem dX8_sleep_31 : decode cX8_sleep 31 = .ok (.iconst 1, 1) := by decide +kernel
theorem dX8_sleep_32 : decode cX8_sleep 32 = .ok (.if_icmp .ne 18, 3) := by decide +kernel
theorem dX8_sleep_35 : decode cX8_sleep 35 = .ok (.aload_n 0, 1) := by decide +kernel
theorem dX8_sleep_36 : decode cX8_sleep 36 = .ok (.iload_n 1, 1) := by decide +kernel
theorem dX8_sleep_37 : decode cX8_sleep 37 = .ok (.bipush 12, 2) := by decide +kernel
theorem dX8_sleep_39 : decode cX8_sleep 39 = .ok (.invokevirtual 166, 3) := by decide +kernel
theorem dX8_sleep_42 : decode cX8_sleep 42 = .ok (.iconst 1, 1) := by decide +kernel
theorem dX8_sleep_43 : decode cX8_sleep 43 = .ok (.if_icmp .ne 7, 3) := by decide +kernel
theorem dX8_sleep_46 : decode cX8_sleep 46 = .ok (.iconst 1, 1) := by decide +kernel
theorem dX8_sleep_47 : decode cX8_sleep 47 = .ok (.goto 4, 3) := by decide +kernel
theorem dX8_sleep_50 : decode cX8_sleep 50 = .ok (.iconst 0, 1) := by decide +kernel
theorem dX8_sleep_51 : decode cX8_sleep 51 = .ok (.istore_n 3, 1) := by decide +kernel
theorem dX8_sleep_52 : decode cX8_sleep 52 = .ok (.aload_n 0, 1) := by decide +kernel
theorem dX8_sleep_53 : decode cX8_sleep 53 = .ok (.getfield 7, 3) := by decide +kernel
theorem dX8_sleep_56 : decode cX8_sleep 56 = .ok (.iload_n 1, 1) := by decide +kernel
theorem dX8_sleep_57 : decode cX8_sleep 57 = .ok (.iconst 0, 1) := by decide +kernel
theorem dX8_sleep_58 : decode cX8_sleep 58 = .ok (.invokestatic 115, 3) := by decide +kernel
theorem dX8_sleep_61 : decode cX8_sleep 61 = .ok (.iconst 2, 1) := by decide +kernel
theorem dX8_sleep_62 : decode cX8_sleep 62 = .ok (.iastore, 1) := by decide +kernel
theorem dX8_sleep_63 : decode cX8_sleep 63 = .ok (.aload_n 0, 1) := by decide +kernel
theorem dX8_sleep_64 : decode cX8_sleep 64 = .ok (.getfield 7, 3) := by decide +kernel
theorem dX8_sleep_67 : decode cX8_sleep 67 = .ok (.iload_n 1, 1) := by decide +kernel
theorem dX8_sleep_68 : decode cX8_sleep 68 = .ok (.iconst 2, 1) := by decide +kernel
theorem dX8_sleep_69 : decode cX8_sleep 69 = .ok (.invokestatic 115, 3) := by decide +kernel
theorem dX8_sleep_72 : decode cX8_sleep 72 = .ok (.aload_n 0, 1) := by decide +kernel
theorem dX8_sleep_73 : decode cX8_sleep 73 = .ok (.getfield 7, 3) := by decide +kernel
theorem dX8_sleep_76 : decode cX8_sleep 76 = .ok (.iconst 0, 1) := by decide +kernel
theorem dX8_sleep_77 : decode cX8_sleep 77 = .ok (.iaload, 1) := by decide +kernel
theorem dX8_sleep_78 : decode cX8_sleep 78 = .ok (.aload_n 0, 1) := by decide +kernel
theorem dX8_sleep_79 : decode cX8_sleep 79 = .ok (.iload_n 1, 1) := by decide +kernel
theorem dX8_sleep_80 : decode cX8_sleep 80 = .ok (.iconst 1, 1) := by decide +kernel
theorem dX8_sleep_81 : decode cX8_sleep 81 = .ok (.invokevirtual 166, 3) := by decide +kernel
theorem dX8_sleep_84 : decode cX8_sleep 84 = .ok (.iadd, 1) := by decide +kernel
theorem dX8_sleep_85 : decode cX8_sleep 85 = .ok (.iastore, 1) := by decide +kernel
theorem dX8_sleep_86 : decode cX8_sleep 86 = .ok (.aload_n 0, 1) := by decide +kernel
theorem dX8_sleep_87 : decode cX8_sleep 87 = .ok (.getfield 7, 3) := by decide +kernel
theorem dX8_sleep_90 : decode cX8_sleep 90 = .ok (.iload_n 1, 1) := by decide +kernel
theorem dX8_sleep_91 : decode cX8_sleep 91 = .ok (.bipush 6, 2) := by decide +kernel
theorem dX8_sleep_93 : decode cX8_sleep 93 = .ok (.invokestatic 115, 3) := by decide +kernel
theorem dX8_sleep_96 : decode cX8_sleep 96 = .ok (.iconst 0, 1) := by decide +kernel
theorem dX8_sleep_97 : decode cX8_sleep 97 = .ok (.iastore, 1) := by decide +kernel
theorem dX8_sleep_98 : decode cX8_sleep 98 = .ok (.aload_n 0, 1) := by decide +kernel
theorem dX8_sleep_99 : decode cX8_sleep 99 = .ok (.getfield 7, 3) := by decide +kernel
theorem dX8_sleep_102 : decode cX8_sleep 102 = .ok (.iload_n 1, 1) := by decide +kernel
theorem dX8_sleep_103 : decode cX8_sleep 103 = .ok (.bipush 7, 2) := by decide +kernel
theorem dX8_sleep_105 : decode cX8_sleep 105 = .ok (.invokestatic 115, 3) := by decide +kernel
theorem dX8_sleep_108 : decode cX8_sleep 108 = .ok (.iconst 0, 1) := by decide +kernel
theorem dX8_sleep_109 : decode cX8_sleep 109 = .ok (.iastore, 1) := by decide +kernel
theorem dX8_sleep_110 : decode cX8_sleep 110 = .ok (.aload_n 0, 1) := by decide +kernel
theorem dX8_sleep_111 : decode cX8_sleep 111 = .ok (.getfield 7, 3) := by decide +kernel
theorem dX8_sleep_114 : decode cX8_sleep 114 = .ok (.iload_n 1, 1) := by decide +kernel
theorem dX8_sleep_115 : decode cX8_sleep 115 = .ok (.bipush 12, 2) := by decide +kernel
theorem dX8_sleep_117 : decode cX8_sleep 117 = .ok (.invokestatic 115, 3) := by decide +kernel
theorem dX8_sleep_120 : decode cX8_sleep 120 = .ok (.iconst 0, 1) := by decide +kernel
theorem dX8_sleep_121 : decode cX8_sleep 121 = .ok (.iastore, 1) := by decide +kernel
theorem dX8_sleep_122 : decode cX8_sleep 122 = .ok (.iconst 0, 1) := by decide +kernel
theorem dX8_sleep_123 : decode cX8_sleep 123 = .ok (.istore 4, 2) := by decide +kernel
theorem dX8_sleep_125 : decode cX8_sleep 125 = .ok (.iload_n 3, 1) := by decide +kernel
theorem dX8_sleep_126 : decode cX8_sleep 126 = .ok (.ifCond .eq 104, 3) := by decide +kernel
theorem dX8_sleep_129 : decode cX8_sleep 129 = .ok (.iconst 0, 1) := by decide +kernel
theorem dX8_sleep_130 : decode cX8_sleep 130 = .ok (.istore 5, 2) := by decide +kernel
theorem dX8_sleep_132 : decode cX8_sleep 132 = .ok (.iload 5, 2) := by decide +kernel
theorem dX8_sleep_134 : decode cX8_sleep 134 = .ok (.bipush 7, 2) := by decide +kernel
theorem dX8_sleep_136 : decode cX8_sleep 136 = .ok (.if_icmp .ge 33, 3) := by decide +kernel
theorem dX8_sleep_139 : decode cX8_sleep 139 = .ok (.aload_n 0, 1) := by decide +kernel
theorem dX8_sleep_140 : decode cX8_sleep 140 = .ok (.getfield 7, 3) := by decide +kernel
theorem dX8_sleep_143 : decode cX8_sleep 143 = .ok (.iload_n 1, 1) := by decide +kernel
theorem dX8_sleep_144 : decode cX8_sleep 144 = .ok (.bipush 22, 2) := by decide +kernel
theorem dX8_sleep_146 : decode cX8_sleep 146 = .ok (.iload 5, 2) := by decide +kernel
theorem dX8_sleep_148 : decode cX8_sleep 148 = .ok (.iadd, 1) := by decide +kernel
theorem dX8_sleep_149 : decode cX8_sleep 149 = .ok (.invokestatic 115, 3) := by decide +kernel
theorem dX8_sleep_152 : decode cX8_sleep 152 = .ok (.aload_n 0, 1) := by decide +kernel
theorem dX8_sleep_153 : decode cX8_sleep 153 = .ok (.iload_n 1, 1) := by decide +kernel
theorem dX8_sleep_154 : decode cX8_sleep 154 = .ok (.bipush 13, 2) := by decide +kernel
theorem dX8_sleep_156 : decode cX8_sleep 156 = .ok (.iload 5, 2) := by decide +kernel
theorem dX8_sleep_158 : decode cX8_sleep 158 = .ok (.iadd, 1) := by decide +kernel
theorem dX8_sleep_159 : decode cX8_sleep 159 = .ok (.invokevirtual 166, 3) := by decide +kernel
theorem dX8_sleep_162 : decode cX8_sleep 162 = .ok (.iastore, 1) := by decide +kernel
theorem dX8_sleep_163 : decode cX8_sleep 163 = .ok (.iinc 5 1, 3) := by decide +kernel
theorem dX8_sleep_166 : decode cX8_sleep 166 = .ok (.goto (-34), 3) := by decide +kernel
theorem dX8_sleep_169 : decode cX8_sleep 169 = .ok (.aload_n 0, 1) := by decide +kernel
theorem dX8_sleep_170 : decode cX8_sleep 170 = .ok (.getfield 7, 3) := by decide +kernel
theorem dX8_sleep_173 : decode cX8_sleep 173 = .ok (.iload_n 1, 1) := by decide +kernel
theorem dX8_sleep_174 : decode cX8_sleep 174 = .ok (.bipush 21, 2) := by decide +kernel
theorem dX8_sleep_176 : decode cX8_sleep 176 = .ok (.invokestatic 115, 3) := by decide +kernel
theorem dX8_sleep_179 : decode cX8_sleep 179 = .ok (.aload_n 0, 1) := by decide +kernel
theorem dX8_sleep_180 : decode cX8_sleep 180 = .ok (.getfield 7, 3) := by decide +kernel
theorem dX8_sleep_183 : decode cX8_sleep 183 = .ok (.iconst 0, 1) := by decide +kernel
theorem dX8_sleep_184 : decode cX8_sleep 184 = .ok (.iaload, 1) := by decide +kernel
theorem dX8_sleep_185 : decode cX8_sleep 185 = .ok (.aload_n 0, 1) := by decide +kernel
theorem dX8_sleep_186 : decode cX8_sleep 186 = .ok (.iload_n 1, 1) := by decide +kernel
theorem dX8_sleep_187 : decode cX8_sleep 187 = .ok (.bipush 20, 2) := by decide +kernel
theorem dX8_sleep_189 : decode cX8_sleep 189 = .ok (.invokevirtual 166, 3) := by decide +kernel
theorem dX8_sleep_192 : decode cX8_sleep 192 = .ok (.aload_n 0, 1) := by decide +kernel
theorem dX8_sleep_193 : decode cX8_sleep 193 = .ok (.iload_n 1, 1) := by decide +kernel
theorem dX8_sleep_194 : decode cX8_sleep 194 = .ok (.iconst 1, 1) := by decide +kernel
theorem dX8_sleep_195 : decode cX8_sleep 195 = .ok (.invokevirtual 166, 3) := by decide +kernel
theorem dX8_sleep_198 : decode cX8_sleep 198 = .ok (.invokestatic 210, 3) := by decide +kernel
theorem dX8_sleep_201 : decode cX8_sleep 201 = .ok (.iadd, 1) := by decide +kernel
theorem dX8_sleep_202 : decode cX8_sleep 202 = .ok (.iastore, 1) := by decide +kernel
theorem dX8_sleep_203 : decode cX8_sleep 203 = .ok (.aload_n 0, 1) := by decide +kernel
theorem dX8_sleep_204 : decode cX8_sleep 204 = .ok (.iload_n 1, 1) := by decide +kernel
theorem dX8_sleep_205 : decode cX8_sleep 205 = .ok (.bipush 21, 2) := by decide +kernel
theorem dX8_sleep_207 : decode cX8_sleep 207 = .ok (.invokevirtual 166, 3) := by decide +kernel
theorem dX8_sleep_210 : decode cX8_sleep 210 = .ok (.aload_n 0, 1) := by decide +kernel
theorem dX8_sleep_211 : decode cX8_sleep 211 = .ok (.getfield 7, 3) := by decide +kernel
theorem dX8_sleep_214 : decode cX8_sleep 214 = .ok (.iconst 0, 1) := by decide +kernel
theorem dX8_sleep_215 : decode cX8_sleep 215 = .ok (.iaload, 1) := by decide +kernel
theorem dX8_sleep_216 : decode cX8_sleep 216 = .ok (.if_icmp .ne 11, 3) := by decide +kernel
theorem dX8_sleep_219 : decode cX8_sleep 219 = .ok (.aload_n 0, 1) := by decide +kernel
theorem dX8_sleep_220 : decode cX8_sleep 220 = .ok (.iload_n 1, 1) := by decide +kernel
theorem dX8_sleep_221 : decode cX8_sleep 221 = .ok (.invokevirtual 268, 3) := by decide +kernel
theorem dX8_sleep_224 : decode cX8_sleep 224 = .ok (.goto 4, 3) := by decide +kernel
theorem dX8_sleep_227 : decode cX8_sleep 227 = .ok (.iconst 0, 1) := by decide +kernel
theorem dX8_sleep_228 : decode cX8_sleep 228 = .ok (.istore 4, 2) := by decide +kernel
theorem dX8_sleep_230 : decode cX8_sleep 230 = .ok (.aload_n 0, 1) := by decide +kernel
theorem dX8_sleep_231 : decode cX8_sleep 231 = .ok (.iload_n 1, 1) := by decide +kernel
theorem dX8_sleep_232 : decode cX8_sleep 232 = .ok (.iconst 1, 1) := by decide +kernel
theorem dX8_sleep_233 : decode cX8_sleep 233 = .ok (.invokevirtual 166, 3) := by decide +kernel
theorem dX8_sleep_236 : decode cX8_sleep 236 = .ok (.ifCond .ne 9, 3) := by decide +kernel
theorem dX8_sleep_239 : decode cX8_sleep 239 = .ok (.aload_n 0, 1) := by decide +kernel
theorem dX8_sleep_240 : decode cX8_sleep 240 = .ok (.iload_n 1, 1) := by decide +kernel
theorem dX8_sleep_241 : decode cX8_sleep 241 = .ok (.iconst 0, 1) := by decide +kernel
theorem dX8_sleep_242 : decode cX8_sleep 242 = .ok (.invokevirtual 254, 3) := by decide +kernel
theorem dX8_sleep_245 : decode cX8_sleep 245 = .ok (.iload 4, 2) := by decide +kernel
theorem dX8_sleep_247 : decode cX8_sleep 247 = .ok (.ireturn, 1) := by decide +kernel
theorem dX8_will_0 : decode cX8_will 0 = .ok (.iload_n 1, 1) := by decide +kernel
theorem dX8_will_1 : decode cX8_will 1 = .ok (.invokestatic 249, 3) := by decide +kernel
theorem dX8_will_4 : decode cX8_will 4 = .ok (.ifCond .eq 51, 3) := by decide +kernel
theorem dX8_will_7 : decode cX8_will 7 = .ok (.iload_n 2, 1) := by decide +kernel
theorem dX8_will_8 : decode cX8_will 8 = .ok (.i2l, 1) := by decide +kernel
theorem dX8_will_9 : decode cX8_will 9 = .ok (.lconst 0, 1) := by decide +kernel
theorem dX8_will_10 : decode cX8_will 10 = .ok (.ldc2_w 252, 3) := by decide +kernel
theorem dX8_will_13 : decode cX8_will 13 = .ok (.invokestatic 59, 3) := by decide +kernel
theorem dX8_will_16 : decode cX8_will 16 = .ok (.ifCond .eq 39, 3) := by decide +kernel
theorem dX8_will_19 : decode cX8_will 19 = .ok (.iload_n 3, 1) := by decide +kernel
theorem dX8_will_20 : decode cX8_will 20 = .ok (.i2l, 1) := by decide +kernel
theorem dX8_will_21 : decode cX8_will 21 = .ok (.lconst 0, 1) := by decide +kernel
theorem dX8_will_22 : decode cX8_will 22 = .ok (.ldc2_w 271, 3) := by decide +kernel
theorem dX8_will_25 : decode cX8_will 25 = .ok (.invokestatic 59, 3) := by decide +kernel
theorem dX8_will_28 : decode cX8_will 28 = .ok (.ifCond .eq 27, 3) := by decide +kernel
theorem dX8_will_31 : decode cX8_will 31 = .ok (.iload 4, 2) := by decide +kernel
theorem dX8_will_33 : decode cX8_will 33 = .ok (.i2l, 1) := by decide +kernel
theorem dX8_will_34 : decode cX8_will 34 = .ok (.lconst 0, 1) := by decide +kernel
theorem dX8_will_35 : decode cX8_will 35 = .ok (.lconst 1, 1) := by decide +kernel
theorem dX8_will_36 : decode cX8_will 36 = .ok (.invokestatic 59, 3) := by decide +kernel
theorem dX8_will_39 : decode cX8_will 39 = .ok (.ifCond .eq 16, 3) := by decide +kernel
theorem dX8_will_42 : decode cX8_will 42 = .ok (.iload 5, 2) := by decide +kernel
theorem dX8_will_44 : decode cX8_will 44 = .ok (.i2l, 1) := by decide +kernel
theorem dX8_will_45 : decode cX8_will 45 = .ok (.lconst 0, 1) := by decide +kernel
theorem dX8_will_46 : decode cX8_will 46 = .ok (.ldc2_w 273, 3) := by decide +kernel
theorem dX8_will_49 : decode cX8_will 49 = .ok (.invokestatic 59, 3) := by decide +kernel
theorem dX8_will_52 : decode cX8_will 52 = .ok (.ifCond .ne 5, 3) := by decide +kernel
theorem dX8_will_55 : decode cX8_will 55 = .ok (.iconst (-1), 1) := by decide +kernel
theorem dX8_will_56 : decode cX8_will 56 = .ok (.ireturn, 1) := by decide +kernel
theorem dX8_will_57 : decode cX8_will 57 = .ok (.aload_n 0, 1) := by decide +kernel
theorem dX8_will_58 : decode cX8_will 58 = .ok (.iload_n 1, 1) := by decide +kernel
theorem dX8_will_59 : decode cX8_will 59 = .ok (.invokevirtual 177, 3) := by decide +kernel
theorem dX8_will_62 : decode cX8_will 62 = .ok (.ifCond .eq 10, 3) := by decide +kernel
theorem dX8_will_65 : decode cX8_will 65 = .ok (.aload_n 0, 1) := by decide +kernel
theorem dX8_will_66 : decode cX8_will 66 = .ok (.invokevirtual 275, 3) := by decide +kernel
theorem dX8_will_69 : decode cX8_will 69 = .ok (.ifCond .ne 6, 3) := by decide +kernel
theorem dX8_will_72 : decode cX8_will 72 = .ok (.bipush (-2), 2) := by decide +kernel
theorem dX8_will_74 : decode cX8_will 74 = .ok (.ireturn, 1) := by decide +kernel
theorem dX8_will_75 : decode cX8_will 75 = .ok (.aload_n 0, 1) := by decide +kernel
theorem dX8_will_76 : decode cX8_will 76 = .ok (.iload_n 1, 1) := by decide +kernel
theorem dX8_will_77 : decode cX8_will 77 = .ok (.bipush 12, 2) := by decide +kernel
theorem dX8_will_79 : decode cX8_will 79 = .ok (.invokevirtual 166, 3) := by decide +kernel
theorem dX8_will_82 : decode cX8_will 82 = .ok (.istore 6, 2) := by decide +kernel
theorem dX8_will_84 : decode cX8_will 84 = .ok (.iload_n 1, 1) := by decide +kernel
theorem dX8_will_85 : decode cX8_will 85 = .ok (.bipush 12, 2) := by decide +kernel
theorem dX8_will_87 : decode cX8_will 87 = .ok (.invokestatic 115, 3) := by decide +kernel
theorem dX8_will_90 : decode cX8_will 90 = .ok (.istore 7, 2) := by decide +kernel
theorem dX8_will_92 : decode cX8_will 92 = .ok (.aload_n 0, 1) := by decide +kernel
theorem dX8_will_93 : decode cX8_will 93 = .ok (.getfield 7, 3) := by decide +kernel
theorem dX8_will_96 : decode cX8_will 96 = .ok (.iload 7, 2) := by decide +kernel
theorem dX8_will_98 : decode cX8_will 98 = .ok (.iconst 1, 1) := by decide +kernel
theorem dX8_will_99 : decode cX8_will 99 = .ok (.iastore, 1) := by decide +kernel
theorem dX8_will_100 : decode cX8_will 100 = .ok (.iconst 0, 1) := by decide +kernel
theorem dX8_will_101 : decode cX8_will 101 = .ok (.istore 8, 2) := by decide +kernel
theorem dX8_will_103 : decode cX8_will 103 = .ok (.iload 8, 2) := by decide +kernel
theorem dX8_will_105 : decode cX8_will 105 = .ok (.iconst 4, 1) := by decide +kernel
theorem dX8_will_106 : decode cX8_will 106 = .ok (.if_icmp .ge 28, 3) := by decide +kernel
theorem dX8_will_109 : decode cX8_will 109 = .ok (.aload_n 0, 1) := by decide +kernel
theorem dX8_will_110 : decode cX8_will 110 = .ok (.getfield 7, 3) := by decide +kernel
theorem dX8_will_113 : decode cX8_will 113 = .ok (.iload 7, 2) := by decide +kernel
theorem dX8_will_115 : decode cX8_will 115 = .ok (.iconst 1, 1) := by decide +kernel
theorem dX8_will_116 : decode cX8_will 116 = .ok (.iadd, 1) := by decide +kernel
theorem dX8_will_117 : decode cX8_will 117 = .ok (.iload 8, 2) := by decide +kernel
theorem dX8_will_119 : decode cX8_will 119 = .ok (.iadd, 1) := by decide +kernel
theorem dX8_will_120 : decode cX8_will 120 = .ok (.aload_n 0, 1) := by decide +kernel
theorem dX8_will_121 : decode cX8_will 121 = .ok (.getfield 23, 3) := by decide +kernel
theorem dX8_will_124 : decode cX8_will 124 = .ok (.iload 8, 2) := by decide +kernel
theorem dX8_will_126 : decode cX8_will 126 = .ok (.iaload, 1) := by decide +kernel
theorem dX8_will_127 : decode cX8_will 127 = .ok (.iastore, 1) := by decide +kernel
theorem dX8_will_128 : decode cX8_will 128 = .ok (.iinc 8 1, 3) := by decide +kernel
theorem dX8_will_131 : decode cX8_will 131 = .ok (.goto (-28), 3) := by decide +kernel
theorem dX8_will_134 : decode cX8_will 134 = .ok (.aload_n 0, 1) := by decide +kernel
theorem dX8_will_135 : decode cX8_will 135 = .ok (.getfield 7, 3) := by decide +kernel
theorem dX8_will_138 : decode cX8_will 138 = .ok (.iload 7, 2) := by decide +kernel
theorem dX8_will_140 : decode cX8_will 140 = .ok (.iconst 5, 1) := by decide +kernel
theorem dX8_will_141 : decode cX8_will 141 = .ok (.iadd, 1) := by decide +kernel
theorem dX8_will_142 : decode cX8_will 142 = .ok (.iload_n 2, 1) := by decide +kernel
theorem dX8_will_143 : decode cX8_will 143 = .ok (.iastore, 1) := by decide +kernel
theorem dX8_will_144 : decode cX8_will 144 = .ok (.aload_n 0, 1) := by decide +kernel
theorem dX8_will_145 : decode cX8_will 145 = .ok (.getfield 7, 3) := by decide +kernel
theorem dX8_will_148 : decode cX8_will 148 = .ok (.iload 7, 2) := by decide +kernel
theorem dX8_will_150 : decode cX8_will 150 = .ok (.bipush 6, 2) := by decide +kernel
theorem dX8_will_152 : decode cX8_will 152 = .ok (.iadd, 1) := by decide +kernel
theorem dX8_will_153 : decode cX8_will 153 = .ok (.iload_n 3, 1) := by decide +kernel
theorem dX8_will_154 : decode cX8_will 154 = .ok (.iastore, 1) := by decide +kernel
theorem dX8_will_155 : decode cX8_will 155 = .ok (.aload_n 0, 1) := by decide +kernel
theorem dX8_will_156 : decode cX8_will 156 = .ok (.getfield 7, 3) := by decide +kernel
theorem dX8_will_159 : decode cX8_will 159 = .ok (.iload 7, 2) := by decide +kernel
theorem dX8_will_161 : decode cX8_will 161 = .ok (.bipush 7, 2) := by decide +kernel
theorem dX8_will_163 : decode cX8_will 163 = .ok (.iadd, 1) := by decide +kernel
theorem dX8_will_164 : decode cX8_will 164 = .ok (.iload 4, 2) := by decide +kernel
theorem dX8_will_166 : decode cX8_will 166 = .ok (.iastore, 1) := by decide +kernel
theorem dX8_will_167 : decode cX8_will 167 = .ok (.aload_n 0, 1) := by decide +kernel
theorem dX8_will_168 : decode cX8_will 168 = .ok (.getfield 7, 3) := by decide +kernel
theorem dX8_will_171 : decode cX8_will 171 = .ok (.iload 7, 2) := by decide +kernel
theorem dX8_will_173 : decode cX8_will 173 = .ok (.bipush 8, 2) := by decide +kernel
theorem dX8_will_175 : decode cX8_will 175 = .ok (.iadd, 1) := by decide +kernel
theorem dX8_will_176 : decode cX8_will 176 = .ok (.iload 5, 2) := by decide +kernel
theorem dX8_will_178 : decode cX8_will 178 = .ok (.iastore, 1) := by decide +kernel
theorem dX8_will_179 : decode cX8_will 179 = .ok (.iload 6, 2) := by decide +kernel
theorem dX8_will_181 : decode cX8_will 181 = .ok (.ireturn, 1) := by decide +kernel
theorem dX8_keptGoTo_0 : decode cX8_keptGoTo 0 = .ok (.iconst 0, 1) := by decide +kernel
theorem dX8_keptGoTo_1 : decode cX8_keptGoTo 1 = .ok (.istore 4, 2) := by decide +kernel
theorem dX8_keptGoTo_3 : decode cX8_keptGoTo 3 = .ok (.iconst 0, 1) := by decide +kernel
theorem dX8_keptGoTo_4 : decode cX8_keptGoTo 4 = .ok (.istore 5, 2) := by decide +kernel
theorem dX8_keptGoTo_6 : decode cX8_keptGoTo 6 = .ok (.iload 5, 2) := by decide +kernel
theorem dX8_keptGoTo_8 : decode cX8_keptGoTo 8 = .ok (.aload_n 0, 1) := by decide +kernel
theorem dX8_keptGoTo_9 : decode cX8_keptGoTo 9 = .ok (.getfield 7, 3) := by decide +kernel
theorem dX8_keptGoTo_12 : decode cX8_keptGoTo 12 = .ok (.bipush 6, 2) := by decide +kernel
theorem dX8_keptGoTo_14 : decode cX8_keptGoTo 14 = .ok (.iaload, 1) := by decide +kernel
theorem dX8_keptGoTo_15 : decode cX8_keptGoTo 15 = .ok (.if_icmp .ge 114, 3) := by decide +kernel
theorem dX8_keptGoTo_18 : decode cX8_keptGoTo 18 = .ok (.bipush 8, 2) := by decide +kernel
theorem dX8_keptGoTo_20 : decode cX8_keptGoTo 20 = .ok (.bipush 7, 2) := by decide +kernel
theorem dX8_keptGoTo_22 : decode cX8_keptGoTo 22 = .ok (.iload 5, 2) := by decide +kernel
theorem dX8_keptGoTo_24 : decode cX8_keptGoTo 24 = .ok (.imul, 1) := by decide +kernel
theorem dX8_keptGoTo_25 : decode cX8_keptGoTo 25 = .ok (.iadd, 1) := by decide +kernel
theorem dX8_keptGoTo_26 : decode cX8_keptGoTo 26 = .ok (.istore 6, 2) := by decide +kernel
theorem dX8_keptGoTo_28 : decode cX8_keptGoTo 28 = .ok (.iconst 0, 1) := by decide +kernel
theorem dX8_keptGoTo_29 : decode cX8_keptGoTo 29 = .ok (.istore 7, 2) := by decide +kernel
theorem dX8_keptGoTo_31 : decode cX8_keptGoTo 31 = .ok (.iload 7, 2) := by decide +kernel
theorem dX8_keptGoTo_33 : decode cX8_keptGoTo 33 = .ok (.iconst 4, 1) := by decide +kernel
theorem dX8_keptGoTo_34 : decode cX8_keptGoTo 34 = .ok (.if_icmp .ge 26, 3) := by decide +kernel
theorem dX8_keptGoTo_37 : decode cX8_keptGoTo 37 = .ok (.aload_n 0, 1) := by decide +kernel
theorem dX8_keptGoTo_38 : decode cX8_keptGoTo 38 = .ok (.getfield 47, 3) := by decide +kernel
theorem dX8_keptGoTo_41 : decode cX8_keptGoTo 41 = .ok (.iload 7, 2) := by decide +kernel
theorem dX8_keptGoTo_43 : decode cX8_keptGoTo 43 = .ok (.aload_n 0, 1) := by decide +kernel
theorem dX8_keptGoTo_44 : decode cX8_keptGoTo 44 = .ok (.getfield 7, 3) := by decide +kernel
theorem dX8_keptGoTo_47 : decode cX8_keptGoTo 47 = .ok (.iload 6, 2) := by decide +kernel
theorem dX8_keptGoTo_49 : decode cX8_keptGoTo 49 = .ok (.iload 7, 2) := by decide +kernel
theorem dX8_keptGoTo_51 : decode cX8_keptGoTo 51 = .ok (.iadd, 1) := by decide +kernel
theorem dX8_keptGoTo_52 : decode cX8_keptGoTo 52 = .ok (.iaload, 1) := by decide +kernel
theorem dX8_keptGoTo_53 : decode cX8_keptGoTo 53 = .ok (.iastore, 1) := by decide +kernel
theorem dX8_keptGoTo_54 : decode cX8_keptGoTo 54 = .ok (.iinc 7 1, 3) := by decide +kernel
theorem dX8_keptGoTo_57 : decode cX8_keptGoTo 57 = .ok (.goto (-26), 3) := by decide +kernel
theorem dX8_keptGoTo_60 : decode cX8_keptGoTo 60 = .ok (.aload_n 0, 1) := by decide +kernel
theorem dX8_keptGoTo_61 : decode cX8_keptGoTo 61 = .ok (.iload_n 1, 1) := by decide +kernel
theorem dX8_keptGoTo_62 : decode cX8_keptGoTo 62 = .ok (.bipush 45, 2) := by decide +kernel
theorem dX8_keptGoTo_64 : decode cX8_keptGoTo 64 = .ok (.bipush 6, 2) := by decide +kernel
theorem dX8_keptGoTo_66 : decode cX8_keptGoTo 66 = .ok (.iload_n 3, 1) := by decide +kernel
theorem dX8_keptGoTo_67 : decode cX8_keptGoTo 67 = .ok (.imul, 1) := by decide +kernel
theorem dX8_keptGoTo_68 : decode cX8_keptGoTo 68 = .ok (.iadd, 1) := by decide +kernel
theorem dX8_keptGoTo_69 : decode cX8_keptGoTo 69 = .ok (.invokestatic 115, 3) := by decide +kernel
theorem dX8_keptGoTo_72 : decode cX8_keptGoTo 72 = .ok (.aload_n 0, 1) := by decide +kernel
theorem dX8_keptGoTo_73 : decode cX8_keptGoTo 73 = .ok (.getfield 47, 3) := by decide +kernel
theorem dX8_keptGoTo_76 : decode cX8_keptGoTo 76 = .ok (.invokevirtual 184, 3) := by decide +kernel
theorem dX8_keptGoTo_79 : decode cX8_keptGoTo 79 = .ok (.ifCond .eq 44, 3) := by decide +kernel
theorem dX8_keptGoTo_82 : decode cX8_keptGoTo 82 = .ok (.aload_n 0, 1) := by decide +kernel
theorem dX8_keptGoTo_83 : decode cX8_keptGoTo 83 = .ok (.iload_n 1, 1) := by decide +kernel
theorem dX8_keptGoTo_84 : decode cX8_keptGoTo 84 = .ok (.aload_n 0, 1) := by decide +kernel
theorem dX8_keptGoTo_85 : decode cX8_keptGoTo 85 = .ok (.getfield 7, 3) := by decide +kernel
theorem dX8_keptGoTo_88 : decode cX8_keptGoTo 88 = .ok (.iload 6, 2) := by decide +kernel
theorem dX8_keptGoTo_90 : decode cX8_keptGoTo 90 = .ok (.bipush 6, 2) := by decide +kernel
theorem dX8_keptGoTo_92 : decode cX8_keptGoTo 92 = .ok (.iadd, 1) := by decide +kernel
theorem dX8_keptGoTo_93 : decode cX8_keptGoTo 93 = .ok (.iaload, 1) := by decide +kernel
theorem dX8_keptGoTo_94 : decode cX8_keptGoTo 94 = .ok (.iload_n 2, 1) := by decide +kernel
theorem dX8_keptGoTo_95 : decode cX8_keptGoTo 95 = .ok (.aload_n 0, 1) := by decide +kernel
theorem dX8_keptGoTo_96 : decode cX8_keptGoTo 96 = .ok (.getfield 7, 3) := by decide +kernel
theorem dX8_keptGoTo_99 : decode cX8_keptGoTo 99 = .ok (.iload 6, 2) := by decide +kernel
theorem dX8_keptGoTo_101 : decode cX8_keptGoTo 101 = .ok (.iconst 5, 1) := by decide +kernel
theorem dX8_keptGoTo_102 : decode cX8_keptGoTo 102 = .ok (.iadd, 1) := by decide +kernel
theorem dX8_keptGoTo_103 : decode cX8_keptGoTo 103 = .ok (.iaload, 1) := by decide +kernel
theorem dX8_keptGoTo_104 : decode cX8_keptGoTo 104 = .ok (.invokestatic 210, 3) := by decide +kernel
theorem dX8_keptGoTo_107 : decode cX8_keptGoTo 107 = .ok (.aload_n 0, 1) := by decide +kernel
theorem dX8_keptGoTo_108 : decode cX8_keptGoTo 108 = .ok (.getfield 7, 3) := by decide +kernel
theorem dX8_keptGoTo_111 : decode cX8_keptGoTo 111 = .ok (.iload 6, 2) := by decide +kernel
theorem dX8_keptGoTo_113 : decode cX8_keptGoTo 113 = .ok (.iconst 4, 1) := by decide +kernel
theorem dX8_keptGoTo_114 : decode cX8_keptGoTo 114 = .ok (.iadd, 1) := by decide +kernel
theorem dX8_keptGoTo_115 : decode cX8_keptGoTo 115 = .ok (.iaload, 1) := by decide +kernel
theorem dX8_keptGoTo_116 : decode cX8_keptGoTo 116 = .ok (.iconst 1, 1) := by decide +kernel
theorem dX8_keptGoTo_117 : decode cX8_keptGoTo 117 = .ok (.invokevirtual 213, 3) := by decide +kernel
theorem dX8_keptGoTo_120 : decode cX8_keptGoTo 120 = .ok (.iinc 4 1, 3) := by decide +kernel
theorem dX8_keptGoTo_123 : decode cX8_keptGoTo 123 = .ok (.iinc 5 1, 3) := by decide +kernel
theorem dX8_keptGoTo_126 : decode cX8_keptGoTo 126 = .ok (.goto (-120), 3) := by decide +kernel
theorem dX8_keptGoTo_129 : decode cX8_keptGoTo 129 = .ok (.iload 4, 2) := by decide +kernel
theorem dX8_keptGoTo_131 : decode cX8_keptGoTo 131 = .ok (.ireturn, 1) := by decide +kernel
theorem dX8_subscribe_0 : decode cX8_subscribe 0 = .ok (.iload_n 1, 1) := by decide +kernel
theorem dX8_subscribe_1 : decode cX8_subscribe 1 = .ok (.invokestatic 249, 3) := by decide +kernel
theorem dX8_subscribe_4 : decode cX8_subscribe 4 = .ok (.ifCond .eq 27, 3) := by decide +kernel
theorem dX8_subscribe_7 : decode cX8_subscribe 7 = .ok (.iload_n 2, 1) := by decide +kernel
theorem dX8_subscribe_8 : decode cX8_subscribe 8 = .ok (.i2l, 1) := by decide +kernel
theorem dX8_subscribe_9 : decode cX8_subscribe 9 = .ok (.lconst 0, 1) := by decide +kernel
theorem dX8_subscribe_10 : decode cX8_subscribe 10 = .ok (.ldc2_w 271, 3) := by decide +kernel
theorem dX8_subscribe_13 : decode cX8_subscribe 13 = .ok (.invokestatic 59, 3) := by decide +kernel
theorem dX8_subscribe_16 : decode cX8_subscribe 16 = .ok (.ifCond .eq 15, 3) := by decide +kernel
theorem dX8_subscribe_19 : decode cX8_subscribe 19 = .ok (.iload_n 3, 1) := by decide +kernel
theorem dX8_subscribe_20 : decode cX8_subscribe 20 = .ok (.i2l, 1) := by decide +kernel
theorem dX8_subscribe_21 : decode cX8_subscribe 21 = .ok (.lconst 0, 1) := by decide +kernel
theorem dX8_subscribe_22 : decode cX8_subscribe 22 = .ok (.ldc2_w 278, 3) := by decide +kernel
theorem dX8_subscribe_25 : decode cX8_subscribe 25 = .ok (.invokestatic 59, 3) := by decide +kernel
theorem dX8_subscribe_28 : decode cX8_subscribe 28 = .ok (.ifCond .ne 5, 3) := by decide +kernel
theorem dX8_subscribe_31 : decode cX8_subscribe 31 = .ok (.iconst (-1), 1) := by decide +kernel
theorem dX8_subscribe_32 : decode cX8_subscribe 32 = .ok (.ireturn, 1) := by decide +kernel
theorem dX8_subscribe_33 : decode cX8_subscribe 33 = .ok (.aload_n 0, 1) := by decide +kernel
theorem dX8_subscribe_34 : decode cX8_subscribe 34 = .ok (.iload_n 1, 1) := by decide +kernel
theorem dX8_subscribe_35 : decode cX8_subscribe 35 = .ok (.invokevirtual 177, 3) := by decide +kernel
theorem dX8_subscribe_38 : decode cX8_subscribe 38 = .ok (.ifCond .eq 10, 3) := by decide +kernel
theorem dX8_subscribe_41 : decode cX8_subscribe 41 = .ok (.aload_n 0, 1) := by decide +kernel
theorem dX8_subscribe_42 : decode cX8_subscribe 42 = .ok (.getfield 161, 3) := by decide +kernel
theorem dX8_subscribe_45 : decode cX8_subscribe 45 = .ok (.ifCond .ne 6, 3) := by decide +kernel
theorem dX8_subscribe_48 : decode cX8_subscribe 48 = .ok (.bipush (-2), 2) := by decide +kernel
theorem dX8_subscribe_50 : decode cX8_subscribe 50 = .ok (.ireturn, 1) := by decide +kernel
theorem dX8_subscribe_51 : decode cX8_subscribe 51 = .ok (.aload_n 0, 1) := by decide +kernel
theorem dX8_subscribe_52 : decode cX8_subscribe 52 = .ok (.getfield 7, 3) := by decide +kernel
theorem dX8_subscribe_55 : decode cX8_subscribe 55 = .ok (.iload_n 1, 1) := by decide +kernel
theorem dX8_subscribe_56 : decode cX8_subscribe 56 = .ok (.aload_n 0, 1) := by decide +kernel
theorem dX8_subscribe_57 : decode cX8_subscribe 57 = .ok (.getfield 23, 3) := by decide +kernel
theorem dX8_subscribe_60 : decode cX8_subscribe 60 = .ok (.iload_n 3, 1) := by decide +kernel
theorem dX8_subscribe_61 : decode cX8_subscribe 61 = .ok (.invokestatic 129, 3) := by decide +kernel
theorem dX8_subscribe_64 : decode cX8_subscribe 64 = .ok (.istore 4, 2) := by decide +kernel
theorem dX8_subscribe_66 : decode cX8_subscribe 66 = .ok (.iload 4, 2) := by decide +kernel
theorem dX8_subscribe_68 : decode cX8_subscribe 68 = .ok (.bipush (-4), 2) := by decide +kernel
theorem dX8_subscribe_70 : decode cX8_subscribe 70 = .ok (.if_icmp .ne 17, 3) := by decide +kernel
theorem dX8_subscribe_73 : decode cX8_subscribe 73 = .ok (.aload_n 0, 1) := by decide +kernel
theorem dX8_subscribe_74 : decode cX8_subscribe 74 = .ok (.iload_n 1, 1) := by decide +kernel
theorem dX8_subscribe_75 : decode cX8_subscribe 75 = .ok (.iconst 3, 1) := by decide +kernel
theorem dX8_subscribe_76 : decode cX8_subscribe 76 = .ok (.invokevirtual 166, 3) := by decide +kernel
theorem dX8_subscribe_79 : decode cX8_subscribe 79 = .ok (.bipush 6, 2) := by decide +kernel
theorem dX8_subscribe_81 : decode cX8_subscribe 81 = .ok (.if_icmp .ne 6, 3) := by decide +kernel
theorem dX8_subscribe_84 : decode cX8_subscribe 84 = .ok (.bipush (-3), 2) := by decide +kernel
theorem dX8_subscribe_86 : decode cX8_subscribe 86 = .ok (.ireturn, 1) := by decide +kernel
theorem dX8_subscribe_87 : decode cX8_subscribe 87 = .ok (.iload 4, 2) := by decide +kernel
theorem dX8_subscribe_89 : decode cX8_subscribe 89 = .ok (.bipush (-4), 2) := by decide +kernel
theorem dX8_subscribe_91 : decode cX8_subscribe 91 = .ok (.if_icmp .ne 25, 3) := by decide +kernel
theorem dX8_subscribe_94 : decode cX8_subscribe 94 = .ok (.aload_n 0, 1) := by decide +kernel
theorem dX8_subscribe_95 : decode cX8_subscribe 95 = .ok (.iload_n 1, 1) := by decide +kernel
theorem dX8_subscribe_96 : decode cX8_subscribe 96 = .ok (.iconst 3, 1) := by decide +kernel
theorem dX8_subscribe_97 : decode cX8_subscribe 97 = .ok (.invokevirtual 166, 3) := by decide +kernel
theorem dX8_subscribe_100 : decode cX8_subscribe 100 = .ok (.istore 4, 2) := by decide +kernel
theorem dX8_subscribe_102 : decode cX8_subscribe 102 = .ok (.aload_n 0, 1) := by decide +kernel
theorem dX8_subscribe_103 : decode cX8_subscribe 103 = .ok (.getfield 7, 3) := by decide +kernel
theorem dX8_subscribe_106 : decode cX8_subscribe 106 = .ok (.iload_n 1, 1) := by decide +kernel
theorem dX8_subscribe_107 : decode cX8_subscribe 107 = .ok (.aload_n 0, 1) := by decide +kernel
theorem dX8_subscribe_108 : decode cX8_subscribe 108 = .ok (.getfield 23, 3) := by decide +kernel
theorem dX8_subscribe_111 : decode cX8_subscribe 111 = .ok (.iload_n 2, 1) := by decide +kernel
theorem dX8_subscribe_112 : decode cX8_subscribe 112 = .ok (.iload_n 3, 1) := by decide +kernel
theorem dX8_subscribe_113 : decode cX8_subscribe 113 = .ok (.invokestatic 133, 3) := by decide +kernel
theorem dX8_subscribe_116 : decode cX8_subscribe 116 = .ok (.aload_n 0, 1) := by decide +kernel
theorem dX8_subscribe_117 : decode cX8_subscribe 117 = .ok (.getfield 7, 3) := by decide +kernel
theorem dX8_subscribe_120 : decode cX8_subscribe 120 = .ok (.iload_n 1, 1) := by decide +kernel
theorem dX8_subscribe_121 : decode cX8_subscribe 121 = .ok (.bipush 45, 2) := by decide +kernel
theorem dX8_subscribe_123 : decode cX8_subscribe 123 = .ok (.bipush 6, 2) := by decide +kernel
theorem dX8_subscribe_125 : decode cX8_subscribe 125 = .ok (.iload 4, 2) := by decide +kernel
theorem dX8_subscribe_127 : decode cX8_subscribe 127 = .ok (.imul, 1) := by decide +kernel
theorem dX8_subscribe_128 : decode cX8_subscribe 128 = .ok (.iadd, 1) := by decide +kernel
theorem dX8_subscribe_129 : decode cX8_subscribe 129 = .ok (.iconst 4, 1) := by decide +kernel
theorem dX8_subscribe_130 : decode cX8_subscribe 130 = .ok (.iadd, 1) := by decide +kernel
theorem dX8_subscribe_131 : decode cX8_subscribe 131 = .ok (.invokestatic 115, 3) := by decide +kernel
theorem dX8_subscribe_134 : decode cX8_subscribe 134 = .ok (.iload_n 2, 1) := by decide +kernel
theorem dX8_subscribe_135 : decode cX8_subscribe 135 = .ok (.iastore, 1) := by decide +kernel
theorem dX8_subscribe_136 : decode cX8_subscribe 136 = .ok (.iload_n 3, 1) := by decide +kernel
theorem dX8_subscribe_137 : decode cX8_subscribe 137 = .ok (.ifCond .ne 14, 3) := by decide +kernel
theorem dX8_subscribe_140 : decode cX8_subscribe 140 = .ok (.aload_n 0, 1) := by decide +kernel
theorem dX8_subscribe_141 : decode cX8_subscribe 141 = .ok (.iload_n 1, 1) := by decide +kernel
theorem dX8_subscribe_142 : decode cX8_subscribe 142 = .ok (.iload_n 2, 1) := by decide +kernel
theorem dX8_subscribe_143 : decode cX8_subscribe 143 = .ok (.iload 4, 2) := by decide +kernel
theorem dX8_subscribe_145 : decode cX8_subscribe 145 = .ok (.invokevirtual 280, 3) := by decide +kernel
theorem dX8_subscribe_148 : decode cX8_subscribe 148 = .ok (.goto 4, 3) := by decide +kernel
theorem dX8_subscribe_151 : decode cX8_subscribe 151 = .ok (.iconst 0, 1) := by decide +kernel
theorem dX8_subscribe_152 : decode cX8_subscribe 152 = .ok (.ireturn, 1) := by decide +kernel
theorem dX8_leave_0 : decode cX8_leave 0 = .ok (.iload_n 1, 1) := by decide +kernel
theorem dX8_leave_1 : decode cX8_leave 1 = .ok (.invokestatic 249, 3) := by decide +kernel
theorem dX8_leave_4 : decode cX8_leave 4 = .ok (.ifCond .eq 15, 3) := by decide +kernel
theorem dX8_leave_7 : decode cX8_leave 7 = .ok (.iload_n 2, 1) := by decide +kernel
theorem dX8_leave_8 : decode cX8_leave 8 = .ok (.i2l, 1) := by decide +kernel
theorem dX8_leave_9 : decode cX8_leave 9 = .ok (.lconst 0, 1) := by decide +kernel
theorem dX8_leave_10 : decode cX8_leave 10 = .ok (.ldc2_w 278, 3) := by decide +kernel
theorem dX8_leave_13 : decode cX8_leave 13 = .ok (.invokestatic 59, 3) := by decide +kernel
theorem dX8_leave_16 : decode cX8_leave 16 = .ok (.ifCond .ne 5, 3) := by decide +kernel
theorem dX8_leave_19 : decode cX8_leave 19 = .ok (.iconst (-1), 1) := by decide +kernel
theorem dX8_leave_20 : decode cX8_leave 20 = .ok (.ireturn, 1) := by decide +kernel
theorem dX8_leave_21 : decode cX8_leave 21 = .ok (.aload_n 0, 1) := by decide +kernel
theorem dX8_leave_22 : decode cX8_leave 22 = .ok (.iload_n 1, 1) := by decide +kernel
theorem dX8_leave_23 : decode cX8_leave 23 = .ok (.invokevirtual 177, 3) := by decide +kernel
theorem dX8_leave_26 : decode cX8_leave 26 = .ok (.ifCond .ne 6, 3) := by decide +kernel
theorem dX8_leave_29 : decode cX8_leave 29 = .ok (.bipush (-2), 2) := by decide +kernel
theorem dX8_leave_31 : decode cX8_leave 31 = .ok (.ireturn, 1) := by decide +kernel
theorem dX8_leave_32 : decode cX8_leave 32 = .ok (.aload_n 0, 1) := by decide +kernel
theorem dX8_leave_33 : decode cX8_leave 33 = .ok (.getfield 161, 3) := by decide +kernel
theorem dX8_leave_36 : decode cX8_leave 36 = .ok (.ifCond .ne 8, 3) := by decide +kernel
theorem dX8_leave_39 : decode cX8_leave 39 = .ok (.bipush (-4), 2) := by decide +kernel
theorem dX8_leave_41 : decode cX8_leave 41 = .ok (.goto 16, 3) := by decide +kernel
theorem dX8_leave_44 : decode cX8_leave 44 = .ok (.aload_n 0, 1) := by decide +kernel
theorem dX8_leave_45 : decode cX8_leave 45 = .ok (.getfield 7, 3) := by decide +kernel
theorem dX8_leave_48 : decode cX8_leave 48 = .ok (.iload_n 1, 1) := by decide +kernel
theorem dX8_leave_49 : decode cX8_leave 49 = .ok (.aload_n 0, 1) := by decide +kernel
theorem dX8_leave_50 : decode cX8_leave 50 = .ok (.getfield 23, 3) := by decide +kernel
theorem dX8_leave_53 : decode cX8_leave 53 = .ok (.iload_n 2, 1) := by decide +kernel
theorem dX8_leave_54 : decode cX8_leave 54 = .ok (.invokestatic 129, 3) := by decide +kernel
theorem dX8_leave_57 : decode cX8_leave 57 = .ok (.istore_n 3, 1) := by decide +kernel
theorem dX8_leave_58 : decode cX8_leave 58 = .ok (.iload_n 3, 1) := by decide +kernel
theorem dX8_leave_59 : decode cX8_leave 59 = .ok (.bipush (-4), 2) := by decide +kernel
theorem dX8_leave_61 : decode cX8_leave 61 = .ok (.if_icmp .ne 6, 3) := by decide +kernel
theorem dX8_leave_64 : decode cX8_leave 64 = .ok (.bipush (-4), 2) := by decide +kernel
theorem dX8_leave_66 : decode cX8_leave 66 = .ok (.ireturn, 1) := by decide +kernel
theorem dX8_leave_67 : decode cX8_leave 67 = .ok (.aload_n 0, 1) := by decide +kernel
theorem dX8_leave_68 : decode cX8_leave 68 = .ok (.getfield 7, 3) := by decide +kernel
theorem dX8_leave_71 : decode cX8_leave 71 = .ok (.iload_n 1, 1) := by decide +kernel
theorem dX8_leave_72 : decode cX8_leave 72 = .ok (.iconst 3, 1) := by decide +kernel
theorem dX8_leave_73 : decode cX8_leave 73 = .ok (.invokestatic 115, 3) := by decide +kernel
theorem dX8_leave_76 : decode cX8_leave 76 = .ok (.dup2, 1) := by decide +kernel
theorem dX8_leave_77 : decode cX8_leave 77 = .ok (.iaload, 1) := by decide +kernel
theorem dX8_leave_78 : decode cX8_leave 78 = .ok (.iconst 1, 1) := by decide +kernel
theorem dX8_leave_79 : decode cX8_leave 79 = .ok (.isub, 1) := by decide +kernel
theorem dX8_leave_80 : decode cX8_leave 80 = .ok (.iastore, 1) := by decide +kernel
theorem dX8_leave_81 : decode cX8_leave 81 = .ok (.bipush 6, 2) := by decide +kernel
theorem dX8_leave_83 : decode cX8_leave 83 = .ok (.iload_n 3, 1) := by decide +kernel
theorem dX8_leave_84 : decode cX8_leave 84 = .ok (.imul, 1) := by decide +kernel
theorem dX8_leave_85 : decode cX8_leave 85 = .ok (.istore 4, 2) := by decide +kernel
theorem dX8_leave_87 : decode cX8_leave 87 = .ok (.iload 4, 2) := by decide +kernel
theorem dX8_leave_89 : decode cX8_leave 89 = .ok (.bipush 6, 2) := by decide +kernel
theorem dX8_leave_91 : decode cX8_leave 91 = .ok (.aload_n 0, 1) := by decide +kernel
theorem dX8_leave_92 : decode cX8_leave 92 = .ok (.iload_n 1, 1) := by decide +kernel
theorem dX8_leave_93 : decode cX8_leave 93 = .ok (.iconst 3, 1) := by decide +kernel
theorem dX8_leave_94 : decode cX8_leave 94 = .ok (.invokevirtual 166, 3) := by decide +kernel
theorem dX8_leave_97 : decode cX8_leave 97 = .ok (.imul, 1) := by decide +kernel
theorem dX8_leave_98 : decode cX8_leave 98 = .ok (.if_icmp .ge 40, 3) := by decide +kernel
theorem dX8_leave_101 : decode cX8_leave 101 = .ok (.aload_n 0, 1) := by decide +kernel
theorem dX8_leave_102 : decode cX8_leave 102 = .ok (.getfield 7, 3) := by decide +kernel
theorem dX8_leave_105 : decode cX8_leave 105 = .ok (.iload_n 1, 1) := by decide +kernel
theorem dX8_leave_106 : decode cX8_leave 106 = .ok (.bipush 45, 2) := by decide +kernel
theorem dX8_leave_108 : decode cX8_leave 108 = .ok (.iload 4, 2) := by decide +kernel
theorem dX8_leave_110 : decode cX8_leave 110 = .ok (.iadd, 1) := by decide +kernel
theorem dX8_leave_111 : decode cX8_leave 111 = .ok (.invokestatic 115, 3) := by decide +kernel
theorem dX8_leave_114 : decode cX8_leave 114 = .ok (.aload_n 0, 1) := by decide +kernel
theorem dX8_leave_115 : decode cX8_leave 115 = .ok (.getfield 7, 3) := by decide +kernel
theorem dX8_leave_118 : decode cX8_leave 118 = .ok (.iload_n 1, 1) := by decide +kernel
theorem dX8_leave_119 : decode cX8_leave 119 = .ok (.bipush 45, 2) := by decide +kernel
theorem dX8_leave_121 : decode cX8_leave 121 = .ok (.iload 4, 2) := by decide +kernel
theorem dX8_leave_123 : decode cX8_leave 123 = .ok (.iadd, 1) := by decide +kernel
theorem dX8_leave_124 : decode cX8_leave 124 = .ok (.bipush 6, 2) := by decide +kernel
theorem dX8_leave_126 : decode cX8_leave 126 = .ok (.iadd, 1) := by decide +kernel
theorem dX8_leave_127 : decode cX8_leave 127 = .ok (.invokestatic 115, 3) := by decide +kernel
theorem dX8_leave_130 : decode cX8_leave 130 = .ok (.iaload, 1) := by decide +kernel
theorem dX8_leave_131 : decode cX8_leave 131 = .ok (.iastore, 1) := by decide +kernel
theorem dX8_leave_132 : decode cX8_leave 132 = .ok (.iinc 4 1, 3) := by decide +kernel
theorem dX8_leave_135 : decode cX8_leave 135 = .ok (.goto (-48), 3) := by decide +kernel
theorem dX8_leave_138 : decode cX8_leave 138 = .ok (.aload_n 0, 1) := by decide +kernel
theorem dX8_leave_139 : decode cX8_leave 139 = .ok (.invokevirtual 246, 3) := by decide +kernel
theorem dX8_leave_142 : decode cX8_leave 142 = .ok (.aload_n 0, 1) := by decide +kernel
theorem dX8_leave_143 : decode cX8_leave 143 = .ok (.iload_n 1, 1) := by decide +kernel
theorem dX8_leave_144 : decode cX8_leave 144 = .ok (.iconst 3, 1) := by decide +kernel
theorem dX8_leave_145 : decode cX8_leave 145 = .ok (.invokevirtual 166, 3) := by decide +kernel
theorem dX8_leave_148 : decode cX8_leave 148 = .ok (.ireturn, 1) := by decide +kernel
theorem dX8_alias_0 : decode cX8_alias 0 = .ok (.iload_n 1, 1) := by decide +kernel
theorem dX8_alias_1 : decode cX8_alias 1 = .ok (.invokestatic 249, 3) := by decide +kernel
theorem dX8_alias_4 : decode cX8_alias 4 = .ok (.ifCond .eq 15, 3) := by decide +kernel
theorem dX8_alias_7 : decode cX8_alias 7 = .ok (.iload_n 2, 1) := by decide +kernel
theorem dX8_alias_8 : decode cX8_alias 8 = .ok (.i2l, 1) := by decide +kernel
theorem dX8_alias_9 : decode cX8_alias 9 = .ok (.lconst 1, 1) := by decide +kernel
theorem dX8_alias_10 : decode cX8_alias 10 = .ok (.ldc2_w 284, 3) := by decide +kernel
theorem dX8_alias_13 : decode cX8_alias 13 = .ok (.invokestatic 59, 3) := by decide +kernel
theorem dX8_alias_16 : decode cX8_alias 16 = .ok (.ifCond .ne 5, 3) := by decide +kernel
theorem dX8_alias_19 : decode cX8_alias 19 = .ok (.iconst (-1), 1) := by decide +kernel
theorem dX8_alias_20 : decode cX8_alias 20 = .ok (.ireturn, 1) := by decide +kernel
theorem dX8_alias_21 : decode cX8_alias 21 = .ok (.aload_n 0, 1) := by decide +kernel
theorem dX8_alias_22 : decode cX8_alias 22 = .ok (.iload_n 1, 1) := by decide +kernel
theorem dX8_alias_23 : decode cX8_alias 23 = .ok (.invokevirtual 177, 3) := by decide +kernel
theorem dX8_alias_26 : decode cX8_alias 26 = .ok (.ifCond .eq 10, 3) := by decide +kernel
theorem dX8_alias_29 : decode cX8_alias 29 = .ok (.aload_n 0, 1) := by decide +kernel
theorem dX8_alias_30 : decode cX8_alias 30 = .ok (.invokevirtual 275, 3) := by decide +kernel
theorem dX8_alias_33 : decode cX8_alias 33 = .ok (.ifCond .ne 6, 3) := by decide +kernel
theorem dX8_alias_36 : decode cX8_alias 36 = .ok (.bipush (-2), 2) := by decide +kernel
theorem dX8_alias_38 : decode cX8_alias 38 = .ok (.ireturn, 1) := by decide +kernel
theorem dX8_alias_39 : decode cX8_alias 39 = .ok (.iload_n 1, 1) := by decide +kernel
theorem dX8_alias_40 : decode cX8_alias 40 = .ok (.bipush 29, 2) := by decide +kernel
theorem dX8_alias_42 : decode cX8_alias 42 = .ok (.iconst 4, 1) := by decide +kernel
theorem dX8_alias_43 : decode cX8_alias 43 = .ok (.iload_n 2, 1) := by decide +kernel
theorem dX8_alias_44 : decode cX8_alias 44 = .ok (.iconst 1, 1) := by decide +kernel
theorem dX8_alias_45 : decode cX8_alias 45 = .ok (.isub, 1) := by decide +kernel
theorem dX8_alias_46 : decode cX8_alias 46 = .ok (.imul, 1) := by decide +kernel
theorem dX8_alias_47 : decode cX8_alias 47 = .ok (.iadd, 1) := by decide +kernel
theorem dX8_alias_48 : decode cX8_alias 48 = .ok (.invokestatic 115, 3) := by decide +kernel
theorem dX8_alias_51 : decode cX8_alias 51 = .ok (.istore_n 3, 1) := by decide +kernel
theorem dX8_alias_52 : decode cX8_alias 52 = .ok (.aload_n 0, 1) := by decide +kernel
theorem dX8_alias_53 : decode cX8_alias 53 = .ok (.getfield 7, 3) := by decide +kernel
theorem dX8_alias_56 : decode cX8_alias 56 = .ok (.iload_n 3, 1) := by decide +kernel
theorem dX8_alias_57 : decode cX8_alias 57 = .ok (.iaload, 1) := by decide +kernel
theorem dX8_alias_58 : decode cX8_alias 58 = .ok (.ifCond .le 7, 3) := by decide +kernel
theorem dX8_alias_61 : decode cX8_alias 61 = .ok (.iconst 1, 1) := by decide +kernel
theorem dX8_alias_62 : decode cX8_alias 62 = .ok (.goto 4, 3) := by decide +kernel
theorem dX8_alias_65 : decode cX8_alias 65 = .ok (.iconst 0, 1) := by decide +kernel
theorem dX8_alias_66 : decode cX8_alias 66 = .ok (.invokestatic 260, 3) := by decide +kernel
theorem dX8_alias_69 : decode cX8_alias 69 = .ok (.istore 4, 2) := by decide +kernel
theorem dX8_alias_71 : decode cX8_alias 71 = .ok (.iconst 0, 1) := by decide +kernel
theorem dX8_alias_72 : decode cX8_alias 72 = .ok (.istore 5, 2) := by decide +kernel
theorem dX8_alias_74 : decode cX8_alias 74 = .ok (.iload 5, 2) := by decide +kernel
theorem dX8_alias_76 : decode cX8_alias 76 = .ok (.iconst 4, 1) := by decide +kernel
theorem dX8_alias_77 : decode cX8_alias 77 = .ok (.if_icmp .ge 25, 3) := by decide +kernel
theorem dX8_alias_80 : decode cX8_alias 80 = .ok (.aload_n 0, 1) := by decide +kernel
theorem dX8_alias_81 : decode cX8_alias 81 = .ok (.getfield 7, 3) := by decide +kernel
theorem dX8_alias_84 : decode cX8_alias 84 = .ok (.iload_n 3, 1) := by decide +kernel
theorem dX8_alias_85 : decode cX8_alias 85 = .ok (.iload 5, 2) := by decide +kernel
theorem dX8_alias_87 : decode cX8_alias 87 = .ok (.iadd, 1) := by decide +kernel
theorem dX8_alias_88 : decode cX8_alias 88 = .ok (.aload_n 0, 1) := by decide +kernel
theorem dX8_alias_89 : decode cX8_alias 89 = .ok (.getfield 23, 3) := by decide +kernel
theorem dX8_alias_92 : decode cX8_alias 92 = .ok (.iload 5, 2) := by decide +kernel
theorem dX8_alias_94 : decode cX8_alias 94 = .ok (.iaload, 1) := by decide +kernel
theorem dX8_alias_95 : decode cX8_alias 95 = .ok (.iastore, 1) := by decide +kernel
theorem dX8_alias_96 : decode cX8_alias 96 = .ok (.iinc 5 1, 3) := by decide +kernel
theorem dX8_alias_99 : decode cX8_alias 99 = .ok (.goto (-25), 3) := by decide +kernel
theorem dX8_alias_102 : decode cX8_alias 102 = .ok (.iload 4, 2) := by decide +kernel
theorem dX8_alias_104 : decode cX8_alias 104 = .ok (.ireturn, 1) := by decide +kernel
theorem dX8_say_0 : decode cX8_say 0 = .ok (.iload_n 1, 1) := by decide +kernel
theorem dX8_say_1 : decode cX8_say 1 = .ok (.invokestatic 249, 3) := by decide +kernel
theorem dX8_say_4 : decode cX8_say 4 = .ok (.ifCond .eq 51, 3) := by decide +kernel
theorem dX8_say_7 : decode cX8_say 7 = .ok (.iload_n 2, 1) := by decide +kernel
theorem dX8_say_8 : decode cX8_say 8 = .ok (.i2l, 1) := by decide +kernel
theorem dX8_say_9 : decode cX8_say 9 = .ok (.lconst 0, 1) := by decide +kernel
theorem dX8_say_10 : decode cX8_say 10 = .ok (.ldc2_w 284, 3) := by decide +kernel
theorem dX8_say_13 : decode cX8_say 13 = .ok (.invokestatic 59, 3) := by decide +kernel
theorem dX8_say_16 : decode cX8_say 16 = .ok (.ifCond .eq 39, 3) := by decide +kernel
theorem dX8_say_19 : decode cX8_say 19 = .ok (.iload_n 3, 1) := by decide +kernel
theorem dX8_say_20 : decode cX8_say 20 = .ok (.i2l, 1) := by decide +kernel
theorem dX8_say_21 : decode cX8_say 21 = .ok (.lconst 0, 1) := by decide +kernel
theorem dX8_say_22 : decode cX8_say 22 = .ok (.ldc2_w 252, 3) := by decide +kernel
theorem dX8_say_25 : decode cX8_say 25 = .ok (.invokestatic 59, 3) := by decide +kernel
theorem dX8_say_28 : decode cX8_say 28 = .ok (.ifCond .eq 27, 3) := by decide +kernel
theorem dX8_say_31 : decode cX8_say 31 = .ok (.iload 4, 2) := by decide +kernel
theorem dX8_say_33 : decode cX8_say 33 = .ok (.i2l, 1) := by decide +kernel
theorem dX8_say_34 : decode cX8_say 34 = .ok (.lconst 0, 1) := by decide +kernel
theorem dX8_say_35 : decode cX8_say 35 = .ok (.ldc2_w 271, 3) := by decide +kernel
theorem dX8_say_38 : decode cX8_say 38 = .ok (.invokestatic 59, 3) := by decide +kernel
theorem dX8_say_41 : decode cX8_say 41 = .ok (.ifCond .eq 14, 3) := by decide +kernel
theorem dX8_say_44 : decode cX8_say 44 = .ok (.iload 5, 2) := by decide +kernel
theorem dX8_say_46 : decode cX8_say 46 = .ok (.i2l, 1) := by decide +kernel
theorem dX8_say_47 : decode cX8_say 47 = .ok (.lconst 0, 1) := by decide +kernel
theorem dX8_say_48 : decode cX8_say 48 = .ok (.lconst 1, 1) := by decide +kernel
theorem dX8_say_49 : decode cX8_say 49 = .ok (.invokestatic 59, 3) := by decide +kernel
theorem dX8_say_52 : decode cX8_say 52 = .ok (.ifCond .ne 5, 3) := by decide +kernel
theorem dX8_say_55 : decode cX8_say 55 = .ok (.iconst (-1), 1) := by decide +kernel
theorem dX8_say_56 : decode cX8_say 56 = .ok (.ireturn, 1) := by decide +kernel
theorem dX8_say_57 : decode cX8_say 57 = .ok (.aload_n 0, 1) := by decide +kernel
theorem dX8_say_58 : decode cX8_say 58 = .ok (.iload_n 1, 1) := by decide +kernel
theorem dX8_say_59 : decode cX8_say 59 = .ok (.invokevirtual 177, 3) := by decide +kernel
theorem dX8_say_62 : decode cX8_say 62 = .ok (.ifCond .eq 33, 3) := by decide +kernel
theorem dX8_say_65 : decode cX8_say 65 = .ok (.iload_n 2, 1) := by decide +kernel
theorem dX8_say_66 : decode cX8_say 66 = .ok (.ifCond .ne 13, 3) := by decide +kernel
theorem dX8_say_69 : decode cX8_say 69 = .ok (.aload_n 0, 1) := by decide +kernel
theorem dX8_say_70 : decode cX8_say 70 = .ok (.invokevirtual 275, 3) := by decide +kernel
theorem dX8_say_73 : decode cX8_say 73 = .ok (.ifCond .ne 25, 3) := by decide +kernel
theorem dX8_say_76 : decode cX8_say 76 = .ok (.goto 19, 3) := by decide +kernel
theorem dX8_say_79 : decode cX8_say 79 = .ok (.aload_n 0, 1) := by decide +kernel
theorem dX8_say_80 : decode cX8_say 80 = .ok (.iload_n 1, 1) := by decide +kernel
theorem dX8_say_81 : decode cX8_say 81 = .ok (.bipush 29, 2) := by decide +kernel
theorem dX8_say_83 : decode cX8_say 83 = .ok (.iconst 4, 1) := by decide +kernel
theorem dX8_say_84 : decode cX8_say 84 = .ok (.iload_n 2, 1) := by decide +kernel
theorem dX8_say_85 : decode cX8_say 85 = .ok (.iconst 1, 1) := by decide +kernel
theorem dX8_say_86 : decode cX8_say 86 = .ok (.isub, 1) := by decide +kernel
theorem dX8_say_87 : decode cX8_say 87 = .ok (.imul, 1) := by decide +kernel
theorem dX8_say_88 : decode cX8_say 88 = .ok (.iadd, 1) := by decide +kernel
theorem dX8_say_89 : decode cX8_say 89 = .ok (.invokevirtual 166, 3) := by decide +kernel
theorem dX8_say_92 : decode cX8_say 92 = .ok (.ifCond .ne 6, 3) := by decide +kernel
theorem dX8_say_95 : decode cX8_say 95 = .ok (.bipush (-2), 2) := by decide +kernel
theorem dX8_say_97 : decode cX8_say 97 = .ok (.ireturn, 1) := by decide +kernel
theorem dX8_say_98 : decode cX8_say 98 = .ok (.iconst 0, 1) := by decide +kernel
theorem dX8_say_99 : decode cX8_say 99 = .ok (.istore 6, 2) := by decide +kernel
theorem dX8_say_101 : decode cX8_say 101 = .ok (.iload 6, 2) := by decide +kernel
theorem dX8_say_103 : decode cX8_say 103 = .ok (.iconst 4, 1) := by decide +kernel
theorem dX8_say_104 : decode cX8_say 104 = .ok (.if_icmp .ge 46, 3) := by decide +kernel
theorem dX8_say_107 : decode cX8_say 107 = .ok (.aload_n 0, 1) := by decide +kernel
theorem dX8_say_108 : decode cX8_say 108 = .ok (.getfield 47, 3) := by decide +kernel
theorem dX8_say_111 : decode cX8_say 111 = .ok (.iload 6, 2) := by decide +kernel
theorem dX8_say_113 : decode cX8_say 113 = .ok (.iload_n 2, 1) := by decide +kernel
theorem dX8_say_114 : decode cX8_say 114 = .ok (.ifCond .ne 13, 3) := by decide +kernel
theorem dX8_say_117 : decode cX8_say 117 = .ok (.aload_n 0, 1) := by decide +kernel
theorem dX8_say_118 : decode cX8_say 118 = .ok (.getfield 23, 3) := by decide +kernel
theorem dX8_say_121 : decode cX8_say 121 = .ok (.iload 6, 2) := by decide +kernel
theorem dX8_say_123 : decode cX8_say 123 = .ok (.iaload, 1) := by decide +kernel
theorem dX8_say_124 : decode cX8_say 124 = .ok (.goto 19, 3) := by decide +kernel
theorem dX8_say_127 : decode cX8_say 127 = .ok (.aload_n 0, 1) := by decide +kernel
theorem dX8_say_128 : decode cX8_say 128 = .ok (.iload_n 1, 1) := by decide +kernel
theorem dX8_say_129 : decode cX8_say 129 = .ok (.bipush 29, 2) := by decide +kernel
theorem dX8_say_131 : decode cX8_say 131 = .ok (.iconst 4, 1) := by decide +kernel
theorem dX8_say_132 : decode cX8_say 132 = .ok (.iload_n 2, 1) := by decide +kernel
theorem dX8_say_133 : decode cX8_say 133 = .ok (.iconst 1, 1) := by decide +kernel
theorem dX8_say_134 : decode cX8_say 134 = .ok (.isub, 1) := by decide +kernel
theorem dX8_say_135 : decode cX8_say 135 = .ok (.imul, 1) := by decide +kernel
theorem dX8_say_136 : decode cX8_say 136 = .ok (.iadd, 1) := by decide +kernel
theorem dX8_say_137 : decode cX8_say 137 = .ok (.iload 6, 2) := by decide +kernel
theorem dX8_say_139 : decode cX8_say 139 = .ok (.iadd, 1) := by decide +kernel
theorem dX8_say_140 : decode cX8_say 140 = .ok (.invokevirtual 166, 3) := by decide +kernel
theorem dX8_say_143 : decode cX8_say 143 = .ok (.iastore, 1) := by decide +kernel
theorem dX8_say_144 : decode cX8_say 144 = .ok (.iinc 6 1, 3) := by decide +kernel
theorem dX8_say_147 : decode cX8_say 147 = .ok (.goto (-46), 3) := by decide +kernel
theorem dX8_say_150 : decode cX8_say 150 = .ok (.aload_n 0, 1) := by decide +kernel
theorem dX8_say_151 : decode cX8_say 151 = .ok (.aload_n 0, 1) := by decide +kernel
theorem dX8_say_152 : decode cX8_say 152 = .ok (.getfield 47, 3) := by decide +kernel
theorem dX8_say_155 : decode cX8_say 155 = .ok (.iload_n 3, 1) := by decide +kernel
theorem dX8_say_156 : decode cX8_say 156 = .ok (.iload 4, 2) := by decide +kernel
theorem dX8_say_158 : decode cX8_say 158 = .ok (.iload 5, 2) := by decide +kernel
theorem dX8_say_160 : decode cX8_say 160 = .ok (.invokevirtual 264, 3) := by decide +kernel
theorem dX8_say_163 : decode cX8_say 163 = .ok (.ireturn, 1) := by decide +kernel
theorem dX8_knownOf_0 : decode cX8_knownOf 0 = .ok (.iconst 0, 1) := by decide +kernel
theorem dX8_knownOf_1 : decode cX8_knownOf 1 = .ok (.istore_n 3, 1) := by decide +kernel
theorem dX8_knownOf_2 : decode cX8_knownOf 2 = .ok (.iload_n 3, 1) := by decide +kernel
theorem dX8_knownOf_3 : decode cX8_knownOf 3 = .ok (.aload_n 0, 1) := by decide +kernel
theorem dX8_knownOf_4 : decode cX8_knownOf 4 = .ok (.iload_n 1, 1) := by decide +kernel
theorem dX8_knownOf_5 : decode cX8_knownOf 5 = .ok (.bipush 8, 2) := by decide +kernel
theorem dX8_knownOf_7 : decode cX8_knownOf 7 = .ok (.invokevirtual 166, 3) := by decide +kernel
theorem dX8_knownOf_10 : decode cX8_knownOf 10 = .ok (.if_icmp .ge 25, 3) := by decide +kernel
theorem dX8_knownOf_13 : decode cX8_knownOf 13 = .ok (.aload_n 0, 1) := by decide +kernel
theorem dX8_knownOf_14 : decode cX8_knownOf 14 = .ok (.iload_n 1, 1) := by decide +kernel
theorem dX8_knownOf_15 : decode cX8_knownOf 15 = .ok (.sipush 401, 3) := by decide +kernel
theorem dX8_knownOf_18 : decode cX8_knownOf 18 = .ok (.iload_n 3, 1) := by decide +kernel
theorem dX8_knownOf_19 : decode cX8_knownOf 19 = .ok (.iadd, 1) := by decide +kernel
theorem dX8_knownOf_20 : decode cX8_knownOf 20 = .ok (.invokevirtual 166, 3) := by decide +kernel
theorem dX8_knownOf_23 : decode cX8_knownOf 23 = .ok (.iload_n 2, 1) := by decide +kernel
theorem dX8_knownOf_24 : decode cX8_knownOf 24 = .ok (.if_icmp .ne 5, 3) := by decide +kernel
theorem dX8_knownOf_27 : decode cX8_knownOf 27 = .ok (.iload_n 3, 1) := by decide +kernel
theorem dX8_knownOf_28 : decode cX8_knownOf 28 = .ok (.ireturn, 1) := by decide +kernel
theorem dX8_knownOf_29 : decode cX8_knownOf 29 = .ok (.iinc 3 1, 3) := by decide +kernel
theorem dX8_knownOf_32 : decode cX8_knownOf 32 = .ok (.goto (-30), 3) := by decide +kernel
theorem dX8_knownOf_35 : decode cX8_knownOf 35 = .ok (.bipush (-4), 2) := by decide +kernel
theorem dX8_knownOf_37 : decode cX8_knownOf 37 = .ok (.ireturn, 1) := by decide +kernel
theorem dX8_takes_0 : decode cX8_takes 0 = .ok (.aload_n 0, 1) := by decide +kernel
theorem dX8_takes_1 : decode cX8_takes 1 = .ok (.getfield 7, 3) := by decide +kernel
theorem dX8_takes_4 : decode cX8_takes 4 = .ok (.iconst 4, 1) := by decide +kernel
theorem dX8_takes_5 : decode cX8_takes 5 = .ok (.dup2, 1) := by decide +kernel
theorem dX8_takes_6 : decode cX8_takes 6 = .ok (.iaload, 1) := by decide +kernel
theorem dX8_takes_7 : decode cX8_takes 7 = .ok (.iconst 1, 1) := by decide +kernel
theorem dX8_takes_8 : decode cX8_takes 8 = .ok (.iadd, 1) := by decide +kernel
theorem dX8_takes_9 : decode cX8_takes 9 = .ok (.iastore, 1) := by decide +kernel
theorem dX8_takes_10 : decode cX8_takes 10 = .ok (.aload_n 0, 1) := by decide +kernel
theorem dX8_takes_11 : decode cX8_takes 11 = .ok (.getfield 7, 3) := by decide +kernel
theorem dX8_takes_14 : decode cX8_takes 14 = .ok (.iload_n 1, 1) := by decide +kernel
theorem dX8_takes_15 : decode cX8_takes 15 = .ok (.bipush 10, 2) := by decide +kernel
theorem dX8_takes_17 : decode cX8_takes 17 = .ok (.invokestatic 115, 3) := by decide +kernel
theorem dX8_takes_20 : decode cX8_takes 20 = .ok (.dup2, 1) := by decide +kernel
theorem dX8_takes_21 : decode cX8_takes 21 = .ok (.iaload, 1) := by decide +kernel
theorem dX8_takes_22 : decode cX8_takes 22 = .ok (.iconst 1, 1) := by decide +kernel
theorem dX8_takes_23 : decode cX8_takes 23 = .ok (.iadd, 1) := by decide +kernel
theorem dX8_takes_24 : decode cX8_takes 24 = .ok (.iastore, 1) := by decide +kernel
theorem dX8_takes_25 : decode cX8_takes 25 = .ok (.aload_n 0, 1) := by decide +kernel
theorem dX8_takes_26 : decode cX8_takes 26 = .ok (.iload_n 1, 1) := by decide +kernel
theorem dX8_takes_27 : decode cX8_takes 27 = .ok (.bipush 11, 2) := by decide +kernel
theorem dX8_takes_29 : decode cX8_takes 29 = .ok (.invokevirtual 166, 3) := by decide +kernel
theorem dX8_takes_32 : decode cX8_takes 32 = .ok (.bipush 30, 2) := by decide +kernel
theorem dX8_takes_34 : decode cX8_takes 34 = .ok (.if_icmp .ne 66, 3) := by decide +kernel
theorem dX8_takes_37 : decode cX8_takes 37 = .ok (.iconst 0, 1) := by decide +kernel
theorem dX8_takes_38 : decode cX8_takes 38 = .ok (.istore 6, 2) := by decide +kernel
theorem dX8_takes_40 : decode cX8_takes 40 = .ok (.iload 6, 2) := by decide +kernel
theorem dX8_takes_42 : decode cX8_takes 42 = .ok (.bipush 116, 2) := by decide +kernel
theorem dX8_takes_44 : decode cX8_takes 44 = .ok (.if_icmp .ge 41, 3) := by decide +kernel
theorem dX8_takes_47 : decode cX8_takes 47 = .ok (.aload_n 0, 1) := by decide +kernel
theorem dX8_takes_48 : decode cX8_takes 48 = .ok (.getfield 7, 3) := by decide +kernel
theorem dX8_takes_51 : decode cX8_takes 51 = .ok (.iload_n 1, 1) := by decide +kernel
theorem dX8_takes_52 : decode cX8_takes 52 = .ok (.sipush 281, 3) := by decide +kernel
theorem dX8_takes_55 : decode cX8_takes 55 = .ok (.iload 6, 2) := by decide +kernel
theorem dX8_takes_57 : decode cX8_takes 57 = .ok (.iadd, 1) := by decide +kernel
theorem dX8_takes_58 : decode cX8_takes 58 = .ok (.invokestatic 115, 3) := by decide +kernel
theorem dX8_takes_61 : decode cX8_takes 61 = .ok (.aload_n 0, 1) := by decide +kernel
theorem dX8_takes_62 : decode cX8_takes 62 = .ok (.getfield 7, 3) := by decide +kernel
theorem dX8_takes_65 : decode cX8_takes 65 = .ok (.iload_n 1, 1) := by decide +kernel
theorem dX8_takes_66 : decode cX8_takes 66 = .ok (.sipush 281, 3) := by decide +kernel
theorem dX8_takes_69 : decode cX8_takes 69 = .ok (.iload 6, 2) := by decide +kernel
theorem dX8_takes_71 : decode cX8_takes 71 = .ok (.iadd, 1) := by decide +kernel
theorem dX8_takes_72 : decode cX8_takes 72 = .ok (.iconst 4, 1) := by decide +kernel
theorem dX8_takes_73 : decode cX8_takes 73 = .ok (.iadd, 1) := by decide +kernel
theorem dX8_takes_74 : decode cX8_takes 74 = .ok (.invokestatic 115, 3) := by decide +kernel
theorem dX8_takes_77 : decode cX8_takes 77 = .ok (.iaload, 1) := by decide +kernel
theorem dX8_takes_78 : decode cX8_takes 78 = .ok (.iastore, 1) := by decide +kernel
theorem dX8_takes_79 : decode cX8_takes 79 = .ok (.iinc 6 1, 3) := by decide +kernel
theorem dX8_takes_82 : decode cX8_takes 82 = .ok (.goto (-42), 3) := by decide +kernel
theorem dX8_takes_85 : decode cX8_takes 85 = .ok (.aload_n 0, 1) := by decide +kernel
theorem dX8_takes_86 : decode cX8_takes 86 = .ok (.getfield 7, 3) := by decide +kernel
theorem dX8_takes_89 : decode cX8_takes 89 = .ok (.iload_n 1, 1) := by decide +kernel
theorem dX8_takes_90 : decode cX8_takes 90 = .ok (.bipush 11, 2) := by decide +kernel
theorem dX8_takes_92 : decode cX8_takes 92 = .ok (.invokestatic 115, 3) := by decide +kernel
theorem dX8_takes_95 : decode cX8_takes 95 = .ok (.dup2, 1) := by decide +kernel
theorem dX8_takes_96 : decode cX8_takes 96 = .ok (.iaload, 1) := by decide +kernel
theorem dX8_takes_97 : decode cX8_takes 97 = .ok (.iconst 1, 1) := by decide +kernel
theorem dX8_takes_98 : decode cX8_takes 98 = .ok (.isub, 1) := by decide +kernel
theorem dX8_takes_99 : decode cX8_takes 99 = .ok (.iastore, 1) := by decide +kernel
theorem dX8_takes_100 : decode cX8_takes 100 = .ok (.iload_n 1, 1) := by decide +kernel
theorem dX8_takes_101 : decode cX8_takes 101 = .ok (.sipush 281, 3) := by decide +kernel
theorem dX8_takes_104 : decode cX8_takes 104 = .ok (.iconst 4, 1) := by decide +kernel
theorem dX8_takes_105 : decode cX8_takes 105 = .ok (.aload_n 0, 1) := by decide +kernel
theorem dX8_takes_106 : decode cX8_takes 106 = .ok (.iload_n 1, 1) := by decide +kernel
theorem dX8_takes_107 : decode cX8_takes 107 = .ok (.bipush 11, 2) := by decide +kernel
theorem dX8_takes_109 : decode cX8_takes 109 = .ok (.invokevirtual 166, 3) := by decide +kernel
theorem dX8_takes_112 : decode cX8_takes 112 = .ok (.imul, 1) := by decide +kernel
theorem dX8_takes_113 : decode cX8_takes 113 = .ok (.iadd, 1) := by decide +kernel
theorem dX8_takes_114 : decode cX8_takes 114 = .ok (.invokestatic 115, 3) := by decide +kernel
theorem dX8_takes_117 : decode cX8_takes 117 = .ok (.istore 6, 2) := by decide +kernel
theorem dX8_takes_119 : decode cX8_takes 119 = .ok (.aload_n 0, 1) := by decide +kernel
theorem dX8_takes_120 : decode cX8_takes 120 = .ok (.getfield 7, 3) := by decide +kernel
theorem dX8_takes_123 : decode cX8_takes 123 = .ok (.iload 6, 2) := by decide +kernel
theorem dX8_takes_125 : decode cX8_takes 125 = .ok (.iload_n 2, 1) := by decide +kernel
theorem dX8_takes_126 : decode cX8_takes 126 = .ok (.iastore, 1) := by decide +kernel
theorem dX8_takes_127 : decode cX8_takes 127 = .ok (.aload_n 0, 1) := by decide +kernel
theorem dX8_takes_128 : decode cX8_takes 128 = .ok (.getfield 7, 3) := by decide +kernel
theorem dX8_takes_131 : decode cX8_takes 131 = .ok (.iload 6, 2) := by decide +kernel
theorem dX8_takes_133 : decode cX8_takes 133 = .ok (.iconst 1, 1) := by decide +kernel
theorem dX8_takes_134 : decode cX8_takes 134 = .ok (.iadd, 1) := by decide +kernel
theorem dX8_takes_135 : decode cX8_takes 135 = .ok (.iload 4, 2) := by decide +kernel
theorem dX8_takes_137 : decode cX8_takes 137 = .ok (.iastore, 1) := by decide +kernel
theorem dX8_takes_138 : decode cX8_takes 138 = .ok (.aload_n 0, 1) := by decide +kernel
theorem dX8_takes_139 : decode cX8_takes 139 = .ok (.getfield 7, 3) := by decide +kernel
theorem dX8_takes_142 : decode cX8_takes 142 = .ok (.iload 6, 2) := by decide +kernel
theorem dX8_takes_144 : decode cX8_takes 144 = .ok (.iconst 2, 1) := by decide +kernel
theorem dX8_takes_145 : decode cX8_takes 145 = .ok (.iadd, 1) := by decide +kernel
theorem dX8_takes_146 : decode cX8_takes 146 = .ok (.iload_n 3, 1) := by decide +kernel
theorem dX8_takes_147 : decode cX8_takes 147 = .ok (.iastore, 1) := by decide +kernel
theorem dX8_takes_148 : decode cX8_takes 148 = .ok (.aload_n 0, 1) := by decide +kernel
theorem dX8_takes_149 : decode cX8_takes 149 = .ok (.getfield 7, 3) := by decide +kernel
theorem dX8_takes_152 : decode cX8_takes 152 = .ok (.iload 6, 2) := by decide +kernel
theorem dX8_takes_154 : decode cX8_takes 154 = .ok (.iconst 3, 1) := by decide +kernel
theorem dX8_takes_155 : decode cX8_takes 155 = .ok (.iadd, 1) := by decide +kernel
theorem dX8_takes_156 : decode cX8_takes 156 = .ok (.iload 5, 2) := by decide +kernel
theorem dX8_takes_158 : decode cX8_takes 158 = .ok (.iastore, 1) := by decide +kernel
theorem dX8_takes_159 : decode cX8_takes 159 = .ok (.aload_n 0, 1) := by decide +kernel
theorem dX8_takes_160 : decode cX8_takes 160 = .ok (.getfield 7, 3) := by decide +kernel
theorem dX8_takes_163 : decode cX8_takes 163 = .ok (.iload_n 1, 1) := by decide +kernel
theorem dX8_takes_164 : decode cX8_takes 164 = .ok (.bipush 11, 2) := by decide +kernel
theorem dX8_takes_166 : decode cX8_takes 166 = .ok (.invokestatic 115, 3) := by decide +kernel
theorem dX8_takes_169 : decode cX8_takes 169 = .ok (.dup2, 1) := by decide +kernel
theorem dX8_takes_170 : decode cX8_takes 170 = .ok (.iaload, 1) := by decide +kernel
theorem dX8_takes_171 : decode cX8_takes 171 = .ok (.iconst 1, 1) := by decide +kernel
theorem dX8_takes_172 : decode cX8_takes 172 = .ok (.iadd, 1) := by decide +kernel
theorem dX8_takes_173 : decode cX8_takes 173 = .ok (.iastore, 1) := by decide +kernel
theorem dX8_takes_174 : decode cX8_takes 174 = .ok (.return_, 1) := by decide +kernel
theorem dX8_known_0 : decode cX8_known 0 = .ok (.aload_n 0, 1) := by decide +kernel
theorem dX8_known_1 : decode cX8_known 1 = .ok (.getfield 7, 3) := by decide +kernel
theorem dX8_known_4 : decode cX8_known 4 = .ok (.iload_n 1, 1) := by decide +kernel
theorem dX8_known_5 : decode cX8_known 5 = .ok (.sipush 401, 3) := by decide +kernel
theorem dX8_known_8 : decode cX8_known 8 = .ok (.aload_n 0, 1) := by decide +kernel
theorem dX8_known_9 : decode cX8_known 9 = .ok (.iload_n 1, 1) := by decide +kernel
theorem dX8_known_10 : decode cX8_known 10 = .ok (.bipush 8, 2) := by decide +kernel
theorem dX8_known_12 : decode cX8_known 12 = .ok (.invokevirtual 166, 3) := by decide +kernel
theorem dX8_known_15 : decode cX8_known 15 = .ok (.iadd, 1) := by decide +kernel
theorem dX8_known_16 : decode cX8_known 16 = .ok (.invokestatic 115, 3) := by decide +kernel
theorem dX8_known_19 : decode cX8_known 19 = .ok (.iload_n 2, 1) := by decide +kernel
theorem dX8_known_20 : decode cX8_known 20 = .ok (.iastore, 1) := by decide +kernel
theorem dX8_known_21 : decode cX8_known 21 = .ok (.aload_n 0, 1) := by decide +kernel
theorem dX8_known_22 : decode cX8_known 22 = .ok (.getfield 7, 3) := by decide +kernel
theorem dX8_known_25 : decode cX8_known 25 = .ok (.iload_n 1, 1) := by decide +kernel
theorem dX8_known_26 : decode cX8_known 26 = .ok (.bipush 8, 2) := by decide +kernel
theorem dX8_known_28 : decode cX8_known 28 = .ok (.invokestatic 115, 3) := by decide +kernel
theorem dX8_known_31 : decode cX8_known 31 = .ok (.dup2, 1) := by decide +kernel
theorem dX8_known_32 : decode cX8_known 32 = .ok (.iaload, 1) := by decide +kernel
theorem dX8_known_33 : decode cX8_known 33 = .ok (.iconst 1, 1) := by decide +kernel
theorem dX8_known_34 : decode cX8_known 34 = .ok (.iadd, 1) := by decide +kernel
theorem dX8_known_35 : decode cX8_known 35 = .ok (.iastore, 1) := by decide +kernel
theorem dX8_known_36 : decode cX8_known 36 = .ok (.return_, 1) := by decide +kernel
theorem dX8_unknown_0 : decode cX8_unknown 0 = .ok (.aload_n 0, 1) := by decide +kernel
theorem dX8_unknown_1 : decode cX8_unknown 1 = .ok (.iload_n 1, 1) := by decide +kernel
theorem dX8_unknown_2 : decode cX8_unknown 2 = .ok (.iload_n 2, 1) := by decide +kernel
theorem dX8_unknown_3 : decode cX8_unknown 3 = .ok (.invokevirtual 286, 3) := by decide +kernel
theorem dX8_unknown_6 : decode cX8_unknown 6 = .ok (.istore_n 3, 1) := by decide +kernel
theorem dX8_unknown_7 : decode cX8_unknown 7 = .ok (.iload_n 3, 1) := by decide +kernel
theorem dX8_unknown_8 : decode cX8_unknown 8 = .ok (.bipush (-4), 2) := by decide +kernel
theorem dX8_unknown_10 : decode cX8_unknown 10 = .ok (.if_icmp .eq 48, 3) := by decide +kernel
theorem dX8_unknown_13 : decode cX8_unknown 13 = .ok (.aload_n 0, 1) := by decide +kernel
theorem dX8_unknown_14 : decode cX8_unknown 14 = .ok (.getfield 7, 3) := by decide +kernel
theorem dX8_unknown_17 : decode cX8_unknown 17 = .ok (.iload_n 1, 1) := by decide +kernel
theorem dX8_unknown_18 : decode cX8_unknown 18 = .ok (.bipush 8, 2) := by decide +kernel
theorem dX8_unknown_20 : decode cX8_unknown 20 = .ok (.invokestatic 115, 3) := by decide +kernel
theorem dX8_unknown_23 : decode cX8_unknown 23 = .ok (.dup2, 1) := by decide +kernel
theorem dX8_unknown_24 : decode cX8_unknown 24 = .ok (.iaload, 1) := by decide +kernel
theorem dX8_unknown_25 : decode cX8_unknown 25 = .ok (.iconst 1, 1) := by decide +kernel
theorem dX8_unknown_26 : decode cX8_unknown 26 = .ok (.isub, 1) := by decide +kernel
theorem dX8_unknown_27 : decode cX8_unknown 27 = .ok (.iastore, 1) := by decide +kernel
theorem dX8_unknown_28 : decode cX8_unknown 28 = .ok (.aload_n 0, 1) := by decide +kernel
theorem dX8_unknown_29 : decode cX8_unknown 29 = .ok (.getfield 7, 3) := by decide +kernel
theorem dX8_unknown_32 : decode cX8_unknown 32 = .ok (.iload_n 1, 1) := by decide +kernel
theorem dX8_unknown_33 : decode cX8_unknown 33 = .ok (.sipush 401, 3) := by decide +kernel
theorem dX8_unknown_36 : decode cX8_unknown 36 = .ok (.iload_n 3, 1) := by decide +kernel
theorem dX8_unknown_37 : decode cX8_unknown 37 = .ok (.iadd, 1) := by decide +kernel
theorem dX8_unknown_38 : decode cX8_unknown 38 = .ok (.invokestatic 115, 3) := by decide +kernel
theorem dX8_unknown_41 : decode cX8_unknown 41 = .ok (.aload_n 0, 1) := by decide +kernel
theorem dX8_unknown_42 : decode cX8_unknown 42 = .ok (.iload_n 1, 1) := by decide +kernel
theorem dX8_unknown_43 : decode cX8_unknown 43 = .ok (.sipush 401, 3) := by decide +kernel
theorem dX8_unknown_46 : decode cX8_unknown 46 = .ok (.aload_n 0, 1) := by decide +kernel
theorem dX8_unknown_47 : decode cX8_unknown 47 = .ok (.iload_n 1, 1) := by decide +kernel
theorem dX8_unknown_48 : decode cX8_unknown 48 = .ok (.bipush 8, 2) := by decide +kernel
theorem dX8_unknown_50 : decode cX8_unknown 50 = .ok (.invokevirtual 166, 3) := by decide +kernel
theorem dX8_unknown_53 : decode cX8_unknown 53 = .ok (.iadd, 1) := by decide +kernel
theorem dX8_unknown_54 : decode cX8_unknown 54 = .ok (.invokevirtual 166, 3) := by decide +kernel
theorem dX8_unknown_57 : decode cX8_unknown 57 = .ok (.iastore, 1) := by decide +kernel
theorem dX8_unknown_58 : decode cX8_unknown 58 = .ok (.return_, 1) := by decide +kernel
theorem dX8_carriedDown_0 : decode cX8_carriedDown 0 = .ok (.iload_n 2, 1) := by decide +kernel
theorem dX8_carriedDown_1 : decode cX8_carriedDown 1 = .ok (.iconst 3, 1) := by decide +kernel
theorem dX8_carriedDown_2 : decode cX8_carriedDown 2 = .ok (.if_icmp .ne 19, 3) := by decide +kernel
theorem dX8_carriedDown_5 : decode cX8_carriedDown 5 = .ok (.aload_n 0, 1) := by decide +kernel
theorem dX8_carriedDown_6 : decode cX8_carriedDown 6 = .ok (.iload_n 1, 1) := by decide +kernel
theorem dX8_carriedDown_7 : decode cX8_carriedDown 7 = .ok (.iload_n 3, 1) := by decide +kernel
theorem dX8_carriedDown_8 : decode cX8_carriedDown 8 = .ok (.invokevirtual 289, 3) := by decide +kernel
theorem dX8_carriedDown_11 : decode cX8_carriedDown 11 = .ok (.aload_n 0, 1) := by decide +kernel
theorem dX8_carriedDown_12 : decode cX8_carriedDown 12 = .ok (.iload_n 1, 1) := by decide +kernel
theorem dX8_carriedDown_13 : decode cX8_carriedDown 13 = .ok (.iconst 4, 1) := by decide +kernel
theorem dX8_carriedDown_14 : decode cX8_carriedDown 14 = .ok (.iload_n 3, 1) := by decide +kernel
theorem dX8_carriedDown_15 : decode cX8_carriedDown 15 = .ok (.invokevirtual 292, 3) := by decide +kernel
theorem dX8_carriedDown_18 : decode cX8_carriedDown 18 = .ok (.goto 75, 3) := by decide +kernel
theorem dX8_carriedDown_21 : decode cX8_carriedDown 21 = .ok (.iload 5, 2) := by decide +kernel
theorem dX8_carriedDown_23 : decode cX8_carriedDown 23 = .ok (.iconst 2, 1) := by decide +kernel
theorem dX8_carriedDown_24 : decode cX8_carriedDown 24 = .ok (.if_icmp .ge 32, 3) := by decide +kernel
theorem dX8_carriedDown_27 : decode cX8_carriedDown 27 = .ok (.aload_n 0, 1) := by decide +kernel
theorem dX8_carriedDown_28 : decode cX8_carriedDown 28 = .ok (.iload_n 1, 1) := by decide +kernel
theorem dX8_carriedDown_29 : decode cX8_carriedDown 29 = .ok (.iload 4, 2) := by decide +kernel
theorem dX8_carriedDown_31 : decode cX8_carriedDown 31 = .ok (.iload 5, 2) := by decide +kernel
theorem dX8_carriedDown_33 : decode cX8_carriedDown 33 = .ok (.iload 6, 2) := by decide +kernel
theorem dX8_carriedDown_35 : decode cX8_carriedDown 35 = .ok (.iload 7, 2) := by decide +kernel
theorem dX8_carriedDown_37 : decode cX8_carriedDown 37 = .ok (.invokevirtual 295, 3) := by decide +kernel
theorem dX8_carriedDown_40 : decode cX8_carriedDown 40 = .ok (.iload 5, 2) := by decide +kernel
theorem dX8_carriedDown_42 : decode cX8_carriedDown 42 = .ok (.iconst 1, 1) := by decide +kernel
theorem dX8_carriedDown_43 : decode cX8_carriedDown 43 = .ok (.if_icmp .ne 50, 3) := by decide +kernel
theorem dX8_carriedDown_46 : decode cX8_carriedDown 46 = .ok (.aload_n 0, 1) := by decide +kernel
theorem dX8_carriedDown_47 : decode cX8_carriedDown 47 = .ok (.iload_n 1, 1) := by decide +kernel
theorem dX8_carriedDown_48 : decode cX8_carriedDown 48 = .ok (.iconst 1, 1) := by decide +kernel
theorem dX8_carriedDown_49 : decode cX8_carriedDown 49 = .ok (.iload_n 3, 1) := by decide +kernel
theorem dX8_carriedDown_50 : decode cX8_carriedDown 50 = .ok (.invokevirtual 292, 3) := by decide +kernel
theorem dX8_carriedDown_53 : decode cX8_carriedDown 53 = .ok (.goto 40, 3) := by decide +kernel
theorem dX8_carriedDown_56 : decode cX8_carriedDown 56 = .ok (.aload_n 0, 1) := by decide +kernel
theorem dX8_carriedDown_57 : decode cX8_carriedDown 57 = .ok (.iload_n 1, 1) := by decide +kernel
theorem dX8_carriedDown_58 : decode cX8_carriedDown 58 = .ok (.iload_n 3, 1) := by decide +kernel
theorem dX8_carriedDown_59 : decode cX8_carriedDown 59 = .ok (.invokevirtual 286, 3) := by decide +kernel
theorem dX8_carriedDown_62 : decode cX8_carriedDown 62 = .ok (.bipush (-4), 2) := by decide +kernel
theorem dX8_carriedDown_64 : decode cX8_carriedDown 64 = .ok (.if_icmp .ne 22, 3) := by decide +kernel
theorem dX8_carriedDown_67 : decode cX8_carriedDown 67 = .ok (.aload_n 0, 1) := by decide +kernel
theorem dX8_carriedDown_68 : decode cX8_carriedDown 68 = .ok (.iload_n 1, 1) := by decide +kernel
theorem dX8_carriedDown_69 : decode cX8_carriedDown 69 = .ok (.iload 4, 2) := by decide +kernel
theorem dX8_carriedDown_71 : decode cX8_carriedDown 71 = .ok (.iload 5, 2) := by decide +kernel
theorem dX8_carriedDown_73 : decode cX8_carriedDown 73 = .ok (.iload 6, 2) := by decide +kernel
theorem dX8_carriedDown_75 : decode cX8_carriedDown 75 = .ok (.iload 7, 2) := by decide +kernel
theorem dX8_carriedDown_77 : decode cX8_carriedDown 77 = .ok (.invokevirtual 295, 3) := by decide +kernel
theorem dX8_carriedDown_80 : decode cX8_carriedDown 80 = .ok (.aload_n 0, 1) := by decide +kernel
theorem dX8_carriedDown_81 : decode cX8_carriedDown 81 = .ok (.iload_n 1, 1) := by decide +kernel
theorem dX8_carriedDown_82 : decode cX8_carriedDown 82 = .ok (.iload_n 3, 1) := by decide +kernel
theorem dX8_carriedDown_83 : decode cX8_carriedDown 83 = .ok (.invokevirtual 298, 3) := by decide +kernel
theorem dX8_carriedDown_86 : decode cX8_carriedDown 86 = .ok (.aload_n 0, 1) := by decide +kernel
theorem dX8_carriedDown_87 : decode cX8_carriedDown 87 = .ok (.iload_n 1, 1) := by decide +kernel
theorem dX8_carriedDown_88 : decode cX8_carriedDown 88 = .ok (.iconst 2, 1) := by decide +kernel
theorem dX8_carriedDown_89 : decode cX8_carriedDown 89 = .ok (.iload_n 3, 1) := by decide +kernel
theorem dX8_carriedDown_90 : decode cX8_carriedDown 90 = .ok (.invokevirtual 292, 3) := by decide +kernel
theorem dX8_carriedDown_93 : decode cX8_carriedDown 93 = .ok (.return_, 1) := by decide +kernel
theorem dX8_flightOf_0 : decode cX8_flightOf 0 = .ok (.iconst 0, 1) := by decide +kernel
theorem dX8_flightOf_1 : decode cX8_flightOf 1 = .ok (.istore 4, 2) := by decide +kernel
theorem dX8_flightOf_3 : decode cX8_flightOf 3 = .ok (.iload 4, 2) := by decide +kernel
theorem dX8_flightOf_5 : decode cX8_flightOf 5 = .ok (.aload_n 0, 1) := by decide +kernel
theorem dX8_flightOf_6 : decode cX8_flightOf 6 = .ok (.iload_n 1, 1) := by decide +kernel
theorem dX8_flightOf_7 : decode cX8_flightOf 7 = .ok (.iconst 4, 1) := by decide +kernel
theorem dX8_flightOf_8 : decode cX8_flightOf 8 = .ok (.invokevirtual 166, 3) := by decide +kernel
theorem dX8_flightOf_11 : decode cX8_flightOf 11 = .ok (.if_icmp .ge 50, 3) := by decide +kernel
theorem dX8_flightOf_14 : decode cX8_flightOf 14 = .ok (.iload_n 1, 1) := by decide +kernel
theorem dX8_flightOf_15 : decode cX8_flightOf 15 = .ok (.bipush 81, 2) := by decide +kernel
theorem dX8_flightOf_17 : decode cX8_flightOf 17 = .ok (.bipush 6, 2) := by decide +kernel
theorem dX8_flightOf_19 : decode cX8_flightOf 19 = .ok (.iload 4, 2) := by decide +kernel
theorem dX8_flightOf_21 : decode cX8_flightOf 21 = .ok (.imul, 1) := by decide +kernel
theorem dX8_flightOf_22 : decode cX8_flightOf 22 = .ok (.iadd, 1) := by decide +kernel
theorem dX8_flightOf_23 : decode cX8_flightOf 23 = .ok (.invokestatic 115, 3) := by decide +kernel
theorem dX8_flightOf_26 : decode cX8_flightOf 26 = .ok (.istore 5, 2) := by decide +kernel
theorem dX8_flightOf_28 : decode cX8_flightOf 28 = .ok (.aload_n 0, 1) := by decide +kernel
theorem dX8_flightOf_29 : decode cX8_flightOf 29 = .ok (.getfield 7, 3) := by decide +kernel
theorem dX8_flightOf_32 : decode cX8_flightOf 32 = .ok (.iload 5, 2) := by decide +kernel
theorem dX8_flightOf_34 : decode cX8_flightOf 34 = .ok (.iaload, 1) := by decide +kernel
theorem dX8_flightOf_35 : decode cX8_flightOf 35 = .ok (.iload_n 2, 1) := by decide +kernel
theorem dX8_flightOf_36 : decode cX8_flightOf 36 = .ok (.if_icmp .ne 19, 3) := by decide +kernel
theorem dX8_flightOf_39 : decode cX8_flightOf 39 = .ok (.aload_n 0, 1) := by decide +kernel
theorem dX8_flightOf_40 : decode cX8_flightOf 40 = .ok (.getfield 7, 3) := by decide +kernel
theorem dX8_flightOf_43 : decode cX8_flightOf 43 = .ok (.iload 5, 2) := by decide +kernel
theorem dX8_flightOf_45 : decode cX8_flightOf 45 = .ok (.iconst 2, 1) := by decide +kernel
theorem dX8_flightOf_46 : decode cX8_flightOf 46 = .ok (.iadd, 1) := by decide +kernel
theorem dX8_flightOf_47 : decode cX8_flightOf 47 = .ok (.iaload, 1) := by decide +kernel
theorem dX8_flightOf_48 : decode cX8_flightOf 48 = .ok (.iload_n 3, 1) := by decide +kernel
theorem dX8_flightOf_49 : decode cX8_flightOf 49 = .ok (.if_icmp .ne 6, 3) := by decide +kernel
theorem dX8_flightOf_52 : decode cX8_flightOf 52 = .ok (.iload 4, 2) := by decide +kernel
theorem dX8_flightOf_54 : decode cX8_flightOf 54 = .ok (.ireturn, 1) := by decide +kernel
theorem dX8_flightOf_55 : decode cX8_flightOf 55 = .ok (.iinc 4 1, 3) := by decide +kernel
theorem dX8_flightOf_58 : decode cX8_flightOf 58 = .ok (.goto (-55), 3) := by decide +kernel
theorem dX8_flightOf_61 : decode cX8_flightOf 61 = .ok (.bipush (-4), 2) := by decide +kernel
theorem dX8_flightOf_63 : decode cX8_flightOf 63 = .ok (.ireturn, 1) := by decide +kernel
theorem dX8_off_0 : decode cX8_off 0 = .ok (.aload_n 0, 1) := by decide +kernel
theorem dX8_off_1 : decode cX8_off 1 = .ok (.getfield 7, 3) := by decide +kernel
theorem dX8_off_4 : decode cX8_off 4 = .ok (.iconst 5, 1) := by decide +kernel
theorem dX8_off_5 : decode cX8_off 5 = .ok (.dup2, 1) := by decide +kernel
theorem dX8_off_6 : decode cX8_off 6 = .ok (.iaload, 1) := by decide +kernel
theorem dX8_off_7 : decode cX8_off 7 = .ok (.iconst 1, 1) := by decide +kernel
theorem dX8_off_8 : decode cX8_off 8 = .ok (.iadd, 1) := by decide +kernel
theorem dX8_off_9 : decode cX8_off 9 = .ok (.iastore, 1) := by decide +kernel
theorem dX8_off_10 : decode cX8_off 10 = .ok (.aload_n 0, 1) := by decide +kernel
theorem dX8_off_11 : decode cX8_off 11 = .ok (.getfield 7, 3) := by decide +kernel
theorem dX8_off_14 : decode cX8_off 14 = .ok (.iload_n 1, 1) := by decide +kernel
theorem dX8_off_15 : decode cX8_off 15 = .ok (.iconst 4, 1) := by decide +kernel
theorem dX8_off_16 : decode cX8_off 16 = .ok (.invokestatic 115, 3) := by decide +kernel
theorem dX8_off_19 : decode cX8_off 19 = .ok (.dup2, 1) := by decide +kernel
theorem dX8_off_20 : decode cX8_off 20 = .ok (.iaload, 1) := by decide +kernel
theorem dX8_off_21 : decode cX8_off 21 = .ok (.iconst 1, 1) := by decide +kernel
theorem dX8_off_22 : decode cX8_off 22 = .ok (.isub, 1) := by decide +kernel
theorem dX8_off_23 : decode cX8_off 23 = .ok (.iastore, 1) := by decide +kernel
theorem dX8_off_24 : decode cX8_off 24 = .ok (.bipush 6, 2) := by decide +kernel
theorem dX8_off_26 : decode cX8_off 26 = .ok (.iload_n 2, 1) := by decide +kernel
theorem dX8_off_27 : decode cX8_off 27 = .ok (.imul, 1) := by decide +kernel
theorem dX8_off_28 : decode cX8_off 28 = .ok (.istore_n 3, 1) := by decide +kernel
theorem dX8_off_29 : decode cX8_off 29 = .ok (.iload_n 3, 1) := by decide +kernel
theorem dX8_off_30 : decode cX8_off 30 = .ok (.bipush 6, 2) := by decide +kernel
theorem dX8_off_32 : decode cX8_off 32 = .ok (.aload_n 0, 1) := by decide +kernel
theorem dX8_off_33 : decode cX8_off 33 = .ok (.iload_n 1, 1) := by decide +kernel
theorem dX8_off_34 : decode cX8_off 34 = .ok (.iconst 4, 1) := by decide +kernel
theorem dX8_off_35 : decode cX8_off 35 = .ok (.invokevirtual 166, 3) := by decide +kernel
theorem dX8_off_38 : decode cX8_off 38 = .ok (.imul, 1) := by decide +kernel
theorem dX8_off_39 : decode cX8_off 39 = .ok (.if_icmp .ge 38, 3) := by decide +kernel
theorem dX8_off_42 : decode cX8_off 42 = .ok (.aload_n 0, 1) := by decide +kernel
theorem dX8_off_43 : decode cX8_off 43 = .ok (.getfield 7, 3) := by decide +kernel
theorem dX8_off_46 : decode cX8_off 46 = .ok (.iload_n 1, 1) := by decide +kernel
theorem dX8_off_47 : decode cX8_off 47 = .ok (.bipush 81, 2) := by decide +kernel
theorem dX8_off_49 : decode cX8_off 49 = .ok (.iload_n 3, 1) := by decide +kernel
theorem dX8_off_50 : decode cX8_off 50 = .ok (.iadd, 1) := by decide +kernel
theorem dX8_off_51 : decode cX8_off 51 = .ok (.invokestatic 115, 3) := by decide +kernel
theorem dX8_off_54 : decode cX8_off 54 = .ok (.aload_n 0, 1) := by decide +kernel
theorem dX8_off_55 : decode cX8_off 55 = .ok (.getfield 7, 3) := by decide +kernel
theorem dX8_off_58 : decode cX8_off 58 = .ok (.iload_n 1, 1) := by decide +kernel
theorem dX8_off_59 : decode cX8_off 59 = .ok (.bipush 81, 2) := by decide +kernel
theorem dX8_off_61 : decode cX8_off 61 = .ok (.iload_n 3, 1) := by decide +kernel
theorem dX8_off_62 : decode cX8_off 62 = .ok (.iadd, 1) := by decide +kernel
theorem dX8_off_63 : decode cX8_off 63 = .ok (.bipush 6, 2) := by decide +kernel
theorem dX8_off_65 : decode cX8_off 65 = .ok (.iadd, 1) := by decide +kernel
theorem dX8_off_66 : decode cX8_off 66 = .ok (.invokestatic 115, 3) := by decide +kernel
theorem dX8_off_69 : decode cX8_off 69 = .ok (.iaload, 1) := by decide +kernel
theorem dX8_off_70 : decode cX8_off 70 = .ok (.iastore, 1) := by decide +kernel
theorem dX8_off_71 : decode cX8_off 71 = .ok (.iinc 3 1, 3) := by decide +kernel
theorem dX8_off_74 : decode cX8_off 74 = .ok (.goto (-45), 3) := by decide +kernel
theorem dX8_off_77 : decode cX8_off 77 = .ok (.aload_n 0, 1) := by decide +kernel
theorem dX8_off_78 : decode cX8_off 78 = .ok (.iload_n 1, 1) := by decide +kernel
theorem dX8_off_79 : decode cX8_off 79 = .ok (.invokevirtual 257, 3) := by decide +kernel
theorem dX8_off_82 : decode cX8_off 82 = .ok (.return_, 1) := by decide +kernel
theorem dX8_carriedUp_0 : decode cX8_carriedUp 0 = .ok (.aload_n 0, 1) := by decide +kernel
theorem dX8_carriedUp_1 : decode cX8_carriedUp 1 = .ok (.iload_n 1, 1) := by decide +kernel
theorem dX8_carriedUp_2 : decode cX8_carriedUp 2 = .ok (.iload_n 3, 1) := by decide +kernel
theorem dX8_carriedUp_3 : decode cX8_carriedUp 3 = .ok (.iload_n 2, 1) := by decide +kernel
theorem dX8_carriedUp_4 : decode cX8_carriedUp 4 = .ok (.iconst 1, 1) := by decide +kernel
theorem dX8_carriedUp_5 : decode cX8_carriedUp 5 = .ok (.if_icmp .ne 7, 3) := by decide +kernel
theorem dX8_carriedUp_8 : decode cX8_carriedUp 8 = .ok (.iconst 1, 1) := by decide +kernel
theorem dX8_carriedUp_9 : decode cX8_carriedUp 9 = .ok (.goto 4, 3) := by decide +kernel
theorem dX8_carriedUp_12 : decode cX8_carriedUp 12 = .ok (.iconst 2, 1) := by decide +kernel
theorem dX8_carriedUp_13 : decode cX8_carriedUp 13 = .ok (.invokevirtual 301, 3) := by decide +kernel
theorem dX8_carriedUp_16 : decode cX8_carriedUp 16 = .ok (.istore 4, 2) := by decide +kernel
theorem dX8_carriedUp_18 : decode cX8_carriedUp 18 = .ok (.iload 4, 2) := by decide +kernel
theorem dX8_carriedUp_20 : decode cX8_carriedUp 20 = .ok (.bipush (-4), 2) := by decide +kernel
theorem dX8_carriedUp_22 : decode cX8_carriedUp 22 = .ok (.if_icmp .ne 4, 3) := by decide +kernel
theorem dX8_carriedUp_25 : decode cX8_carriedUp 25 = .ok (.return_, 1) := by decide +kernel
theorem dX8_carriedUp_26 : decode cX8_carriedUp 26 = .ok (.aload_n 0, 1) := by decide +kernel
theorem dX8_carriedUp_27 : decode cX8_carriedUp 27 = .ok (.iload_n 1, 1) := by decide +kernel
theorem dX8_carriedUp_28 : decode cX8_carriedUp 28 = .ok (.bipush 81, 2) := by decide +kernel
theorem dX8_carriedUp_30 : decode cX8_carriedUp 30 = .ok (.bipush 6, 2) := by decide +kernel
theorem dX8_carriedUp_32 : decode cX8_carriedUp 32 = .ok (.iload 4, 2) := by decide +kernel
theorem dX8_carriedUp_34 : decode cX8_carriedUp 34 = .ok (.imul, 1) := by decide +kernel
theorem dX8_carriedUp_35 : decode cX8_carriedUp 35 = .ok (.iadd, 1) := by decide +kernel
theorem dX8_carriedUp_36 : decode cX8_carriedUp 36 = .ok (.iconst 5, 1) := by decide +kernel
theorem dX8_carriedUp_37 : decode cX8_carriedUp 37 = .ok (.iadd, 1) := by decide +kernel
theorem dX8_carriedUp_38 : decode cX8_carriedUp 38 = .ok (.invokevirtual 166, 3) := by decide +kernel
theorem dX8_carriedUp_41 : decode cX8_carriedUp 41 = .ok (.iconst 1, 1) := by decide +kernel
theorem dX8_carriedUp_42 : decode cX8_carriedUp 42 = .ok (.if_icmp .ne 7, 3) := by decide +kernel
theorem dX8_carriedUp_45 : decode cX8_carriedUp 45 = .ok (.iconst 1, 1) := by decide +kernel
theorem dX8_carriedUp_46 : decode cX8_carriedUp 46 = .ok (.goto 4, 3) := by decide +kernel
theorem dX8_carriedUp_49 : decode cX8_carriedUp 49 = .ok (.iconst 0, 1) := by decide +kernel
theorem dX8_carriedUp_50 : decode cX8_carriedUp 50 = .ok (.istore 5, 2) := by decide +kernel
theorem dX8_carriedUp_52 : decode cX8_carriedUp 52 = .ok (.iload_n 2, 1) := by decide +kernel
theorem dX8_carriedUp_53 : decode cX8_carriedUp 53 = .ok (.iconst 2, 1) := by decide +kernel
theorem dX8_carriedUp_54 : decode cX8_carriedUp 54 = .ok (.if_icmp .ne 40, 3) := by decide +kernel
theorem dX8_carriedUp_57 : decode cX8_carriedUp 57 = .ok (.aload_n 0, 1) := by decide +kernel
theorem dX8_carriedUp_58 : decode cX8_carriedUp 58 = .ok (.getfield 7, 3) := by decide +kernel
theorem dX8_carriedUp_61 : decode cX8_carriedUp 61 = .ok (.iload_n 1, 1) := by decide +kernel
theorem dX8_carriedUp_62 : decode cX8_carriedUp 62 = .ok (.bipush 81, 2) := by decide +kernel
theorem dX8_carriedUp_64 : decode cX8_carriedUp 64 = .ok (.bipush 6, 2) := by decide +kernel
theorem dX8_carriedUp_66 : decode cX8_carriedUp 66 = .ok (.iload 4, 2) := by decide +kernel
theorem dX8_carriedUp_68 : decode cX8_carriedUp 68 = .ok (.imul, 1) := by decide +kernel
theorem dX8_carriedUp_69 : decode cX8_carriedUp 69 = .ok (.iadd, 1) := by decide +kernel
theorem dX8_carriedUp_70 : decode cX8_carriedUp 70 = .ok (.iconst 5, 1) := by decide +kernel
theorem dX8_carriedUp_71 : decode cX8_carriedUp 71 = .ok (.iadd, 1) := by decide +kernel
theorem dX8_carriedUp_72 : decode cX8_carriedUp 72 = .ok (.invokestatic 115, 3) := by decide +kernel
theorem dX8_carriedUp_75 : decode cX8_carriedUp 75 = .ok (.iconst 1, 1) := by decide +kernel
theorem dX8_carriedUp_76 : decode cX8_carriedUp 76 = .ok (.iastore, 1) := by decide +kernel
theorem dX8_carriedUp_77 : decode cX8_carriedUp 77 = .ok (.aload_n 0, 1) := by decide +kernel
theorem dX8_carriedUp_78 : decode cX8_carriedUp 78 = .ok (.iload_n 1, 1) := by decide +kernel
theorem dX8_carriedUp_79 : decode cX8_carriedUp 79 = .ok (.iconst 3, 1) := by decide +kernel
theorem dX8_carriedUp_80 : decode cX8_carriedUp 80 = .ok (.iload_n 3, 1) := by decide +kernel
theorem dX8_carriedUp_81 : decode cX8_carriedUp 81 = .ok (.bipush (-4), 2) := by decide +kernel
theorem dX8_carriedUp_83 : decode cX8_carriedUp 83 = .ok (.bipush (-4), 2) := by decide +kernel
theorem dX8_carriedUp_85 : decode cX8_carriedUp 85 = .ok (.bipush (-4), 2) := by decide +kernel
theorem dX8_carriedUp_87 : decode cX8_carriedUp 87 = .ok (.iconst 0, 1) := by decide +kernel
theorem dX8_carriedUp_88 : decode cX8_carriedUp 88 = .ok (.invokevirtual 169, 3) := by decide +kernel
theorem dX8_carriedUp_91 : decode cX8_carriedUp 91 = .ok (.goto 20, 3) := by decide +kernel
theorem dX8_carriedUp_94 : decode cX8_carriedUp 94 = .ok (.iload_n 2, 1) := by decide +kernel
theorem dX8_carriedUp_95 : decode cX8_carriedUp 95 = .ok (.iconst 1, 1) := by decide +kernel
theorem dX8_carriedUp_96 : decode cX8_carriedUp 96 = .ok (.if_icmp .eq 8, 3) := by decide +kernel
theorem dX8_carriedUp_99 : decode cX8_carriedUp 99 = .ok (.iload 5, 2) := by decide +kernel
theorem dX8_carriedUp_101 : decode cX8_carriedUp 101 = .ok (.ifCond .eq 10, 3) := by decide +kernel
theorem dX8_carriedUp_104 : decode cX8_carriedUp 104 = .ok (.aload_n 0, 1) := by decide +kernel
theorem dX8_carriedUp_105 : decode cX8_carriedUp 105 = .ok (.iload_n 1, 1) := by decide +kernel
theorem dX8_carriedUp_106 : decode cX8_carriedUp 106 = .ok (.iload 4, 2) := by decide +kernel
theorem dX8_carriedUp_108 : decode cX8_carriedUp 108 = .ok (.invokevirtual 304, 3) := by decide +kernel
theorem dX8_carriedUp_111 : decode cX8_carriedUp 111 = .ok (.return_, 1) := by decide +kernel
theorem dX8_dropsFirst_0 : decode cX8_dropsFirst 0 = .ok (.iload_n 2, 1) := by decide +kernel
theorem dX8_dropsFirst_1 : decode cX8_dropsFirst 1 = .ok (.ifCond .ne 8, 3) := by decide +kernel
theorem dX8_dropsFirst_4 : decode cX8_dropsFirst 4 = .ok (.bipush 6, 2) := by decide +kernel
theorem dX8_dropsFirst_6 : decode cX8_dropsFirst 6 = .ok (.goto 5, 3) := by decide +kernel
theorem dX8_dropsFirst_9 : decode cX8_dropsFirst 9 = .ok (.bipush 7, 2) := by decide +kernel
theorem dX8_dropsFirst_11 : decode cX8_dropsFirst 11 = .ok (.istore_n 3, 1) := by decide +kernel
theorem dX8_dropsFirst_12 : decode cX8_dropsFirst 12 = .ok (.iload_n 2, 1) := by decide +kernel
theorem dX8_dropsFirst_13 : decode cX8_dropsFirst 13 = .ok (.ifCond .ne 8, 3) := by decide +kernel
theorem dX8_dropsFirst_16 : decode cX8_dropsFirst 16 = .ok (.bipush 6, 2) := by decide +kernel
theorem dX8_dropsFirst_18 : decode cX8_dropsFirst 18 = .ok (.goto 4, 3) := by decide +kernel
theorem dX8_dropsFirst_21 : decode cX8_dropsFirst 21 = .ok (.iconst 2, 1) := by decide +kernel
theorem dX8_dropsFirst_22 : decode cX8_dropsFirst 22 = .ok (.istore 4, 2) := by decide +kernel
theorem dX8_dropsFirst_24 : decode cX8_dropsFirst 24 = .ok (.iload_n 2, 1) := by decide +kernel
theorem dX8_dropsFirst_25 : decode cX8_dropsFirst 25 = .ok (.ifCond .ne 9, 3) := by decide +kernel
theorem dX8_dropsFirst_28 : decode cX8_dropsFirst 28 = .ok (.sipush 153, 3) := by decide +kernel
theorem dX8_dropsFirst_31 : decode cX8_dropsFirst 31 = .ok (.goto 6, 3) := by decide +kernel
theorem dX8_dropsFirst_34 : decode cX8_dropsFirst 34 = .ok (.sipush 249, 3) := by decide +kernel
theorem dX8_dropsFirst_37 : decode cX8_dropsFirst 37 = .ok (.istore 5, 2) := by decide +kernel
theorem dX8_dropsFirst_39 : decode cX8_dropsFirst 39 = .ok (.aload_n 0, 1) := by decide +kernel
theorem dX8_dropsFirst_40 : decode cX8_dropsFirst 40 = .ok (.getfield 7, 3) := by decide +kernel
theorem dX8_dropsFirst_43 : decode cX8_dropsFirst 43 = .ok (.iload_n 1, 1) := by decide +kernel
theorem dX8_dropsFirst_44 : decode cX8_dropsFirst 44 = .ok (.iload_n 3, 1) := by decide +kernel
theorem dX8_dropsFirst_45 : decode cX8_dropsFirst 45 = .ok (.invokestatic 115, 3) := by decide +kernel
theorem dX8_dropsFirst_48 : decode cX8_dropsFirst 48 = .ok (.dup2, 1) := by decide +kernel
theorem dX8_dropsFirst_49 : decode cX8_dropsFirst 49 = .ok (.iaload, 1) := by decide +kernel
theorem dX8_dropsFirst_50 : decode cX8_dropsFirst 50 = .ok (.iconst 1, 1) := by decide +kernel
theorem dX8_dropsFirst_51 : decode cX8_dropsFirst 51 = .ok (.isub, 1) := by decide +kernel
theorem dX8_dropsFirst_52 : decode cX8_dropsFirst 52 = .ok (.iastore, 1) := by decide +kernel
theorem dX8_dropsFirst_53 : decode cX8_dropsFirst 53 = .ok (.iconst 0, 1) := by decide +kernel
theorem dX8_dropsFirst_54 : decode cX8_dropsFirst 54 = .ok (.istore 6, 2) := by decide +kernel
theorem dX8_dropsFirst_56 : decode cX8_dropsFirst 56 = .ok (.iload 6, 2) := by decide +kernel
theorem dX8_dropsFirst_58 : decode cX8_dropsFirst 58 = .ok (.iload 4, 2) := by decide +kernel
theorem dX8_dropsFirst_60 : decode cX8_dropsFirst 60 = .ok (.aload_n 0, 1) := by decide +kernel
theorem dX8_dropsFirst_61 : decode cX8_dropsFirst 61 = .ok (.iload_n 1, 1) := by decide +kernel
theorem dX8_dropsFirst_62 : decode cX8_dropsFirst 62 = .ok (.iload_n 3, 1) := by decide +kernel
theorem dX8_dropsFirst_63 : decode cX8_dropsFirst 63 = .ok (.invokevirtual 166, 3) := by decide +kernel
theorem dX8_dropsFirst_66 : decode cX8_dropsFirst 66 = .ok (.imul, 1) := by decide +kernel
theorem dX8_dropsFirst_67 : decode cX8_dropsFirst 67 = .ok (.if_icmp .ge 40, 3) := by decide +kernel
theorem dX8_dropsFirst_70 : decode cX8_dropsFirst 70 = .ok (.aload_n 0, 1) := by decide +kernel
theorem dX8_dropsFirst_71 : decode cX8_dropsFirst 71 = .ok (.getfield 7, 3) := by decide +kernel
theorem dX8_dropsFirst_74 : decode cX8_dropsFirst 74 = .ok (.iload_n 1, 1) := by decide +kernel
theorem dX8_dropsFirst_75 : decode cX8_dropsFirst 75 = .ok (.iload 5, 2) := by decide +kernel
theorem dX8_dropsFirst_77 : decode cX8_dropsFirst 77 = .ok (.iload 6, 2) := by decide +kernel
theorem dX8_dropsFirst_79 : decode cX8_dropsFirst 79 = .ok (.iadd, 1) := by decide +kernel
theorem dX8_dropsFirst_80 : decode cX8_dropsFirst 80 = .ok (.invokestatic 115, 3) := by decide +kernel
theorem dX8_dropsFirst_83 : decode cX8_dropsFirst 83 = .ok (.aload_n 0, 1) := by decide +kernel
theorem dX8_dropsFirst_84 : decode cX8_dropsFirst 84 = .ok (.getfield 7, 3) := by decide +kernel
theorem dX8_dropsFirst_87 : decode cX8_dropsFirst 87 = .ok (.iload_n 1, 1) := by decide +kernel
theorem dX8_dropsFirst_88 : decode cX8_dropsFirst 88 = .ok (.iload 5, 2) := by decide +kernel
theorem dX8_dropsFirst_90 : decode cX8_dropsFirst 90 = .ok (.iload 6, 2) := by decide +kernel
theorem dX8_dropsFirst_92 : decode cX8_dropsFirst 92 = .ok (.iadd, 1) := by decide +kernel
theorem dX8_dropsFirst_93 : decode cX8_dropsFirst 93 = .ok (.iload 4, 2) := by decide +kernel
theorem dX8_dropsFirst_95 : decode cX8_dropsFirst 95 = .ok (.iadd, 1) := by decide +kernel
theorem dX8_dropsFirst_96 : decode cX8_dropsFirst 96 = .ok (.invokestatic 115, 3) := by decide +kernel
theorem dX8_dropsFirst_99 : decode cX8_dropsFirst 99 = .ok (.iaload, 1) := by decide +kernel
theorem dX8_dropsFirst_100 : decode cX8_dropsFirst 100 = .ok (.iastore, 1) := by decide +kernel
theorem dX8_dropsFirst_101 : decode cX8_dropsFirst 101 = .ok (.iinc 6 1, 3) := by decide +kernel
theorem dX8_dropsFirst_104 : decode cX8_dropsFirst 104 = .ok (.goto (-48), 3) := by decide +kernel
theorem dX8_dropsFirst_107 : decode cX8_dropsFirst 107 = .ok (.return_, 1) := by decide +kernel
theorem dX8_carry_0 : decode cX8_carry 0 = .ok (.iload_n 1, 1) := by decide +kernel
theorem dX8_carry_1 : decode cX8_carry 1 = .ok (.invokestatic 249, 3) := by decide +kernel
theorem dX8_carry_4 : decode cX8_carry 4 = .ok (.ifCond .eq 25, 3) := by decide +kernel
theorem dX8_carry_7 : decode cX8_carry 7 = .ok (.iload_n 2, 1) := by decide +kernel
theorem dX8_carry_8 : decode cX8_carry 8 = .ok (.i2l, 1) := by decide +kernel
theorem dX8_carry_9 : decode cX8_carry 9 = .ok (.lconst 0, 1) := by decide +kernel
theorem dX8_carry_10 : decode cX8_carry 10 = .ok (.lconst 1, 1) := by decide +kernel
theorem dX8_carry_11 : decode cX8_carry 11 = .ok (.invokestatic 59, 3) := by decide +kernel
theorem dX8_carry_14 : decode cX8_carry 14 = .ok (.ifCond .eq 15, 3) := by decide +kernel
theorem dX8_carry_17 : decode cX8_carry 17 = .ok (.iload_n 3, 1) := by decide +kernel
theorem dX8_carry_18 : decode cX8_carry 18 = .ok (.i2l, 1) := by decide +kernel
theorem dX8_carry_19 : decode cX8_carry 19 = .ok (.lconst 0, 1) := by decide +kernel
theorem dX8_carry_20 : decode cX8_carry 20 = .ok (.ldc2_w 271, 3) := by decide +kernel
theorem dX8_carry_23 : decode cX8_carry 23 = .ok (.invokestatic 59, 3) := by decide +kernel
theorem dX8_carry_26 : decode cX8_carry 26 = .ok (.ifCond .ne 5, 3) := by decide +kernel
theorem dX8_carry_29 : decode cX8_carry 29 = .ok (.iconst (-1), 1) := by decide +kernel
theorem dX8_carry_30 : decode cX8_carry 30 = .ok (.ireturn, 1) := by decide +kernel
theorem dX8_carry_31 : decode cX8_carry 31 = .ok (.aload_n 0, 1) := by decide +kernel
theorem dX8_carry_32 : decode cX8_carry 32 = .ok (.iload_n 1, 1) := by decide +kernel
theorem dX8_carry_33 : decode cX8_carry 33 = .ok (.invokevirtual 177, 3) := by decide +kernel
theorem dX8_carry_36 : decode cX8_carry 36 = .ok (.ifCond .ne 6, 3) := by decide +kernel
theorem dX8_carry_39 : decode cX8_carry 39 = .ok (.bipush (-2), 2) := by decide +kernel
theorem dX8_carry_41 : decode cX8_carry 41 = .ok (.ireturn, 1) := by decide +kernel
theorem dX8_carry_42 : decode cX8_carry 42 = .ok (.aload_n 0, 1) := by decide +kernel
theorem dX8_carry_43 : decode cX8_carry 43 = .ok (.iload_n 1, 1) := by decide +kernel
theorem dX8_carry_44 : decode cX8_carry 44 = .ok (.iload_n 2, 1) := by decide +kernel
theorem dX8_carry_45 : decode cX8_carry 45 = .ok (.ifCond .ne 8, 3) := by decide +kernel
theorem dX8_carry_48 : decode cX8_carry 48 = .ok (.bipush 6, 2) := by decide +kernel
theorem dX8_carry_50 : decode cX8_carry 50 = .ok (.goto 5, 3) := by decide +kernel
theorem dX8_carry_53 : decode cX8_carry 53 = .ok (.bipush 7, 2) := by decide +kernel
theorem dX8_carry_55 : decode cX8_carry 55 = .ok (.invokevirtual 166, 3) := by decide +kernel
theorem dX8_carry_58 : decode cX8_carry 58 = .ok (.ifCond .ne 6, 3) := by decide +kernel
theorem dX8_carry_61 : decode cX8_carry 61 = .ok (.bipush (-4), 2) := by decide +kernel
theorem dX8_carry_63 : decode cX8_carry 63 = .ok (.ireturn, 1) := by decide +kernel
theorem dX8_carry_64 : decode cX8_carry 64 = .ok (.iconst 0, 1) := by decide +kernel
theorem dX8_carry_65 : decode cX8_carry 65 = .ok (.istore 4, 2) := by decide +kernel
theorem dX8_carry_67 : decode cX8_carry 67 = .ok (.iload 4, 2) := by decide +kernel
theorem dX8_carry_69 : decode cX8_carry 69 = .ok (.bipush 6, 2) := by decide +kernel
theorem dX8_carry_71 : decode cX8_carry 71 = .ok (.if_icmp .ge 56, 3) := by decide +kernel
theorem dX8_carry_74 : decode cX8_carry 74 = .ok (.aload_n 0, 1) := by decide +kernel
theorem dX8_carry_75 : decode cX8_carry 75 = .ok (.getfield 50, 3) := by decide +kernel
theorem dX8_carry_78 : decode cX8_carry 78 = .ok (.iload 4, 2) := by decide +kernel
theorem dX8_carry_80 : decode cX8_carry 80 = .ok (.iload_n 2, 1) := by decide +kernel
theorem dX8_carry_81 : decode cX8_carry 81 = .ok (.ifCond .ne 17, 3) := by decide +kernel
theorem dX8_carry_84 : decode cX8_carry 84 = .ok (.aload_n 0, 1) := by decide +kernel
theorem dX8_carry_85 : decode cX8_carry 85 = .ok (.iload_n 1, 1) := by decide +kernel
theorem dX8_carry_86 : decode cX8_carry 86 = .ok (.sipush 153, 3) := by decide +kernel
theorem dX8_carry_89 : decode cX8_carry 89 = .ok (.iload 4, 2) := by decide +kernel
theorem dX8_carry_91 : decode cX8_carry 91 = .ok (.iadd, 1) := by decide +kernel
theorem dX8_carry_92 : decode cX8_carry 92 = .ok (.invokevirtual 166, 3) := by decide +kernel
theorem dX8_carry_95 : decode cX8_carry 95 = .ok (.goto 25, 3) := by decide +kernel
theorem dX8_carry_98 : decode cX8_carry 98 = .ok (.iload 4, 2) := by decide +kernel
theorem dX8_carry_100 : decode cX8_carry 100 = .ok (.iconst 2, 1) := by decide +kernel
theorem dX8_carry_101 : decode cX8_carry 101 = .ok (.if_icmp .ge 17, 3) := by decide +kernel
theorem dX8_carry_104 : decode cX8_carry 104 = .ok (.aload_n 0, 1) := by decide +kernel
theorem dX8_carry_105 : decode cX8_carry 105 = .ok (.iload_n 1, 1) := by decide +kernel
theorem dX8_carry_106 : decode cX8_carry 106 = .ok (.sipush 249, 3) := by decide +kernel
theorem dX8_carry_109 : decode cX8_carry 109 = .ok (.iload 4, 2) := by decide +kernel
theorem dX8_carry_111 : decode cX8_carry 111 = .ok (.iadd, 1) := by decide +kernel
theorem dX8_carry_112 : decode cX8_carry 112 = .ok (.invokevirtual 166, 3) := by decide +kernel
theorem dX8_carry_115 : decode cX8_carry 115 = .ok (.goto 5, 3) := by decide +kernel
theorem dX8_carry_118 : decode cX8_carry 118 = .ok (.bipush (-4), 2) := by decide +kernel
theorem dX8_carry_120 : decode cX8_carry 120 = .ok (.iastore, 1) := by decide +kernel
theorem dX8_carry_121 : decode cX8_carry 121 = .ok (.iinc 4 1, 3) := by decide +kernel
theorem dX8_carry_124 : decode cX8_carry 124 = .ok (.goto (-57), 3) := by decide +kernel
theorem dX8_carry_127 : decode cX8_carry 127 = .ok (.aload_n 0, 1) := by decide +kernel
theorem dX8_carry_128 : decode cX8_carry 128 = .ok (.getfield 50, 3) := by decide +kernel
theorem dX8_carry_131 : decode cX8_carry 131 = .ok (.iconst 0, 1) := by decide +kernel
theorem dX8_carry_132 : decode cX8_carry 132 = .ok (.iaload, 1) := by decide +kernel
theorem dX8_carry_133 : decode cX8_carry 133 = .ok (.istore 4, 2) := by decide +kernel
theorem dX8_carry_135 : decode cX8_carry 135 = .ok (.iload_n 3, 1) := by decide +kernel
theorem dX8_carry_136 : decode cX8_carry 136 = .ok (.iconst 2, 1) := by decide +kernel
theorem dX8_carry_137 : decode cX8_carry 137 = .ok (.if_icmp .ge 9, 3) := by decide +kernel
theorem dX8_carry_140 : decode cX8_carry 140 = .ok (.aload_n 0, 1) := by decide +kernel
theorem dX8_carry_141 : decode cX8_carry 141 = .ok (.iload_n 1, 1) := by decide +kernel
theorem dX8_carry_142 : decode cX8_carry 142 = .ok (.iload_n 2, 1) := by decide +kernel
theorem dX8_carry_143 : decode cX8_carry 143 = .ok (.invokevirtual 307, 3) := by decide +kernel
theorem dX8_carry_146 : decode cX8_carry 146 = .ok (.iload_n 3, 1) := by decide +kernel
theorem dX8_carry_147 : decode cX8_carry 147 = .ok (.iconst 1, 1) := by decide +kernel
theorem dX8_carry_148 : decode cX8_carry 148 = .ok (.if_icmp .eq 47, 3) := by decide +kernel
theorem dX8_carry_151 : decode cX8_carry 151 = .ok (.iload_n 2, 1) := by decide +kernel
theorem dX8_carry_152 : decode cX8_carry 152 = .ok (.ifCond .ne 43, 3) := by decide +kernel
theorem dX8_carry_155 : decode cX8_carry 155 = .ok (.aload_n 0, 1) := by decide +kernel
theorem dX8_carry_156 : decode cX8_carry 156 = .ok (.iload_n 1, 1) := by decide +kernel
theorem dX8_carry_157 : decode cX8_carry 157 = .ok (.iload 4, 2) := by decide +kernel
theorem dX8_carry_159 : decode cX8_carry 159 = .ok (.aload_n 0, 1) := by decide +kernel
theorem dX8_carry_160 : decode cX8_carry 160 = .ok (.getfield 50, 3) := by decide +kernel
theorem dX8_carry_163 : decode cX8_carry 163 = .ok (.iconst 1, 1) := by decide +kernel
theorem dX8_carry_164 : decode cX8_carry 164 = .ok (.iaload, 1) := by decide +kernel
theorem dX8_carry_165 : decode cX8_carry 165 = .ok (.aload_n 0, 1) := by decide +kernel
theorem dX8_carry_166 : decode cX8_carry 166 = .ok (.getfield 50, 3) := by decide +kernel
theorem dX8_carry_169 : decode cX8_carry 169 = .ok (.iconst 2, 1) := by decide +kernel
theorem dX8_carry_170 : decode cX8_carry 170 = .ok (.iaload, 1) := by decide +kernel
theorem dX8_carry_171 : decode cX8_carry 171 = .ok (.aload_n 0, 1) := by decide +kernel
theorem dX8_carry_172 : decode cX8_carry 172 = .ok (.getfield 50, 3) := by decide +kernel
theorem dX8_carry_175 : decode cX8_carry 175 = .ok (.iconst 3, 1) := by decide +kernel
theorem dX8_carry_176 : decode cX8_carry 176 = .ok (.iaload, 1) := by decide +kernel
theorem dX8_carry_177 : decode cX8_carry 177 = .ok (.aload_n 0, 1) := by decide +kernel
theorem dX8_carry_178 : decode cX8_carry 178 = .ok (.getfield 50, 3) := by decide +kernel
theorem dX8_carry_181 : decode cX8_carry 181 = .ok (.iconst 4, 1) := by decide +kernel
theorem dX8_carry_182 : decode cX8_carry 182 = .ok (.iaload, 1) := by decide +kernel
theorem dX8_carry_183 : decode cX8_carry 183 = .ok (.aload_n 0, 1) := by decide +kernel
theorem dX8_carry_184 : decode cX8_carry 184 = .ok (.getfield 50, 3) := by decide +kernel
theorem dX8_carry_187 : decode cX8_carry 187 = .ok (.iconst 5, 1) := by decide +kernel
theorem dX8_carry_188 : decode cX8_carry 188 = .ok (.iaload, 1) := by decide +kernel
theorem dX8_carry_189 : decode cX8_carry 189 = .ok (.invokevirtual 310, 3) := by decide +kernel
theorem dX8_carry_192 : decode cX8_carry 192 = .ok (.goto 21, 3) := by decide +kernel
theorem dX8_carry_195 : decode cX8_carry 195 = .ok (.iload_n 3, 1) := by decide +kernel
theorem dX8_carry_196 : decode cX8_carry 196 = .ok (.iconst 1, 1) := by decide +kernel
theorem dX8_carry_197 : decode cX8_carry 197 = .ok (.if_icmp .eq 16, 3) := by decide +kernel
theorem dX8_carry_200 : decode cX8_carry 200 = .ok (.aload_n 0, 1) := by decide +kernel
theorem dX8_carry_201 : decode cX8_carry 201 = .ok (.iload_n 1, 1) := by decide +kernel
theorem dX8_carry_202 : decode cX8_carry 202 = .ok (.iload 4, 2) := by decide +kernel
theorem dX8_carry_204 : decode cX8_carry 204 = .ok (.aload_n 0, 1) := by decide +kernel
theorem dX8_carry_205 : decode cX8_carry 205 = .ok (.getfield 50, 3) := by decide +kernel
theorem dX8_carry_208 : decode cX8_carry 208 = .ok (.iconst 1, 1) := by decide +kernel
theorem dX8_carry_209 : decode cX8_carry 209 = .ok (.iaload, 1) := by decide +kernel
theorem dX8_carry_210 : decode cX8_carry 210 = .ok (.invokevirtual 313, 3) := by decide +kernel
theorem dX8_carry_213 : decode cX8_carry 213 = .ok (.iload 4, 2) := by decide +kernel
theorem dX8_carry_215 : decode cX8_carry 215 = .ok (.ireturn, 1) := by decide +kernel
theorem dX8_again_0 : decode cX8_again 0 = .ok (.iload_n 1, 1) := by decide +kernel
theorem dX8_again_1 : decode cX8_again 1 = .ok (.invokestatic 249, 3) := by decide +kernel
theorem dX8_again_4 : decode cX8_again 4 = .ok (.ifCond .ne 5, 3) := by decide +kernel
theorem dX8_again_7 : decode cX8_again 7 = .ok (.iconst (-1), 1) := by decide +kernel
theorem dX8_again_8 : decode cX8_again 8 = .ok (.ireturn, 1) := by decide +kernel
theorem dX8_again_9 : decode cX8_again 9 = .ok (.aload_n 0, 1) := by decide +kernel
theorem dX8_again_10 : decode cX8_again 10 = .ok (.iload_n 1, 1) := by decide +kernel
theorem dX8_again_11 : decode cX8_again 11 = .ok (.invokevirtual 177, 3) := by decide +kernel
theorem dX8_again_14 : decode cX8_again 14 = .ok (.ifCond .ne 6, 3) := by decide +kernel
theorem dX8_again_17 : decode cX8_again 17 = .ok (.bipush (-2), 2) := by decide +kernel
theorem dX8_again_19 : decode cX8_again 19 = .ok (.ireturn, 1) := by decide +kernel
theorem dX8_again_20 : decode cX8_again 20 = .ok (.iconst 0, 1) := by decide +kernel
theorem dX8_again_21 : decode cX8_again 21 = .ok (.istore_n 2, 1) := by decide +kernel
theorem dX8_again_22 : decode cX8_again 22 = .ok (.iload_n 2, 1) := by decide +kernel
theorem dX8_again_23 : decode cX8_again 23 = .ok (.aload_n 0, 1) := by decide +kernel
theorem dX8_again_24 : decode cX8_again 24 = .ok (.iload_n 1, 1) := by decide +kernel
theorem dX8_again_25 : decode cX8_again 25 = .ok (.iconst 4, 1) := by decide +kernel
theorem dX8_again_26 : decode cX8_again 26 = .ok (.invokevirtual 166, 3) := by decide +kernel
theorem dX8_again_29 : decode cX8_again 29 = .ok (.if_icmp .ge 15, 3) := by decide +kernel
theorem dX8_again_32 : decode cX8_again 32 = .ok (.aload_n 0, 1) := by decide +kernel
theorem dX8_again_33 : decode cX8_again 33 = .ok (.iload_n 1, 1) := by decide +kernel
theorem dX8_again_34 : decode cX8_again 34 = .ok (.iload_n 2, 1) := by decide +kernel
theorem dX8_again_35 : decode cX8_again 35 = .ok (.invokevirtual 173, 3) := by decide +kernel
theorem dX8_again_38 : decode cX8_again 38 = .ok (.iinc 2 1, 3) := by decide +kernel
theorem dX8_again_41 : decode cX8_again 41 = .ok (.goto (-19), 3) := by decide +kernel
theorem dX8_again_44 : decode cX8_again 44 = .ok (.aload_n 0, 1) := by decide +kernel
theorem dX8_again_45 : decode cX8_again 45 = .ok (.iload_n 1, 1) := by decide +kernel
theorem dX8_again_46 : decode cX8_again 46 = .ok (.iconst 4, 1) := by decide +kernel
theorem dX8_again_47 : decode cX8_again 47 = .ok (.invokevirtual 166, 3) := by decide +kernel
theorem dX8_again_50 : decode cX8_again 50 = .ok (.ireturn, 1) := by decide +kernel
theorem dX8_tick_0 : decode cX8_tick 0 = .ok (.iload_n 1, 1) := by decide +kernel
theorem dX8_tick_1 : decode cX8_tick 1 = .ok (.i2l, 1) := by decide +kernel
theorem dX8_tick_2 : decode cX8_tick 2 = .ok (.lconst 1, 1) := by decide +kernel
theorem dX8_tick_3 : decode cX8_tick 3 = .ok (.ldc2_w 273, 3) := by decide +kernel
theorem dX8_tick_6 : decode cX8_tick 6 = .ok (.invokestatic 59, 3) := by decide +kernel
theorem dX8_tick_9 : decode cX8_tick 9 = .ok (.ifCond .ne 5, 3) := by decide +kernel
theorem dX8_tick_12 : decode cX8_tick 12 = .ok (.iconst (-1), 1) := by decide +kernel
theorem dX8_tick_13 : decode cX8_tick 13 = .ok (.ireturn, 1) := by decide +kernel
theorem dX8_tick_14 : decode cX8_tick 14 = .ok (.iconst 0, 1) := by decide +kernel
theorem dX8_tick_15 : decode cX8_tick 15 = .ok (.istore_n 2, 1) := by decide +kernel
theorem dX8_tick_16 : decode cX8_tick 16 = .ok (.iconst 0, 1) := by decide +kernel
theorem dX8_tick_17 : decode cX8_tick 17 = .ok (.istore_n 3, 1) := by decide +kernel
theorem dX8_tick_18 : decode cX8_tick 18 = .ok (.iload_n 3, 1) := by decide +kernel
theorem dX8_tick_19 : decode cX8_tick 19 = .ok (.iload_n 1, 1) := by decide +kernel
theorem dX8_tick_20 : decode cX8_tick 20 = .ok (.if_icmp .ge 96, 3) := by decide +kernel
theorem dX8_tick_23 : decode cX8_tick 23 = .ok (.aload_n 0, 1) := by decide +kernel
theorem dX8_tick_24 : decode cX8_tick 24 = .ok (.getfield 7, 3) := by decide +kernel
theorem dX8_tick_27 : decode cX8_tick 27 = .ok (.iconst 0, 1) := by decide +kernel
theorem dX8_tick_28 : decode cX8_tick 28 = .ok (.dup2, 1) := by decide +kernel
theorem dX8_tick_29 : decode cX8_tick 29 = .ok (.iaload, 1) := by decide +kernel
theorem dX8_tick_30 : decode cX8_tick 30 = .ok (.iconst 1, 1) := by decide +kernel
theorem dX8_tick_31 : decode cX8_tick 31 = .ok (.iadd, 1) := by decide +kernel
theorem dX8_tick_32 : decode cX8_tick 32 = .ok (.iastore, 1) := by decide +kernel
theorem dX8_tick_33 : decode cX8_tick 33 = .ok (.iconst 0, 1) := by decide +kernel
theorem dX8_tick_34 : decode cX8_tick 34 = .ok (.istore 4, 2) := by decide +kernel
theorem dX8_tick_36 : decode cX8_tick 36 = .ok (.iload 4, 2) := by decide +kernel
theorem dX8_tick_38 : decode cX8_tick 38 = .ok (.bipush 6, 2) := by decide +kernel
theorem dX8_tick_40 : decode cX8_tick 40 = .ok (.if_icmp .ge 70, 3) := by decide +kernel
theorem dX8_tick_43 : decode cX8_tick 43 = .ok (.aload_n 0, 1) := by decide +kernel
theorem dX8_tick_44 : decode cX8_tick 44 = .ok (.iload 4, 2) := by decide +kernel
theorem dX8_tick_46 : decode cX8_tick 46 = .ok (.bipush 21, 2) := by decide +kernel
theorem dX8_tick_48 : decode cX8_tick 48 = .ok (.invokevirtual 166, 3) := by decide +kernel
theorem dX8_tick_51 : decode cX8_tick 51 = .ok (.aload_n 0, 1) := by decide +kernel
theorem dX8_tick_52 : decode cX8_tick 52 = .ok (.getfield 7, 3) := by decide +kernel
theorem dX8_tick_55 : decode cX8_tick 55 = .ok (.iconst 0, 1) := by decide +kernel
theorem dX8_tick_56 : decode cX8_tick 56 = .ok (.iaload, 1) := by decide +kernel
theorem dX8_tick_57 : decode cX8_tick 57 = .ok (.if_icmp .ne 13, 3) := by decide +kernel
theorem dX8_tick_60 : decode cX8_tick 60 = .ok (.aload_n 0, 1) := by decide +kernel
theorem dX8_tick_61 : decode cX8_tick 61 = .ok (.iload 4, 2) := by decide +kernel
theorem dX8_tick_63 : decode cX8_tick 63 = .ok (.invokevirtual 268, 3) := by decide +kernel
theorem dX8_tick_66 : decode cX8_tick 66 = .ok (.pop, 1) := by decide +kernel
theorem dX8_tick_67 : decode cX8_tick 67 = .ok (.iinc 2 1, 3) := by decide +kernel
theorem dX8_tick_70 : decode cX8_tick 70 = .ok (.aload_n 0, 1) := by decide +kernel
theorem dX8_tick_71 : decode cX8_tick 71 = .ok (.iload 4, 2) := by decide +kernel
theorem dX8_tick_73 : decode cX8_tick 73 = .ok (.iconst 0, 1) := by decide +kernel
theorem dX8_tick_74 : decode cX8_tick 74 = .ok (.invokevirtual 166, 3) := by decide +kernel
theorem dX8_tick_77 : decode cX8_tick 77 = .ok (.iconst 2, 1) := by decide +kernel
theorem dX8_tick_78 : decode cX8_tick 78 = .ok (.if_icmp .ne 26, 3) := by decide +kernel
theorem dX8_tick_81 : decode cX8_tick 81 = .ok (.aload_n 0, 1) := by decide +kernel
theorem dX8_tick_82 : decode cX8_tick 82 = .ok (.iload 4, 2) := by decide +kernel
theorem dX8_tick_84 : decode cX8_tick 84 = .ok (.iconst 2, 1) := by decide +kernel
theorem dX8_tick_85 : decode cX8_tick 85 = .ok (.invokevirtual 166, 3) := by decide +kernel
theorem dX8_tick_88 : decode cX8_tick 88 = .ok (.aload_n 0, 1) := by decide +kernel
theorem dX8_tick_89 : decode cX8_tick 89 = .ok (.getfield 7, 3) := by decide +kernel
theorem dX8_tick_92 : decode cX8_tick 92 = .ok (.iconst 0, 1) := by decide +kernel
theorem dX8_tick_93 : decode cX8_tick 93 = .ok (.iaload, 1) := by decide +kernel
theorem dX8_tick_94 : decode cX8_tick 94 = .ok (.if_icmp .ne 10, 3) := by decide +kernel
theorem dX8_tick_97 : decode cX8_tick 97 = .ok (.aload_n 0, 1) := by decide +kernel
theorem dX8_tick_98 : decode cX8_tick 98 = .ok (.iload 4, 2) := by decide +kernel
theorem dX8_tick_100 : decode cX8_tick 100 = .ok (.iconst 0, 1) := by decide +kernel
theorem dX8_tick_101 : decode cX8_tick 101 = .ok (.invokevirtual 254, 3) := by decide +kernel
theorem dX8_tick_104 : decode cX8_tick 104 = .ok (.iinc 4 1, 3) := by decide +kernel
theorem dX8_tick_107 : decode cX8_tick 107 = .ok (.goto (-71), 3) := by decide +kernel
theorem dX8_tick_110 : decode cX8_tick 110 = .ok (.iinc 3 1, 3) := by decide +kernel
theorem dX8_tick_113 : decode cX8_tick 113 = .ok (.goto (-95), 3) := by decide +kernel
theorem dX8_tick_116 : decode cX8_tick 116 = .ok (.iload_n 2, 1) := by decide +kernel
theorem dX8_tick_117 : decode cX8_tick 117 = .ok (.ireturn, 1) := by decide +kernel
theorem dX8_shares_0 : decode cX8_shares 0 = .ok (.iconst 0, 1) := by decide +kernel
theorem dX8_shares_1 : decode cX8_shares 1 = .ok (.istore_n 1, 1) := by decide +kernel
theorem dX8_shares_2 : decode cX8_shares 2 = .ok (.aload_n 0, 1) := by decide +kernel
theorem dX8_shares_3 : decode cX8_shares 3 = .ok (.invokevirtual 224, 3) := by decide +kernel
theorem dX8_shares_6 : decode cX8_shares 6 = .ok (.aload_n 0, 1) := by decide +kernel
theorem dX8_shares_7 : decode cX8_shares 7 = .ok (.invokevirtual 227, 3) := by decide +kernel
theorem dX8_shares_10 : decode cX8_shares 10 = .ok (.ifCond .eq 9, 3) := by decide +kernel
theorem dX8_shares_13 : decode cX8_shares 13 = .ok (.iinc 1 1, 3) := by decide +kernel
theorem dX8_shares_16 : decode cX8_shares 16 = .ok (.goto (-10), 3) := by decide +kernel
theorem dX8_shares_19 : decode cX8_shares 19 = .ok (.iload_n 1, 1) := by decide +kernel
theorem dX8_shares_20 : decode cX8_shares 20 = .ok (.ireturn, 1) := by decide +kernel
theorem dX8_rule_0 : decode cX8_rule 0 = .ok (.iload_n 1, 1) := by decide +kernel
theorem dX8_rule_1 : decode cX8_rule 1 = .ok (.i2l, 1) := by decide +kernel
theorem dX8_rule_2 : decode cX8_rule 2 = .ok (.lconst 0, 1) := by decide +kernel
theorem dX8_rule_3 : decode cX8_rule 3 = .ok (.ldc2_w 316, 3) := by decide +kernel
theorem dX8_rule_6 : decode cX8_rule 6 = .ok (.invokestatic 59, 3) := by decide +kernel
theorem dX8_rule_9 : decode cX8_rule 9 = .ok (.ifCond .ne 5, 3) := by decide +kernel
theorem dX8_rule_12 : decode cX8_rule 12 = .ok (.iconst (-1), 1) := by decide +kernel
theorem dX8_rule_13 : decode cX8_rule 13 = .ok (.ireturn, 1) := by decide +kernel
theorem dX8_rule_14 : decode cX8_rule 14 = .ok (.iload_n 1, 1) := by decide +kernel
theorem dX8_rule_15 : decode cX8_rule 15 = .ok (.tableswitch 64 7 10 #[29, 34, 39, 44], 29) := by decide +kernel
theorem dX8_rule_44 : decode cX8_rule 44 = .ok (.aload_n 0, 1) := by decide +kernel
theorem dX8_rule_45 : decode cX8_rule 45 = .ok (.invokevirtual 318, 3) := by decide +kernel
theorem dX8_rule_48 : decode cX8_rule 48 = .ok (.ireturn, 1) := by decide +kernel
theorem dX8_rule_49 : decode cX8_rule 49 = .ok (.aload_n 0, 1) := by decide +kernel
theorem dX8_rule_50 : decode cX8_rule 50 = .ok (.getfield 161, 3) := by decide +kernel
theorem dX8_rule_53 : decode cX8_rule 53 = .ok (.ireturn, 1) := by decide +kernel
theorem dX8_rule_54 : decode cX8_rule 54 = .ok (.aload_n 0, 1) := by decide +kernel
theorem dX8_rule_55 : decode cX8_rule 55 = .ok (.getfield 63, 3) := by decide +kernel
theorem dX8_rule_58 : decode cX8_rule 58 = .ok (.ireturn, 1) := by decide +kernel
theorem dX8_rule_59 : decode cX8_rule 59 = .ok (.aload_n 0, 1) := by decide +kernel
theorem dX8_rule_60 : decode cX8_rule 60 = .ok (.getfield 19, 3) := by decide +kernel
theorem dX8_rule_63 : decode cX8_rule 63 = .ok (.iconst 0, 1) := by decide +kernel
theorem dX8_rule_64 : decode cX8_rule 64 = .ok (.baload, 1) := by decide +kernel
theorem dX8_rule_65 : decode cX8_rule 65 = .ok (.invokestatic 260, 3) := by decide +kernel
theorem dX8_rule_68 : decode cX8_rule 68 = .ok (.aload_n 0, 1) := by decide +kernel
theorem dX8_rule_69 : decode cX8_rule 69 = .ok (.getfield 19, 3) := by decide +kernel
theorem dX8_rule_72 : decode cX8_rule 72 = .ok (.iconst 1, 1) := by decide +kernel
theorem dX8_rule_73 : decode cX8_rule 73 = .ok (.baload, 1) := by decide +kernel
theorem dX8_rule_74 : decode cX8_rule 74 = .ok (.invokestatic 260, 3) := by decide +kernel
theorem dX8_rule_77 : decode cX8_rule 77 = .ok (.iadd, 1) := by decide +kernel
theorem dX8_rule_78 : decode cX8_rule 78 = .ok (.ireturn, 1) := by decide +kernel
theorem dX8_rule_79 : decode cX8_rule 79 = .ok (.aload_n 0, 1) := by decide +kernel
theorem dX8_rule_80 : decode cX8_rule 80 = .ok (.getfield 7, 3) := by decide +kernel
theorem dX8_rule_83 : decode cX8_rule 83 = .ok (.iload_n 1, 1) := by decide +kernel
theorem dX8_rule_84 : decode cX8_rule 84 = .ok (.iaload, 1) := by decide +kernel
theorem dX8_rule_85 : decode cX8_rule 85 = .ok (.ireturn, 1) := by decide +kernel
theorem dX8_aliases_0 : decode cX8_aliases 0 = .ok (.iconst 0, 1) := by decide +kernel
theorem dX8_aliases_1 : decode cX8_aliases 1 = .ok (.istore_n 2, 1) := by decide +kernel
theorem dX8_aliases_2 : decode cX8_aliases 2 = .ok (.iconst 0, 1) := by decide +kernel
theorem dX8_aliases_3 : decode cX8_aliases 3 = .ok (.istore_n 3, 1) := by decide +kernel
theorem dX8_aliases_4 : decode cX8_aliases 4 = .ok (.iload_n 3, 1) := by decide +kernel
theorem dX8_aliases_5 : decode cX8_aliases 5 = .ok (.iconst 4, 1) := by decide +kernel
theorem dX8_aliases_6 : decode cX8_aliases 6 = .ok (.if_icmp .ge 34, 3) := by decide +kernel
theorem dX8_aliases_9 : decode cX8_aliases 9 = .ok (.iload_n 2, 1) := by decide +kernel
theorem dX8_aliases_10 : decode cX8_aliases 10 = .ok (.aload_n 0, 1) := by decide +kernel
theorem dX8_aliases_11 : decode cX8_aliases 11 = .ok (.iload_n 1, 1) := by decide +kernel
theorem dX8_aliases_12 : decode cX8_aliases 12 = .ok (.bipush 29, 2) := by decide +kernel
theorem dX8_aliases_14 : decode cX8_aliases 14 = .ok (.iconst 4, 1) := by decide +kernel
theorem dX8_aliases_15 : decode cX8_aliases 15 = .ok (.iload_n 3, 1) := by decide +kernel
theorem dX8_aliases_16 : decode cX8_aliases 16 = .ok (.imul, 1) := by decide +kernel
theorem dX8_aliases_17 : decode cX8_aliases 17 = .ok (.iadd, 1) := by decide +kernel
theorem dX8_aliases_18 : decode cX8_aliases 18 = .ok (.invokevirtual 166, 3) := by decide +kernel
theorem dX8_aliases_21 : decode cX8_aliases 21 = .ok (.ifCond .le 7, 3) := by decide +kernel
theorem dX8_aliases_24 : decode cX8_aliases 24 = .ok (.iconst 1, 1) := by decide +kernel
theorem dX8_aliases_25 : decode cX8_aliases 25 = .ok (.goto 4, 3) := by decide +kernel
theorem dX8_aliases_28 : decode cX8_aliases 28 = .ok (.iconst 0, 1) := by decide +kernel
theorem dX8_aliases_29 : decode cX8_aliases 29 = .ok (.invokestatic 260, 3) := by decide +kernel
theorem dX8_aliases_32 : decode cX8_aliases 32 = .ok (.iadd, 1) := by decide +kernel
theorem dX8_aliases_33 : decode cX8_aliases 33 = .ok (.istore_n 2, 1) := by decide +kernel
theorem dX8_aliases_34 : decode cX8_aliases 34 = .ok (.iinc 3 1, 3) := by decide +kernel
theorem dX8_aliases_37 : decode cX8_aliases 37 = .ok (.goto (-33), 3) := by decide +kernel
theorem dX8_aliases_40 : decode cX8_aliases 40 = .ok (.iload_n 2, 1) := by decide +kernel
theorem dX8_aliases_41 : decode cX8_aliases 41 = .ok (.ireturn, 1) := by decide +kernel
theorem dX8_client_0 : decode cX8_client 0 = .ok (.iload_n 1, 1) := by decide +kernel
theorem dX8_client_1 : decode cX8_client 1 = .ok (.invokestatic 249, 3) := by decide +kernel
theorem dX8_client_4 : decode cX8_client 4 = .ok (.ifCond .eq 15, 3) := by decide +kernel
theorem dX8_client_7 : decode cX8_client 7 = .ok (.iload_n 2, 1) := by decide +kernel
theorem dX8_client_8 : decode cX8_client 8 = .ok (.i2l, 1) := by decide +kernel
theorem dX8_client_9 : decode cX8_client 9 = .ok (.lconst 0, 1) := by decide +kernel
theorem dX8_client_10 : decode cX8_client 10 = .ok (.ldc2_w 321, 3) := by decide +kernel
theorem dX8_client_13 : decode cX8_client 13 = .ok (.invokestatic 59, 3) := by decide +kernel
theorem dX8_client_16 : decode cX8_client 16 = .ok (.ifCond .ne 5, 3) := by decide +kernel
theorem dX8_client_19 : decode cX8_client 19 = .ok (.iconst (-1), 1) := by decide +kernel
theorem dX8_client_20 : decode cX8_client 20 = .ok (.ireturn, 1) := by decide +kernel
theorem dX8_client_21 : decode cX8_client 21 = .ok (.iload_n 2, 1) := by decide +kernel
theorem dX8_client_22 : decode cX8_client 22 = .ok (.i2l, 1) := by decide +kernel
theorem dX8_client_23 : decode cX8_client 23 = .ok (.lconst 1, 1) := by decide +kernel
theorem dX8_client_24 : decode cX8_client 24 = .ok (.ldc2_w 316, 3) := by decide +kernel
theorem dX8_client_27 : decode cX8_client 27 = .ok (.invokestatic 59, 3) := by decide +kernel
theorem dX8_client_30 : decode cX8_client 30 = .ok (.ifCond .eq 15, 3) := by decide +kernel
theorem dX8_client_33 : decode cX8_client 33 = .ok (.aload_n 0, 1) := by decide +kernel
theorem dX8_client_34 : decode cX8_client 34 = .ok (.iload_n 1, 1) := by decide +kernel
theorem dX8_client_35 : decode cX8_client 35 = .ok (.iconst 0, 1) := by decide +kernel
theorem dX8_client_36 : decode cX8_client 36 = .ok (.invokevirtual 166, 3) := by decide +kernel
theorem dX8_client_39 : decode cX8_client 39 = .ok (.ifCond .ne 6, 3) := by decide +kernel
theorem dX8_client_42 : decode cX8_client 42 = .ok (.bipush (-4), 2) := by decide +kernel
theorem dX8_client_44 : decode cX8_client 44 = .ok (.ireturn, 1) := by decide +kernel
theorem dX8_client_45 : decode cX8_client 45 = .ok (.iload_n 2, 1) := by decide +kernel
theorem dX8_client_46 : decode cX8_client 46 = .ok (.tableswitch 108 2 12 #[58, 108, 108, 108, 108, 108, 108, 78, 84, 92, 100], 58) := by decide +kernel
theorem dX8_client_104 : decode cX8_client 104 = .ok (.aload_n 0, 1) := by decide +kernel
theorem dX8_client_105 : decode cX8_client 105 = .ok (.iload_n 1, 1) := by decide +kernel
theorem dX8_client_106 : decode cX8_client 106 = .ok (.invokevirtual 177, 3) := by decide +kernel
theorem dX8_client_109 : decode cX8_client 109 = .ok (.ifCond .eq 8, 3) := by decide +kernel
theorem dX8_client_112 : decode cX8_client 112 = .ok (.bipush (-4), 2) := by decide +kernel
theorem dX8_client_114 : decode cX8_client 114 = .ok (.goto 9, 3) := by decide +kernel
theorem dX8_client_117 : decode cX8_client 117 = .ok (.aload_n 0, 1) := by decide +kernel
theorem dX8_client_118 : decode cX8_client 118 = .ok (.iload_n 1, 1) := by decide +kernel
theorem dX8_client_119 : decode cX8_client 119 = .ok (.iconst 2, 1) := by decide +kernel
theorem dX8_client_120 : decode cX8_client 120 = .ok (.invokevirtual 166, 3) := by decide +kernel
theorem dX8_client_123 : decode cX8_client 123 = .ok (.ireturn, 1) := by decide +kernel
theorem dX8_client_124 : decode cX8_client 124 = .ok (.aload_n 0, 1) := by decide +kernel
theorem dX8_client_125 : decode cX8_client 125 = .ok (.iload_n 1, 1) := by decide +kernel
theorem dX8_client_126 : decode cX8_client 126 = .ok (.invokevirtual 323, 3) := by decide +kernel
theorem dX8_client_129 : decode cX8_client 129 = .ok (.ireturn, 1) := by decide +kernel
theorem dX8_client_130 : decode cX8_client 130 = .ok (.aload_n 0, 1) := by decide +kernel
theorem dX8_client_131 : decode cX8_client 131 = .ok (.iload_n 1, 1) := by decide +kernel
theorem dX8_client_132 : decode cX8_client 132 = .ok (.bipush 12, 2) := by decide +kernel
theorem dX8_client_134 : decode cX8_client 134 = .ok (.invokevirtual 166, 3) := by decide +kernel
theorem dX8_client_137 : decode cX8_client 137 = .ok (.ireturn, 1) := by decide +kernel
theorem dX8_client_138 : decode cX8_client 138 = .ok (.aload_n 0, 1) := by decide +kernel
theorem dX8_client_139 : decode cX8_client 139 = .ok (.iload_n 1, 1) := by decide +kernel
theorem dX8_client_140 : decode cX8_client 140 = .ok (.bipush 21, 2) := by decide +kernel
theorem dX8_client_142 : decode cX8_client 142 = .ok (.invokevirtual 166, 3) := by decide +kernel
theorem dX8_client_145 : decode cX8_client 145 = .ok (.ireturn, 1) := by decide +kernel
theorem dX8_client_146 : decode cX8_client 146 = .ok (.aload_n 0, 1) := by decide +kernel
theorem dX8_client_147 : decode cX8_client 147 = .ok (.iload_n 1, 1) := by decide +kernel
theorem dX8_client_148 : decode cX8_client 148 = .ok (.bipush 10, 2) := by decide +kernel
theorem dX8_client_150 : decode cX8_client 150 = .ok (.invokevirtual 166, 3) := by decide +kernel
theorem dX8_client_153 : decode cX8_client 153 = .ok (.ireturn, 1) := by decide +kernel
theorem dX8_client_154 : decode cX8_client 154 = .ok (.aload_n 0, 1) := by decide +kernel
theorem dX8_client_155 : decode cX8_client 155 = .ok (.iload_n 1, 1) := by decide +kernel
theorem dX8_client_156 : decode cX8_client 156 = .ok (.iload_n 2, 1) := by decide +kernel
theorem dX8_client_157 : decode cX8_client 157 = .ok (.invokevirtual 166, 3) := by decide +kernel
theorem dX8_client_160 : decode cX8_client 160 = .ok (.ireturn, 1) := by decide +kernel
theorem dX8_levelsOf_0 : decode cX8_levelsOf 0 = .ok (.iconst 0, 1) := by decide +kernel
theorem dX8_levelsOf_1 : decode cX8_levelsOf 1 = .ok (.istore_n 2, 1) := by decide +kernel
theorem dX8_levelsOf_2 : decode cX8_levelsOf 2 = .ok (.iload_n 2, 1) := by decide +kernel
theorem dX8_levelsOf_3 : decode cX8_levelsOf 3 = .ok (.iconst 4, 1) := by decide +kernel
theorem dX8_levelsOf_4 : decode cX8_levelsOf 4 = .ok (.if_icmp .ge 17, 3) := by decide +kernel
theorem dX8_levelsOf_7 : decode cX8_levelsOf 7 = .ok (.aload_n 0, 1) := by decide +kernel
theorem dX8_levelsOf_8 : decode cX8_levelsOf 8 = .ok (.iload_n 1, 1) := by decide +kernel
theorem dX8_levelsOf_9 : decode cX8_levelsOf 9 = .ok (.iload_n 2, 1) := by decide +kernel
theorem dX8_levelsOf_10 : decode cX8_levelsOf 10 = .ok (.iadd, 1) := by decide +kernel
theorem dX8_levelsOf_11 : decode cX8_levelsOf 11 = .ok (.iaload, 1) := by decide +kernel
theorem dX8_levelsOf_12 : decode cX8_levelsOf 12 = .ok (.ifCond .le 9, 3) := by decide +kernel
theorem dX8_levelsOf_15 : decode cX8_levelsOf 15 = .ok (.iinc 2 1, 3) := by decide +kernel
theorem dX8_levelsOf_18 : decode cX8_levelsOf 18 = .ok (.goto (-16), 3) := by decide +kernel
theorem dX8_levelsOf_21 : decode cX8_levelsOf 21 = .ok (.iload_n 2, 1) := by decide +kernel
theorem dX8_levelsOf_22 : decode cX8_levelsOf 22 = .ok (.ireturn, 1) := by decide +kernel
theorem dX8_subscription_0 : decode cX8_subscription 0 = .ok (.iload_n 1, 1) := by decide +kernel
theorem dX8_subscription_1 : decode cX8_subscription 1 = .ok (.invokestatic 249, 3) := by decide +kernel
theorem dX8_subscription_4 : decode cX8_subscription 4 = .ok (.ifCond .eq 19, 3) := by decide +kernel
theorem dX8_subscription_7 : decode cX8_subscription 7 = .ok (.iload_n 2, 1) := by decide +kernel
theorem dX8_subscription_8 : decode cX8_subscription 8 = .ok (.ifCond .lt 15, 3) := by decide +kernel
theorem dX8_subscription_11 : decode cX8_subscription 11 = .ok (.iload_n 3, 1) := by decide +kernel
theorem dX8_subscription_12 : decode cX8_subscription 12 = .ok (.i2l, 1) := by decide +kernel
theorem dX8_subscription_13 : decode cX8_subscription 13 = .ok (.lconst 0, 1) := by decide +kernel
theorem dX8_subscription_14 : decode cX8_subscription 14 = .ok (.ldc2_w 326, 3) := by decide +kernel
theorem dX8_subscription_17 : decode cX8_subscription 17 = .ok (.invokestatic 59, 3) := by decide +kernel
theorem dX8_subscription_20 : decode cX8_subscription 20 = .ok (.ifCond .ne 5, 3) := by decide +kernel
theorem dX8_subscription_23 : decode cX8_subscription 23 = .ok (.iconst (-1), 1) := by decide +kernel
theorem dX8_subscription_24 : decode cX8_subscription 24 = .ok (.ireturn, 1) := by decide +kernel
theorem dX8_subscription_25 : decode cX8_subscription 25 = .ok (.aload_n 0, 1) := by decide +kernel
theorem dX8_subscription_26 : decode cX8_subscription 26 = .ok (.iload_n 1, 1) := by decide +kernel
theorem dX8_subscription_27 : decode cX8_subscription 27 = .ok (.iconst 0, 1) := by decide +kernel
theorem dX8_subscription_28 : decode cX8_subscription 28 = .ok (.invokevirtual 166, 3) := by decide +kernel
theorem dX8_subscription_31 : decode cX8_subscription 31 = .ok (.ifCond .eq 13, 3) := by decide +kernel
theorem dX8_subscription_34 : decode cX8_subscription 34 = .ok (.iload_n 2, 1) := by decide +kernel
theorem dX8_subscription_35 : decode cX8_subscription 35 = .ok (.aload_n 0, 1) := by decide +kernel
theorem dX8_subscription_36 : decode cX8_subscription 36 = .ok (.iload_n 1, 1) := by decide +kernel
theorem dX8_subscription_37 : decode cX8_subscription 37 = .ok (.iconst 3, 1) := by decide +kernel
theorem dX8_subscription_38 : decode cX8_subscription 38 = .ok (.invokevirtual 166, 3) := by decide +kernel
theorem dX8_subscription_41 : decode cX8_subscription 41 = .ok (.if_icmp .lt 6, 3) := by decide +kernel
theorem dX8_subscription_44 : decode cX8_subscription 44 = .ok (.bipush (-4), 2) := by decide +kernel
theorem dX8_subscription_46 : decode cX8_subscription 46 = .ok (.ireturn, 1) := by decide +kernel
theorem dX8_subscription_47 : decode cX8_subscription 47 = .ok (.iload_n 1, 1) := by decide +kernel
theorem dX8_subscription_48 : decode cX8_subscription 48 = .ok (.bipush 45, 2) := by decide +kernel
theorem dX8_subscription_50 : decode cX8_subscription 50 = .ok (.bipush 6, 2) := by decide +kernel
theorem dX8_subscription_52 : decode cX8_subscription 52 = .ok (.iload_n 2, 1) := by decide +kernel
theorem dX8_subscription_53 : decode cX8_subscription 53 = .ok (.imul, 1) := by decide +kernel
theorem dX8_subscription_54 : decode cX8_subscription 54 = .ok (.iadd, 1) := by decide +kernel
theorem dX8_subscription_55 : decode cX8_subscription 55 = .ok (.invokestatic 115, 3) := by decide +kernel
theorem dX8_subscription_58 : decode cX8_subscription 58 = .ok (.istore 4, 2) := by decide +kernel
theorem dX8_subscription_60 : decode cX8_subscription 60 = .ok (.iload_n 3, 1) := by decide +kernel
theorem dX8_subscription_61 : decode cX8_subscription 61 = .ok (.tableswitch 79 0 3 #[31, 41, 41, 53], 31) := by decide +kernel
theorem dX8_subscription_92 : decode cX8_subscription 92 = .ok (.aload_n 0, 1) := by decide +kernel
theorem dX8_subscription_93 : decode cX8_subscription 93 = .ok (.getfield 7, 3) := by decide +kernel
theorem dX8_subscription_96 : decode cX8_subscription 96 = .ok (.iload 4, 2) := by decide +kernel
theorem dX8_subscription_98 : decode cX8_subscription 98 = .ok (.invokestatic 328, 3) := by decide +kernel
theorem dX8_subscription_101 : decode cX8_subscription 101 = .ok (.ireturn, 1) := by decide +kernel
theorem dX8_subscription_102 : decode cX8_subscription 102 = .ok (.aload_n 0, 1) := by decide +kernel
theorem dX8_subscription_103 : decode cX8_subscription 103 = .ok (.getfield 7, 3) := by decide +kernel
theorem dX8_subscription_106 : decode cX8_subscription 106 = .ok (.iload 4, 2) := by decide +kernel
theorem dX8_subscription_108 : decode cX8_subscription 108 = .ok (.iconst 3, 1) := by decide +kernel
theorem dX8_subscription_109 : decode cX8_subscription 109 = .ok (.iadd, 1) := by decide +kernel
theorem dX8_subscription_110 : decode cX8_subscription 110 = .ok (.iload_n 3, 1) := by decide +kernel
theorem dX8_subscription_111 : decode cX8_subscription 111 = .ok (.iadd, 1) := by decide +kernel
theorem dX8_subscription_112 : decode cX8_subscription 112 = .ok (.iaload, 1) := by decide +kernel
theorem dX8_subscription_113 : decode cX8_subscription 113 = .ok (.ireturn, 1) := by decide +kernel
theorem dX8_subscription_114 : decode cX8_subscription 114 = .ok (.aload_n 0, 1) := by decide +kernel
theorem dX8_subscription_115 : decode cX8_subscription 115 = .ok (.invokevirtual 275, 3) := by decide +kernel
theorem dX8_subscription_118 : decode cX8_subscription 118 = .ok (.ifCond .eq 19, 3) := by decide +kernel
theorem dX8_subscription_121 : decode cX8_subscription 121 = .ok (.aload_n 0, 1) := by decide +kernel
theorem dX8_subscription_122 : decode cX8_subscription 122 = .ok (.iload 4, 2) := by decide +kernel
theorem dX8_subscription_124 : decode cX8_subscription 124 = .ok (.aload_n 0, 1) := by decide +kernel
theorem dX8_subscription_125 : decode cX8_subscription 125 = .ok (.getfield 23, 3) := by decide +kernel
theorem dX8_subscription_128 : decode cX8_subscription 128 = .ok (.invokevirtual 184, 3) := by decide +kernel
theorem dX8_subscription_131 : decode cX8_subscription 131 = .ok (.invokestatic 260, 3) := by decide +kernel
theorem dX8_subscription_134 : decode cX8_subscription 134 = .ok (.goto 5, 3) := by decide +kernel
theorem dX8_subscription_137 : decode cX8_subscription 137 = .ok (.bipush (-4), 2) := by decide +kernel
theorem dX8_subscription_139 : decode cX8_subscription 139 = .ok (.ireturn, 1) := by decide +kernel
theorem dX8_subscription_140 : decode cX8_subscription 140 = .ok (.aload_n 0, 1) := by decide +kernel
theorem dX8_subscription_141 : decode cX8_subscription 141 = .ok (.getfield 7, 3) := by decide +kernel
theorem dX8_subscription_144 : decode cX8_subscription 144 = .ok (.iload 4, 2) := by decide +kernel
theorem dX8_subscription_146 : decode cX8_subscription 146 = .ok (.iload_n 3, 1) := by decide +kernel
theorem dX8_subscription_147 : decode cX8_subscription 147 = .ok (.iadd, 1) := by decide +kernel
theorem dX8_subscription_148 : decode cX8_subscription 148 = .ok (.iconst 4, 1) := by decide +kernel
theorem dX8_subscription_149 : decode cX8_subscription 149 = .ok (.isub, 1) := by decide +kernel
theorem dX8_subscription_150 : decode cX8_subscription 150 = .ok (.iaload, 1) := by decide +kernel
theorem dX8_subscription_151 : decode cX8_subscription 151 = .ok (.ireturn, 1) := by decide +kernel
theorem dX8_kept_0 : decode cX8_kept 0 = .ok (.iload_n 1, 1) := by decide +kernel
theorem dX8_kept_1 : decode cX8_kept 1 = .ok (.ifCond .lt 15, 3) := by decide +kernel
theorem dX8_kept_4 : decode cX8_kept 4 = .ok (.iload_n 2, 1) := by decide +kernel
theorem dX8_kept_5 : decode cX8_kept 5 = .ok (.i2l, 1) := by decide +kernel
theorem dX8_kept_6 : decode cX8_kept 6 = .ok (.lconst 0, 1) := by decide +kernel
theorem dX8_kept_7 : decode cX8_kept 7 = .ok (.ldc2_w 326, 3) := by decide +kernel
theorem dX8_kept_10 : decode cX8_kept 10 = .ok (.invokestatic 59, 3) := by decide +kernel
theorem dX8_kept_13 : decode cX8_kept 13 = .ok (.ifCond .ne 5, 3) := by decide +kernel
theorem dX8_kept_16 : decode cX8_kept 16 = .ok (.iconst (-1), 1) := by decide +kernel
theorem dX8_kept_17 : decode cX8_kept 17 = .ok (.ireturn, 1) := by decide +kernel
theorem dX8_kept_18 : decode cX8_kept 18 = .ok (.iload_n 1, 1) := by decide +kernel
theorem dX8_kept_19 : decode cX8_kept 19 = .ok (.aload_n 0, 1) := by decide +kernel
theorem dX8_kept_20 : decode cX8_kept 20 = .ok (.getfield 7, 3) := by decide +kernel
theorem dX8_kept_23 : decode cX8_kept 23 = .ok (.bipush 6, 2) := by decide +kernel
theorem dX8_kept_25 : decode cX8_kept 25 = .ok (.iaload, 1) := by decide +kernel
theorem dX8_kept_26 : decode cX8_kept 26 = .ok (.if_icmp .lt 6, 3) := by decide +kernel
theorem dX8_kept_29 : decode cX8_kept 29 = .ok (.bipush (-4), 2) := by decide +kernel
theorem dX8_kept_31 : decode cX8_kept 31 = .ok (.ireturn, 1) := by decide +kernel
theorem dX8_kept_32 : decode cX8_kept 32 = .ok (.bipush 8, 2) := by decide +kernel
theorem dX8_kept_34 : decode cX8_kept 34 = .ok (.bipush 7, 2) := by decide +kernel
theorem dX8_kept_36 : decode cX8_kept 36 = .ok (.iload_n 1, 1) := by decide +kernel
theorem dX8_kept_37 : decode cX8_kept 37 = .ok (.imul, 1) := by decide +kernel
theorem dX8_kept_38 : decode cX8_kept 38 = .ok (.iadd, 1) := by decide +kernel
theorem dX8_kept_39 : decode cX8_kept 39 = .ok (.istore_n 3, 1) := by decide +kernel
theorem dX8_kept_40 : decode cX8_kept 40 = .ok (.iload_n 2, 1) := by decide +kernel
theorem dX8_kept_41 : decode cX8_kept 41 = .ok (.ifCond .ne 14, 3) := by decide +kernel
theorem dX8_kept_44 : decode cX8_kept 44 = .ok (.aload_n 0, 1) := by decide +kernel
theorem dX8_kept_45 : decode cX8_kept 45 = .ok (.getfield 7, 3) := by decide +kernel
theorem dX8_kept_48 : decode cX8_kept 48 = .ok (.iload_n 3, 1) := by decide +kernel
theorem dX8_kept_49 : decode cX8_kept 49 = .ok (.invokestatic 328, 3) := by decide +kernel
theorem dX8_kept_52 : decode cX8_kept 52 = .ok (.goto 31, 3) := by decide +kernel
theorem dX8_kept_55 : decode cX8_kept 55 = .ok (.iload_n 2, 1) := by decide +kernel
theorem dX8_kept_56 : decode cX8_kept 56 = .ok (.iconst 4, 1) := by decide +kernel
theorem dX8_kept_57 : decode cX8_kept 57 = .ok (.if_icmp .ge 16, 3) := by decide +kernel
theorem dX8_kept_60 : decode cX8_kept 60 = .ok (.aload_n 0, 1) := by decide +kernel
theorem dX8_kept_61 : decode cX8_kept 61 = .ok (.getfield 7, 3) := by decide +kernel
theorem dX8_kept_64 : decode cX8_kept 64 = .ok (.iload_n 3, 1) := by decide +kernel
theorem dX8_kept_65 : decode cX8_kept 65 = .ok (.iconst 3, 1) := by decide +kernel
theorem dX8_kept_66 : decode cX8_kept 66 = .ok (.iadd, 1) := by decide +kernel
theorem dX8_kept_67 : decode cX8_kept 67 = .ok (.iload_n 2, 1) := by decide +kernel
theorem dX8_kept_68 : decode cX8_kept 68 = .ok (.iadd, 1) := by decide +kernel
theorem dX8_kept_69 : decode cX8_kept 69 = .ok (.iaload, 1) := by decide +kernel
theorem dX8_kept_70 : decode cX8_kept 70 = .ok (.goto 13, 3) := by decide +kernel
theorem dX8_kept_73 : decode cX8_kept 73 = .ok (.aload_n 0, 1) := by decide +kernel
theorem dX8_kept_74 : decode cX8_kept 74 = .ok (.getfield 7, 3) := by decide +kernel
theorem dX8_kept_77 : decode cX8_kept 77 = .ok (.iload_n 3, 1) := by decide +kernel
theorem dX8_kept_78 : decode cX8_kept 78 = .ok (.iload_n 2, 1) := by decide +kernel
theorem dX8_kept_79 : decode cX8_kept 79 = .ok (.iadd, 1) := by decide +kernel
theorem dX8_kept_80 : decode cX8_kept 80 = .ok (.iconst 4, 1) := by decide +kernel
theorem dX8_kept_81 : decode cX8_kept 81 = .ok (.isub, 1) := by decide +kernel
theorem dX8_kept_82 : decode cX8_kept 82 = .ok (.iaload, 1) := by decide +kernel
theorem dX8_kept_83 : decode cX8_kept 83 = .ok (.ireturn, 1) := by decide +kernel
theorem dX8_had_0 : decode cX8_had 0 = .ok (.iload_n 1, 1) := by decide +kernel
theorem dX8_had_1 : decode cX8_had 1 = .ok (.i2l, 1) := by decide +kernel
theorem dX8_had_2 : decode cX8_had 2 = .ok (.lconst 1, 1) := by decide +kernel
theorem dX8_had_3 : decode cX8_had 3 = .ok (.ldc2_w 278, 3) := by decide +kernel
theorem dX8_had_6 : decode cX8_had 6 = .ok (.invokestatic 59, 3) := by decide +kernel
theorem dX8_had_9 : decode cX8_had 9 = .ok (.ifCond .ne 5, 3) := by decide +kernel
theorem dX8_had_12 : decode cX8_had 12 = .ok (.iconst (-1), 1) := by decide +kernel
theorem dX8_had_13 : decode cX8_had 13 = .ok (.ireturn, 1) := by decide +kernel
theorem dX8_had_14 : decode cX8_had 14 = .ok (.aload_n 0, 1) := by decide +kernel
theorem dX8_had_15 : decode cX8_had 15 = .ok (.getfield 32, 3) := by decide +kernel
theorem dX8_had_18 : decode cX8_had 18 = .ok (.iconst 0, 1) := by decide +kernel
theorem dX8_had_19 : decode cX8_had 19 = .ok (.iload_n 1, 1) := by decide +kernel
theorem dX8_had_20 : decode cX8_had 20 = .ok (.iastore, 1) := by decide +kernel
theorem dX8_had_21 : decode cX8_had 21 = .ok (.iconst 0, 1) := by decide +kernel
theorem dX8_had_22 : decode cX8_had 22 = .ok (.istore_n 2, 1) := by decide +kernel
theorem dX8_had_23 : decode cX8_had 23 = .ok (.iload_n 2, 1) := by decide +kernel
theorem dX8_had_24 : decode cX8_had 24 = .ok (.iconst 4, 1) := by decide +kernel
theorem dX8_had_25 : decode cX8_had 25 = .ok (.if_icmp .ge 35, 3) := by decide +kernel
theorem dX8_had_28 : decode cX8_had 28 = .ok (.aload_n 0, 1) := by decide +kernel
theorem dX8_had_29 : decode cX8_had 29 = .ok (.getfield 32, 3) := by decide +kernel
theorem dX8_had_32 : decode cX8_had 32 = .ok (.iconst 1, 1) := by decide +kernel
theorem dX8_had_33 : decode cX8_had 33 = .ok (.iload_n 2, 1) := by decide +kernel
theorem dX8_had_34 : decode cX8_had 34 = .ok (.iadd, 1) := by decide +kernel
theorem dX8_had_35 : decode cX8_had 35 = .ok (.iload_n 2, 1) := by decide +kernel
theorem dX8_had_36 : decode cX8_had 36 = .ok (.aload_n 0, 1) := by decide +kernel
theorem dX8_had_37 : decode cX8_had 37 = .ok (.getfield 161, 3) := by decide +kernel
theorem dX8_had_40 : decode cX8_had 40 = .ok (.if_icmp .ge 12, 3) := by decide +kernel
theorem dX8_had_43 : decode cX8_had 43 = .ok (.aload_n 0, 1) := by decide +kernel
theorem dX8_had_44 : decode cX8_had 44 = .ok (.getfield 23, 3) := by decide +kernel
theorem dX8_had_47 : decode cX8_had 47 = .ok (.iload_n 2, 1) := by decide +kernel
theorem dX8_had_48 : decode cX8_had 48 = .ok (.iaload, 1) := by decide +kernel
theorem dX8_had_49 : decode cX8_had 49 = .ok (.goto 4, 3) := by decide +kernel
theorem dX8_had_52 : decode cX8_had 52 = .ok (.iconst 0, 1) := by decide +kernel
theorem dX8_had_53 : decode cX8_had 53 = .ok (.iastore, 1) := by decide +kernel
theorem dX8_had_54 : decode cX8_had 54 = .ok (.iinc 2 1, 3) := by decide +kernel
theorem dX8_had_57 : decode cX8_had 57 = .ok (.goto (-34), 3) := by decide +kernel
theorem dX8_had_60 : decode cX8_had 60 = .ok (.aload_n 0, 1) := by decide +kernel
theorem dX8_had_61 : decode cX8_had 61 = .ok (.invokevirtual 203, 3) := by decide +kernel
theorem dX8_had_64 : decode cX8_had 64 = .ok (.istore_n 2, 1) := by decide +kernel
theorem dX8_had_65 : decode cX8_had 65 = .ok (.iload_n 2, 1) := by decide +kernel
theorem dX8_had_66 : decode cX8_had 66 = .ok (.bipush (-4), 2) := by decide +kernel
theorem dX8_had_68 : decode cX8_had 68 = .ok (.if_icmp .ne 8, 3) := by decide +kernel
theorem dX8_had_71 : decode cX8_had 71 = .ok (.bipush (-4), 2) := by decide +kernel
theorem dX8_had_73 : decode cX8_had 73 = .ok (.goto 17, 3) := by decide +kernel
theorem dX8_had_76 : decode cX8_had 76 = .ok (.aload_n 0, 1) := by decide +kernel
theorem dX8_had_77 : decode cX8_had 77 = .ok (.getfield 7, 3) := by decide +kernel
theorem dX8_had_80 : decode cX8_had 80 = .ok (.bipush 92, 2) := by decide +kernel
theorem dX8_had_82 : decode cX8_had 82 = .ok (.bipush 6, 2) := by decide +kernel
theorem dX8_had_84 : decode cX8_had 84 = .ok (.iload_n 2, 1) := by decide +kernel
theorem dX8_had_85 : decode cX8_had 85 = .ok (.imul, 1) := by decide +kernel
theorem dX8_had_86 : decode cX8_had 86 = .ok (.iadd, 1) := by decide +kernel
theorem dX8_had_87 : decode cX8_had 87 = .ok (.iconst 5, 1) := by decide +kernel
theorem dX8_had_88 : decode cX8_had 88 = .ok (.iadd, 1) := by decide +kernel
theorem dX8_had_89 : decode cX8_had 89 = .ok (.iaload, 1) := by decide +kernel
theorem dX8_had_90 : decode cX8_had 90 = .ok (.ireturn, 1) := by decide +kernel
theorem dX8_line_0 : decode cX8_line 0 = .ok (.iload_n 1, 1) := by decide +kernel
theorem dX8_line_1 : decode cX8_line 1 = .ok (.invokestatic 249, 3) := by decide +kernel
theorem dX8_line_4 : decode cX8_line 4 = .ok (.ifCond .eq 30, 3) := by decide +kernel
theorem dX8_line_7 : decode cX8_line 7 = .ok (.iload_n 2, 1) := by decide +kernel
theorem dX8_line_8 : decode cX8_line 8 = .ok (.i2l, 1) := by decide +kernel
theorem dX8_line_9 : decode cX8_line 9 = .ok (.lconst 0, 1) := by decide +kernel
theorem dX8_line_10 : decode cX8_line 10 = .ok (.lconst 1, 1) := by decide +kernel
theorem dX8_line_11 : decode cX8_line 11 = .ok (.invokestatic 59, 3) := by decide +kernel
theorem dX8_line_14 : decode cX8_line 14 = .ok (.ifCond .eq 20, 3) := by decide +kernel
theorem dX8_line_17 : decode cX8_line 17 = .ok (.iload_n 3, 1) := by decide +kernel
theorem dX8_line_18 : decode cX8_line 18 = .ok (.ifCond .lt 16, 3) := by decide +kernel
theorem dX8_line_21 : decode cX8_line 21 = .ok (.iload 4, 2) := by decide +kernel
theorem dX8_line_23 : decode cX8_line 23 = .ok (.i2l, 1) := by decide +kernel
theorem dX8_line_24 : decode cX8_line 24 = .ok (.lconst 0, 1) := by decide +kernel
theorem dX8_line_25 : decode cX8_line 25 = .ok (.ldc2_w 284, 3) := by decide +kernel
theorem dX8_line_28 : decode cX8_line 28 = .ok (.invokestatic 59, 3) := by decide +kernel
theorem dX8_line_31 : decode cX8_line 31 = .ok (.ifCond .ne 5, 3) := by decide +kernel
theorem dX8_line_34 : decode cX8_line 34 = .ok (.iconst (-1), 1) := by decide +kernel
theorem dX8_line_35 : decode cX8_line 35 = .ok (.ireturn, 1) := by decide +kernel
theorem dX8_line_36 : decode cX8_line 36 = .ok (.iload_n 3, 1) := by decide +kernel
theorem dX8_line_37 : decode cX8_line 37 = .ok (.aload_n 0, 1) := by decide +kernel
theorem dX8_line_38 : decode cX8_line 38 = .ok (.iload_n 1, 1) := by decide +kernel
theorem dX8_line_39 : decode cX8_line 39 = .ok (.iload_n 2, 1) := by decide +kernel
theorem dX8_line_40 : decode cX8_line 40 = .ok (.ifCond .ne 8, 3) := by decide +kernel
theorem dX8_line_43 : decode cX8_line 43 = .ok (.bipush 6, 2) := by decide +kernel
theorem dX8_line_45 : decode cX8_line 45 = .ok (.goto 5, 3) := by decide +kernel
theorem dX8_line_48 : decode cX8_line 48 = .ok (.bipush 7, 2) := by decide +kernel
theorem dX8_line_50 : decode cX8_line 50 = .ok (.invokevirtual 166, 3) := by decide +kernel
theorem dX8_line_53 : decode cX8_line 53 = .ok (.if_icmp .lt 6, 3) := by decide +kernel
theorem dX8_line_56 : decode cX8_line 56 = .ok (.bipush (-4), 2) := by decide +kernel
theorem dX8_line_58 : decode cX8_line 58 = .ok (.ireturn, 1) := by decide +kernel
theorem dX8_line_59 : decode cX8_line 59 = .ok (.iload_n 2, 1) := by decide +kernel
theorem dX8_line_60 : decode cX8_line 60 = .ok (.iconst 1, 1) := by decide +kernel
theorem dX8_line_61 : decode cX8_line 61 = .ok (.if_icmp .ne 30, 3) := by decide +kernel
theorem dX8_line_64 : decode cX8_line 64 = .ok (.iload 4, 2) := by decide +kernel
theorem dX8_line_66 : decode cX8_line 66 = .ok (.iconst 2, 1) := by decide +kernel
theorem dX8_line_67 : decode cX8_line 67 = .ok (.if_icmp .ge 21, 3) := by decide +kernel
theorem dX8_line_70 : decode cX8_line 70 = .ok (.aload_n 0, 1) := by decide +kernel
theorem dX8_line_71 : decode cX8_line 71 = .ok (.iload_n 1, 1) := by decide +kernel
theorem dX8_line_72 : decode cX8_line 72 = .ok (.sipush 249, 3) := by decide +kernel
theorem dX8_line_75 : decode cX8_line 75 = .ok (.iconst 2, 1) := by decide +kernel
theorem dX8_line_76 : decode cX8_line 76 = .ok (.iload_n 3, 1) := by decide +kernel
theorem dX8_line_77 : decode cX8_line 77 = .ok (.imul, 1) := by decide +kernel
theorem dX8_line_78 : decode cX8_line 78 = .ok (.iadd, 1) := by decide +kernel
theorem dX8_line_79 : decode cX8_line 79 = .ok (.iload 4, 2) := by decide +kernel
theorem dX8_line_81 : decode cX8_line 81 = .ok (.iadd, 1) := by decide +kernel
theorem dX8_line_82 : decode cX8_line 82 = .ok (.invokevirtual 166, 3) := by decide +kernel
theorem dX8_line_85 : decode cX8_line 85 = .ok (.goto 5, 3) := by decide +kernel
theorem dX8_line_88 : decode cX8_line 88 = .ok (.bipush (-4), 2) := by decide +kernel
theorem dX8_line_90 : decode cX8_line 90 = .ok (.ireturn, 1) := by decide +kernel
theorem dX8_line_91 : decode cX8_line 91 = .ok (.aload_n 0, 1) := by decide +kernel
theorem dX8_line_92 : decode cX8_line 92 = .ok (.iload_n 1, 1) := by decide +kernel
theorem dX8_line_93 : decode cX8_line 93 = .ok (.sipush 153, 3) := by decide +kernel
theorem dX8_line_96 : decode cX8_line 96 = .ok (.bipush 6, 2) := by decide +kernel
theorem dX8_line_98 : decode cX8_line 98 = .ok (.iload_n 3, 1) := by decide +kernel
theorem dX8_line_99 : decode cX8_line 99 = .ok (.imul, 1) := by decide +kernel
theorem dX8_line_100 : decode cX8_line 100 = .ok (.iadd, 1) := by decide +kernel
theorem dX8_line_101 : decode cX8_line 101 = .ok (.iload 4, 2) := by decide +kernel
theorem dX8_line_103 : decode cX8_line 103 = .ok (.iadd, 1) := by decide +kernel
theorem dX8_line_104 : decode cX8_line 104 = .ok (.invokevirtual 166, 3) := by decide +kernel
theorem dX8_line_107 : decode cX8_line 107 = .ok (.ireturn, 1) := by decide +kernel
theorem dX8_flight_0 : decode cX8_flight 0 = .ok (.iload_n 1, 1) := by decide +kernel
theorem dX8_flight_1 : decode cX8_flight 1 = .ok (.invokestatic 249, 3) := by decide +kernel
theorem dX8_flight_4 : decode cX8_flight 4 = .ok (.ifCond .eq 19, 3) := by decide +kernel
theorem dX8_flight_7 : decode cX8_flight 7 = .ok (.iload_n 2, 1) := by decide +kernel
theorem dX8_flight_8 : decode cX8_flight 8 = .ok (.ifCond .lt 15, 3) := by decide +kernel
theorem dX8_flight_11 : decode cX8_flight 11 = .ok (.iload_n 3, 1) := by decide +kernel
theorem dX8_flight_12 : decode cX8_flight 12 = .ok (.i2l, 1) := by decide +kernel
theorem dX8_flight_13 : decode cX8_flight 13 = .ok (.lconst 0, 1) := by decide +kernel
theorem dX8_flight_14 : decode cX8_flight 14 = .ok (.ldc2_w 284, 3) := by decide +kernel
theorem dX8_flight_17 : decode cX8_flight 17 = .ok (.invokestatic 59, 3) := by decide +kernel
theorem dX8_flight_20 : decode cX8_flight 20 = .ok (.ifCond .ne 5, 3) := by decide +kernel
theorem dX8_flight_23 : decode cX8_flight 23 = .ok (.iconst (-1), 1) := by decide +kernel
theorem dX8_flight_24 : decode cX8_flight 24 = .ok (.ireturn, 1) := by decide +kernel
theorem dX8_flight_25 : decode cX8_flight 25 = .ok (.aload_n 0, 1) := by decide +kernel
theorem dX8_flight_26 : decode cX8_flight 26 = .ok (.iload_n 1, 1) := by decide +kernel
theorem dX8_flight_27 : decode cX8_flight 27 = .ok (.iconst 4, 1) := by decide +kernel
theorem dX8_flight_28 : decode cX8_flight 28 = .ok (.invokevirtual 166, 3) := by decide +kernel
theorem dX8_flight_31 : decode cX8_flight 31 = .ok (.istore 4, 2) := by decide +kernel
theorem dX8_flight_33 : decode cX8_flight 33 = .ok (.iload_n 2, 1) := by decide +kernel
theorem dX8_flight_34 : decode cX8_flight 34 = .ok (.iload 4, 2) := by decide +kernel
theorem dX8_flight_36 : decode cX8_flight 36 = .ok (.if_icmp .ge 27, 3) := by decide +kernel
theorem dX8_flight_39 : decode cX8_flight 39 = .ok (.aload_n 0, 1) := by decide +kernel
theorem dX8_flight_40 : decode cX8_flight 40 = .ok (.iload_n 1, 1) := by decide +kernel
theorem dX8_flight_41 : decode cX8_flight 41 = .ok (.bipush 81, 2) := by decide +kernel
theorem dX8_flight_43 : decode cX8_flight 43 = .ok (.bipush 6, 2) := by decide +kernel
theorem dX8_flight_45 : decode cX8_flight 45 = .ok (.iload_n 2, 1) := by decide +kernel
theorem dX8_flight_46 : decode cX8_flight 46 = .ok (.imul, 1) := by decide +kernel
theorem dX8_flight_47 : decode cX8_flight 47 = .ok (.iadd, 1) := by decide +kernel
theorem dX8_flight_48 : decode cX8_flight 48 = .ok (.iload_n 3, 1) := by decide +kernel
theorem dX8_flight_49 : decode cX8_flight 49 = .ok (.iconst 4, 1) := by decide +kernel
theorem dX8_flight_50 : decode cX8_flight 50 = .ok (.if_icmp .ne 7, 3) := by decide +kernel
theorem dX8_flight_53 : decode cX8_flight 53 = .ok (.iconst 5, 1) := by decide +kernel
theorem dX8_flight_54 : decode cX8_flight 54 = .ok (.goto 4, 3) := by decide +kernel
theorem dX8_flight_57 : decode cX8_flight 57 = .ok (.iload_n 3, 1) := by decide +kernel
theorem dX8_flight_58 : decode cX8_flight 58 = .ok (.iadd, 1) := by decide +kernel
theorem dX8_flight_59 : decode cX8_flight 59 = .ok (.invokevirtual 166, 3) := by decide +kernel
theorem dX8_flight_62 : decode cX8_flight 62 = .ok (.ireturn, 1) := by decide +kernel
theorem dX8_flight_63 : decode cX8_flight 63 = .ok (.iload_n 2, 1) := by decide +kernel
theorem dX8_flight_64 : decode cX8_flight 64 = .ok (.iload 4, 2) := by decide +kernel
theorem dX8_flight_66 : decode cX8_flight 66 = .ok (.isub, 1) := by decide +kernel
theorem dX8_flight_67 : decode cX8_flight 67 = .ok (.aload_n 0, 1) := by decide +kernel
theorem dX8_flight_68 : decode cX8_flight 68 = .ok (.iload_n 1, 1) := by decide +kernel
theorem dX8_flight_69 : decode cX8_flight 69 = .ok (.iconst 5, 1) := by decide +kernel
theorem dX8_flight_70 : decode cX8_flight 70 = .ok (.invokevirtual 166, 3) := by decide +kernel
theorem dX8_flight_73 : decode cX8_flight 73 = .ok (.if_icmp .lt 6, 3) := by decide +kernel
theorem dX8_flight_76 : decode cX8_flight 76 = .ok (.bipush (-4), 2) := by decide +kernel
theorem dX8_flight_78 : decode cX8_flight 78 = .ok (.ireturn, 1) := by decide +kernel
theorem dX8_flight_79 : decode cX8_flight 79 = .ok (.iload_n 3, 1) := by decide +kernel
theorem dX8_flight_80 : decode cX8_flight 80 = .ok (.ifCond .eq 8, 3) := by decide +kernel
theorem dX8_flight_83 : decode cX8_flight 83 = .ok (.iload_n 3, 1) := by decide +kernel
theorem dX8_flight_84 : decode cX8_flight 84 = .ok (.iconst 4, 1) := by decide +kernel
theorem dX8_flight_85 : decode cX8_flight 85 = .ok (.if_icmp .ne 7, 3) := by decide +kernel
theorem dX8_flight_88 : decode cX8_flight 88 = .ok (.iconst 0, 1) := by decide +kernel
theorem dX8_flight_89 : decode cX8_flight 89 = .ok (.goto 21, 3) := by decide +kernel
theorem dX8_flight_92 : decode cX8_flight 92 = .ok (.aload_n 0, 1) := by decide +kernel
theorem dX8_flight_93 : decode cX8_flight 93 = .ok (.iload_n 1, 1) := by decide +kernel
theorem dX8_flight_94 : decode cX8_flight 94 = .ok (.bipush 105, 2) := by decide +kernel
theorem dX8_flight_96 : decode cX8_flight 96 = .ok (.iconst 4, 1) := by decide +kernel
theorem dX8_flight_97 : decode cX8_flight 97 = .ok (.iload_n 2, 1) := by decide +kernel
theorem dX8_flight_98 : decode cX8_flight 98 = .ok (.iload 4, 2) := by decide +kernel
theorem dX8_flight_100 : decode cX8_flight 100 = .ok (.isub, 1) := by decide +kernel
theorem dX8_flight_101 : decode cX8_flight 101 = .ok (.imul, 1) := by decide +kernel
theorem dX8_flight_102 : decode cX8_flight 102 = .ok (.iadd, 1) := by decide +kernel
theorem dX8_flight_103 : decode cX8_flight 103 = .ok (.iload_n 3, 1) := by decide +kernel
theorem dX8_flight_104 : decode cX8_flight 104 = .ok (.iadd, 1) := by decide +kernel
theorem dX8_flight_105 : decode cX8_flight 105 = .ok (.iconst 1, 1) := by decide +kernel
theorem dX8_flight_106 : decode cX8_flight 106 = .ok (.isub, 1) := by decide +kernel
theorem dX8_flight_107 : decode cX8_flight 107 = .ok (.invokevirtual 166, 3) := by decide +kernel
theorem dX8_flight_110 : decode cX8_flight 110 = .ok (.ireturn, 1) := by decide +kernel
theorem dX8_took_0 : decode cX8_took 0 = .ok (.iload_n 1, 1) := by decide +kernel
theorem dX8_took_1 : decode cX8_took 1 = .ok (.invokestatic 249, 3) := by decide +kernel
theorem dX8_took_4 : decode cX8_took 4 = .ok (.ifCond .eq 19, 3) := by decide +kernel
theorem dX8_took_7 : decode cX8_took 7 = .ok (.iload_n 2, 1) := by decide +kernel
theorem dX8_took_8 : decode cX8_took 8 = .ok (.ifCond .lt 15, 3) := by decide +kernel
theorem dX8_took_11 : decode cX8_took 11 = .ok (.iload_n 3, 1) := by decide +kernel
theorem dX8_took_12 : decode cX8_took 12 = .ok (.i2l, 1) := by decide +kernel
theorem dX8_took_13 : decode cX8_took 13 = .ok (.lconst 0, 1) := by decide +kernel
theorem dX8_took_14 : decode cX8_took 14 = .ok (.ldc2_w 278, 3) := by decide +kernel
theorem dX8_took_17 : decode cX8_took 17 = .ok (.invokestatic 59, 3) := by decide +kernel
theorem dX8_took_20 : decode cX8_took 20 = .ok (.ifCond .ne 5, 3) := by decide +kernel
theorem dX8_took_23 : decode cX8_took 23 = .ok (.iconst (-1), 1) := by decide +kernel
theorem dX8_took_24 : decode cX8_took 24 = .ok (.ireturn, 1) := by decide +kernel
theorem dX8_took_25 : decode cX8_took 25 = .ok (.iload_n 2, 1) := by decide +kernel
theorem dX8_took_26 : decode cX8_took 26 = .ok (.aload_n 0, 1) := by decide +kernel
theorem dX8_took_27 : decode cX8_took 27 = .ok (.iload_n 1, 1) := by decide +kernel
theorem dX8_took_28 : decode cX8_took 28 = .ok (.bipush 11, 2) := by decide +kernel
theorem dX8_took_30 : decode cX8_took 30 = .ok (.invokevirtual 166, 3) := by decide +kernel
theorem dX8_took_33 : decode cX8_took 33 = .ok (.if_icmp .ge 20, 3) := by decide +kernel
theorem dX8_took_36 : decode cX8_took 36 = .ok (.aload_n 0, 1) := by decide +kernel
theorem dX8_took_37 : decode cX8_took 37 = .ok (.iload_n 1, 1) := by decide +kernel
theorem dX8_took_38 : decode cX8_took 38 = .ok (.sipush 281, 3) := by decide +kernel
theorem dX8_took_41 : decode cX8_took 41 = .ok (.iconst 4, 1) := by decide +kernel
theorem dX8_took_42 : decode cX8_took 42 = .ok (.iload_n 2, 1) := by decide +kernel
theorem dX8_took_43 : decode cX8_took 43 = .ok (.imul, 1) := by decide +kernel
theorem dX8_took_44 : decode cX8_took 44 = .ok (.iadd, 1) := by decide +kernel
theorem dX8_took_45 : decode cX8_took 45 = .ok (.iload_n 3, 1) := by decide +kernel
theorem dX8_took_46 : decode cX8_took 46 = .ok (.iadd, 1) := by decide +kernel
theorem dX8_took_47 : decode cX8_took 47 = .ok (.invokevirtual 166, 3) := by decide +kernel
theorem dX8_took_50 : decode cX8_took 50 = .ok (.goto 5, 3) := by decide +kernel
theorem dX8_took_53 : decode cX8_took 53 = .ok (.bipush (-4), 2) := by decide +kernel
theorem dX8_took_55 : decode cX8_took 55 = .ok (.ireturn, 1) := by decide +kernel
theorem dX8_keep_0 : decode cX8_keep 0 = .ok (.iload_n 1, 1) := by decide +kernel
theorem dX8_keep_1 : decode cX8_keep 1 = .ok (.i2l, 1) := by decide +kernel
theorem dX8_keep_2 : decode cX8_keep 2 = .ok (.lconst 0, 1) := by decide +kernel
theorem dX8_keep_3 : decode cX8_keep 3 = .ok (.lconst 1, 1) := by decide +kernel
theorem dX8_keep_4 : decode cX8_keep 4 = .ok (.invokestatic 59, 3) := by decide +kernel
theorem dX8_keep_7 : decode cX8_keep 7 = .ok (.ifCond .ne 5, 3) := by decide +kernel
theorem dX8_keep_10 : decode cX8_keep 10 = .ok (.iconst (-1), 1) := by decide +kernel
theorem dX8_keep_11 : decode cX8_keep 11 = .ok (.ireturn, 1) := by decide +kernel
theorem dX8_keep_12 : decode cX8_keep 12 = .ok (.aload_n 0, 1) := by decide +kernel
theorem dX8_keep_13 : decode cX8_keep 13 = .ok (.getfield 19, 3) := by decide +kernel
theorem dX8_keep_16 : decode cX8_keep 16 = .ok (.iload_n 1, 1) := by decide +kernel
theorem dX8_keep_17 : decode cX8_keep 17 = .ok (.baload, 1) := by decide +kernel
theorem dX8_keep_18 : decode cX8_keep 18 = .ok (.invokestatic 260, 3) := by decide +kernel
theorem dX8_keep_21 : decode cX8_keep 21 = .ok (.istore_n 2, 1) := by decide +kernel
theorem dX8_keep_22 : decode cX8_keep 22 = .ok (.aload_n 0, 1) := by decide +kernel
theorem dX8_keep_23 : decode cX8_keep 23 = .ok (.getfield 19, 3) := by decide +kernel
theorem dX8_keep_26 : decode cX8_keep 26 = .ok (.iload_n 1, 1) := by decide +kernel
theorem dX8_keep_27 : decode cX8_keep 27 = .ok (.iconst 1, 1) := by decide +kernel
theorem dX8_keep_28 : decode cX8_keep 28 = .ok (.bastore, 1) := by decide +kernel
theorem dX8_keep_29 : decode cX8_keep 29 = .ok (.iconst 0, 1) := by decide +kernel
theorem dX8_keep_30 : decode cX8_keep 30 = .ok (.istore_n 3, 1) := by decide +kernel
theorem dX8_keep_31 : decode cX8_keep 31 = .ok (.iload_n 3, 1) := by decide +kernel
theorem dX8_keep_32 : decode cX8_keep 32 = .ok (.sipush 6074, 3) := by decide +kernel
theorem dX8_keep_35 : decode cX8_keep 35 = .ok (.if_icmp .ge 27, 3) := by decide +kernel
theorem dX8_keep_38 : decode cX8_keep 38 = .ok (.aload_n 0, 1) := by decide +kernel
theorem dX8_keep_39 : decode cX8_keep 39 = .ok (.getfield 16, 3) := by decide +kernel
theorem dX8_keep_42 : decode cX8_keep 42 = .ok (.sipush 6074, 3) := by decide +kernel
theorem dX8_keep_45 : decode cX8_keep 45 = .ok (.iload_n 1, 1) := by decide +kernel
theorem dX8_keep_46 : decode cX8_keep 46 = .ok (.imul, 1) := by decide +kernel
theorem dX8_keep_47 : decode cX8_keep 47 = .ok (.iload_n 3, 1) := by decide +kernel
theorem dX8_keep_48 : decode cX8_keep 48 = .ok (.iadd, 1) := by decide +kernel
theorem dX8_keep_49 : decode cX8_keep 49 = .ok (.aload_n 0, 1) := by decide +kernel
theorem dX8_keep_50 : decode cX8_keep 50 = .ok (.getfield 7, 3) := by decide +kernel
theorem dX8_keep_53 : decode cX8_keep 53 = .ok (.iload_n 3, 1) := by decide +kernel
theorem dX8_keep_54 : decode cX8_keep 54 = .ok (.iaload, 1) := by decide +kernel
theorem dX8_keep_55 : decode cX8_keep 55 = .ok (.iastore, 1) := by decide +kernel
theorem dX8_keep_56 : decode cX8_keep 56 = .ok (.iinc 3 1, 3) := by decide +kernel
theorem dX8_keep_59 : decode cX8_keep 59 = .ok (.goto (-28), 3) := by decide +kernel
theorem dX8_keep_62 : decode cX8_keep 62 = .ok (.iload_n 2, 1) := by decide +kernel
theorem dX8_keep_63 : decode cX8_keep 63 = .ok (.ireturn, 1) := by decide +kernel
theorem dX8_back_0 : decode cX8_back 0 = .ok (.iload_n 1, 1) := by decide +kernel
theorem dX8_back_1 : decode cX8_back 1 = .ok (.i2l, 1) := by decide +kernel
theorem dX8_back_2 : decode cX8_back 2 = .ok (.lconst 0, 1) := by decide +kernel
theorem dX8_back_3 : decode cX8_back 3 = .ok (.lconst 1, 1) := by decide +kernel
theorem dX8_back_4 : decode cX8_back 4 = .ok (.invokestatic 59, 3) := by decide +kernel
theorem dX8_back_7 : decode cX8_back 7 = .ok (.ifCond .ne 5, 3) := by decide +kernel
theorem dX8_back_10 : decode cX8_back 10 = .ok (.iconst (-1), 1) := by decide +kernel
theorem dX8_back_11 : decode cX8_back 11 = .ok (.ireturn, 1) := by decide +kernel
theorem dX8_back_12 : decode cX8_back 12 = .ok (.aload_n 0, 1) := by decide +kernel
theorem dX8_back_13 : decode cX8_back 13 = .ok (.getfield 19, 3) := by decide +kernel
theorem dX8_back_16 : decode cX8_back 16 = .ok (.iload_n 1, 1) := by decide +kernel
theorem dX8_back_17 : decode cX8_back 17 = .ok (.baload, 1) := by decide +kernel
theorem dX8_back_18 : decode cX8_back 18 = .ok (.ifCond .ne 6, 3) := by decide +kernel
theorem dX8_back_21 : decode cX8_back 21 = .ok (.bipush (-2), 2) := by decide +kernel
theorem dX8_back_23 : decode cX8_back 23 = .ok (.ireturn, 1) := by decide +kernel
theorem dX8_back_24 : decode cX8_back 24 = .ok (.iconst 0, 1) := by decide +kernel
theorem dX8_back_25 : decode cX8_back 25 = .ok (.istore_n 2, 1) := by decide +kernel
theorem dX8_back_26 : decode cX8_back 26 = .ok (.iload_n 2, 1) := by decide +kernel
theorem dX8_back_27 : decode cX8_back 27 = .ok (.sipush 6074, 3) := by decide +kernel
theorem dX8_back_30 : decode cX8_back 30 = .ok (.if_icmp .ge 27, 3) := by decide +kernel
theorem dX8_back_33 : decode cX8_back 33 = .ok (.aload_n 0, 1) := by decide +kernel
theorem dX8_back_34 : decode cX8_back 34 = .ok (.getfield 7, 3) := by decide +kernel
theorem dX8_back_37 : decode cX8_back 37 = .ok (.iload_n 2, 1) := by decide +kernel
theorem dX8_back_38 : decode cX8_back 38 = .ok (.aload_n 0, 1) := by decide +kernel
theorem dX8_back_39 : decode cX8_back 39 = .ok (.getfield 16, 3) := by decide +kernel
theorem dX8_back_42 : decode cX8_back 42 = .ok (.sipush 6074, 3) := by decide +kernel
theorem dX8_back_45 : decode cX8_back 45 = .ok (.iload_n 1, 1) := by decide +kernel
theorem dX8_back_46 : decode cX8_back 46 = .ok (.imul, 1) := by decide +kernel
theorem dX8_back_47 : decode cX8_back 47 = .ok (.iload_n 2, 1) := by decide +kernel
theorem dX8_back_48 : decode cX8_back 48 = .ok (.iadd, 1) := by decide +kernel
theorem dX8_back_49 : decode cX8_back 49 = .ok (.iaload, 1) := by decide +kernel
theorem dX8_back_50 : decode cX8_back 50 = .ok (.iastore, 1) := by decide +kernel
theorem dX8_back_51 : decode cX8_back 51 = .ok (.iinc 2 1, 3) := by decide +kernel
theorem dX8_back_54 : decode cX8_back 54 = .ok (.goto (-28), 3) := by decide +kernel
theorem dX8_back_57 : decode cX8_back 57 = .ok (.aload_n 0, 1) := by decide +kernel
theorem dX8_back_58 : decode cX8_back 58 = .ok (.getfield 7, 3) := by decide +kernel
theorem dX8_back_61 : decode cX8_back 61 = .ok (.iconst 0, 1) := by decide +kernel
theorem dX8_back_62 : decode cX8_back 62 = .ok (.iaload, 1) := by decide +kernel
theorem dX8_back_63 : decode cX8_back 63 = .ok (.ireturn, 1) := by decide +kernel
