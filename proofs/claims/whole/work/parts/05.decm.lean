theorem dX12_init_0 : decode cX12_init 0 = .ok (.aload_n 0, 1) := by decide +kernel
theorem dX12_init_1 : decode cX12_init 1 = .ok (.invokespecial 1, 3) := by decide +kernel
theorem dX12_init_4 : decode cX12_init 4 = .ok (.aload_n 0, 1) := by decide +kernel
theorem dX12_init_5 : decode cX12_init 5 = .ok (.sipush 500, 3) := by decide +kernel
theorem dX12_init_8 : decode cX12_init 8 = .ok (.newarray .int, 2) := by decide +kernel
theorem dX12_init_10 : decode cX12_init 10 = .ok (.putfield 7, 3) := by decide +kernel
theorem dX12_init_13 : decode cX12_init 13 = .ok (.aload_n 0, 1) := by decide +kernel
theorem dX12_init_14 : decode cX12_init 14 = .ok (.iconst (-1), 1) := by decide +kernel
theorem dX12_init_15 : decode cX12_init 15 = .ok (.putfield 13, 3) := by decide +kernel
theorem dX12_init_18 : decode cX12_init 18 = .ok (.aload_n 0, 1) := by decide +kernel
theorem dX12_init_19 : decode cX12_init 19 = .ok (.iconst (-1), 1) := by decide +kernel
theorem dX12_init_20 : decode cX12_init 20 = .ok (.putfield 17, 3) := by decide +kernel
theorem dX12_init_23 : decode cX12_init 23 = .ok (.aload_n 0, 1) := by decide +kernel
theorem dX12_init_24 : decode cX12_init 24 = .ok (.sipush 408, 3) := by decide +kernel
theorem dX12_init_27 : decode cX12_init 27 = .ok (.newarray .int, 2) := by decide +kernel
theorem dX12_init_29 : decode cX12_init 29 = .ok (.putfield 20, 3) := by decide +kernel
theorem dX12_init_32 : decode cX12_init 32 = .ok (.aload_n 0, 1) := by decide +kernel
theorem dX12_init_33 : decode cX12_init 33 = .ok (.sipush 408, 3) := by decide +kernel
theorem dX12_init_36 : decode cX12_init 36 = .ok (.newarray .int, 2) := by decide +kernel
theorem dX12_init_38 : decode cX12_init 38 = .ok (.putfield 23, 3) := by decide +kernel
theorem dX12_init_41 : decode cX12_init 41 = .ok (.aload_n 0, 1) := by decide +kernel
theorem dX12_init_42 : decode cX12_init 42 = .ok (.sipush 408, 3) := by decide +kernel
theorem dX12_init_45 : decode cX12_init 45 = .ok (.newarray .int, 2) := by decide +kernel
theorem dX12_init_47 : decode cX12_init 47 = .ok (.putfield 26, 3) := by decide +kernel
theorem dX12_init_50 : decode cX12_init 50 = .ok (.aload_n 0, 1) := by decide +kernel
theorem dX12_init_51 : decode cX12_init 51 = .ok (.sipush 408, 3) := by decide +kernel
theorem dX12_init_54 : decode cX12_init 54 = .ok (.newarray .int, 2) := by decide +kernel
theorem dX12_init_56 : decode cX12_init 56 = .ok (.putfield 29, 3) := by decide +kernel
theorem dX12_init_59 : decode cX12_init 59 = .ok (.aload_n 0, 1) := by decide +kernel
theorem dX12_init_60 : decode cX12_init 60 = .ok (.sipush 2448, 3) := by decide +kernel
theorem dX12_init_63 : decode cX12_init 63 = .ok (.newarray .int, 2) := by decide +kernel
theorem dX12_init_65 : decode cX12_init 65 = .ok (.putfield 32, 3) := by decide +kernel
theorem dX12_init_68 : decode cX12_init 68 = .ok (.aload_n 0, 1) := by decide +kernel
theorem dX12_init_69 : decode cX12_init 69 = .ok (.bipush 6, 2) := by decide +kernel
theorem dX12_init_71 : decode cX12_init 71 = .ok (.newarray .long, 2) := by decide +kernel
theorem dX12_init_73 : decode cX12_init 73 = .ok (.putfield 35, 3) := by decide +kernel
theorem dX12_init_76 : decode cX12_init 76 = .ok (.aload_n 0, 1) := by decide +kernel
theorem dX12_init_77 : decode cX12_init 77 = .ok (.bipush 6, 2) := by decide +kernel
theorem dX12_init_79 : decode cX12_init 79 = .ok (.newarray .long, 2) := by decide +kernel
theorem dX12_init_81 : decode cX12_init 81 = .ok (.putfield 39, 3) := by decide +kernel
theorem dX12_init_84 : decode cX12_init 84 = .ok (.aload_n 0, 1) := by decide +kernel
theorem dX12_init_85 : decode cX12_init 85 = .ok (.bipush 6, 2) := by decide +kernel
theorem dX12_init_87 : decode cX12_init 87 = .ok (.newarray .long, 2) := by decide +kernel
theorem dX12_init_89 : decode cX12_init 89 = .ok (.putfield 42, 3) := by decide +kernel
theorem dX12_init_92 : decode cX12_init 92 = .ok (.aload_n 0, 1) := by decide +kernel
theorem dX12_init_93 : decode cX12_init 93 = .ok (.bipush 21, 2) := by decide +kernel
theorem dX12_init_95 : decode cX12_init 95 = .ok (.newarray .int, 2) := by decide +kernel
theorem dX12_init_97 : decode cX12_init 97 = .ok (.putfield 45, 3) := by decide +kernel
theorem dX12_init_100 : decode cX12_init 100 = .ok (.aload_n 0, 1) := by decide +kernel
theorem dX12_init_101 : decode cX12_init 101 = .ok (.bipush 6, 2) := by decide +kernel
theorem dX12_init_103 : decode cX12_init 103 = .ok (.newarray .int, 2) := by decide +kernel
theorem dX12_init_105 : decode cX12_init 105 = .ok (.putfield 48, 3) := by decide +kernel
theorem dX12_init_108 : decode cX12_init 108 = .ok (.aload_n 0, 1) := by decide +kernel
theorem dX12_init_109 : decode cX12_init 109 = .ok (.bipush 21, 2) := by decide +kernel
theorem dX12_init_111 : decode cX12_init 111 = .ok (.newarray .int, 2) := by decide +kernel
theorem dX12_init_113 : decode cX12_init 113 = .ok (.putfield 51, 3) := by decide +kernel
theorem dX12_init_116 : decode cX12_init 116 = .ok (.aload_n 0, 1) := by decide +kernel
theorem dX12_init_117 : decode cX12_init 117 = .ok (.bipush 60, 2) := by decide +kernel
theorem dX12_init_119 : decode cX12_init 119 = .ok (.newarray .int, 2) := by decide +kernel
theorem dX12_init_121 : decode cX12_init 121 = .ok (.putfield 54, 3) := by decide +kernel
theorem dX12_init_124 : decode cX12_init 124 = .ok (.aload_n 0, 1) := by decide +kernel
theorem dX12_init_125 : decode cX12_init 125 = .ok (.bipush 60, 2) := by decide +kernel
theorem dX12_init_127 : decode cX12_init 127 = .ok (.newarray .int, 2) := by decide +kernel
theorem dX12_init_129 : decode cX12_init 129 = .ok (.putfield 57, 3) := by decide +kernel
theorem dX12_init_132 : decode cX12_init 132 = .ok (.aload_n 0, 1) := by decide +kernel
theorem dX12_init_133 : decode cX12_init 133 = .ok (.iconst 2, 1) := by decide +kernel
theorem dX12_init_134 : decode cX12_init 134 = .ok (.newarray .int, 2) := by decide +kernel
theorem dX12_init_136 : decode cX12_init 136 = .ok (.putfield 60, 3) := by decide +kernel
theorem dX12_init_139 : decode cX12_init 139 = .ok (.aload_n 0, 1) := by decide +kernel
theorem dX12_init_140 : decode cX12_init 140 = .ok (.iconst 2, 1) := by decide +kernel
theorem dX12_init_141 : decode cX12_init 141 = .ok (.newarray .int, 2) := by decide +kernel
theorem dX12_init_143 : decode cX12_init 143 = .ok (.putfield 63, 3) := by decide +kernel
theorem dX12_init_146 : decode cX12_init 146 = .ok (.aload_n 0, 1) := by decide +kernel
theorem dX12_init_147 : decode cX12_init 147 = .ok (.sipush 400, 3) := by decide +kernel
theorem dX12_init_150 : decode cX12_init 150 = .ok (.newarray .int, 2) := by decide +kernel
theorem dX12_init_152 : decode cX12_init 152 = .ok (.putfield 66, 3) := by decide +kernel
theorem dX12_init_155 : decode cX12_init 155 = .ok (.aload_n 0, 1) := by decide +kernel
theorem dX12_init_156 : decode cX12_init 156 = .ok (.invokevirtual 69, 3) := by decide +kernel
theorem dX12_init_159 : decode cX12_init 159 = .ok (.return_, 1) := by decide +kernel
theorem dX12_thrown_0 : decode cX12_thrown 0 = .ok (.aload_n 0, 1) := by decide +kernel
theorem dX12_thrown_1 : decode cX12_thrown 1 = .ok (.getfield 72, 3) := by decide +kernel
theorem dX12_thrown_4 : decode cX12_thrown 4 = .ok (.ireturn, 1) := by decide +kernel
theorem dX12_isIn_0 : decode cX12_isIn 0 = .ok (.lload_n 0, 1) := by decide +kernel
theorem dX12_isIn_1 : decode cX12_isIn 1 = .ok (.lload_n 2, 1) := by decide +kernel
theorem dX12_isIn_2 : decode cX12_isIn 2 = .ok (.lcmp, 1) := by decide +kernel
theorem dX12_isIn_3 : decode cX12_isIn 3 = .ok (.ifCond .lt 14, 3) := by decide +kernel
theorem dX12_isIn_6 : decode cX12_isIn 6 = .ok (.lload_n 0, 1) := by decide +kernel
theorem dX12_isIn_7 : decode cX12_isIn 7 = .ok (.lload 4, 2) := by decide +kernel
theorem dX12_isIn_9 : decode cX12_isIn 9 = .ok (.lcmp, 1) := by decide +kernel
theorem dX12_isIn_10 : decode cX12_isIn 10 = .ok (.ifCond .gt 7, 3) := by decide +kernel
theorem dX12_isIn_13 : decode cX12_isIn 13 = .ok (.iconst 1, 1) := by decide +kernel
theorem dX12_isIn_14 : decode cX12_isIn 14 = .ok (.goto 4, 3) := by decide +kernel
theorem dX12_isIn_17 : decode cX12_isIn 17 = .ok (.iconst 0, 1) := by decide +kernel
theorem dX12_isIn_18 : decode cX12_isIn 18 = .ok (.ireturn, 1) := by decide +kernel
theorem dX12_truth_0 : decode cX12_truth 0 = .ok (.iload_n 0, 1) := by decide +kernel
theorem dX12_truth_1 : decode cX12_truth 1 = .ok (.ifCond .eq 7, 3) := by decide +kernel
theorem dX12_truth_4 : decode cX12_truth 4 = .ok (.iconst 1, 1) := by decide +kernel
theorem dX12_truth_5 : decode cX12_truth 5 = .ok (.goto 4, 3) := by decide +kernel
theorem dX12_truth_8 : decode cX12_truth 8 = .ok (.iconst 0, 1) := by decide +kernel
theorem dX12_truth_9 : decode cX12_truth 9 = .ok (.ireturn, 1) := by decide +kernel
theorem dX12_has_0 : decode cX12_has 0 = .ok (.iload_n 0, 1) := by decide +kernel
theorem dX12_has_1 : decode cX12_has 1 = .ok (.iload_n 1, 1) := by decide +kernel
theorem dX12_has_2 : decode cX12_has 2 = .ok (.ishr, 1) := by decide +kernel
theorem dX12_has_3 : decode cX12_has 3 = .ok (.iconst 1, 1) := by decide +kernel
theorem dX12_has_4 : decode cX12_has 4 = .ok (.iand, 1) := by decide +kernel
theorem dX12_has_5 : decode cX12_has 5 = .ok (.iconst 1, 1) := by decide +kernel
theorem dX12_has_6 : decode cX12_has 6 = .ok (.if_icmp .ne 7, 3) := by decide +kernel
theorem dX12_has_9 : decode cX12_has 9 = .ok (.iconst 1, 1) := by decide +kernel
theorem dX12_has_10 : decode cX12_has 10 = .ok (.goto 4, 3) := by decide +kernel
theorem dX12_has_13 : decode cX12_has 13 = .ok (.iconst 0, 1) := by decide +kernel
theorem dX12_has_14 : decode cX12_has 14 = .ok (.ireturn, 1) := by decide +kernel
theorem dX12_goes_0 : decode cX12_goes 0 = .ok (.aload_n 0, 1) := by decide +kernel
theorem dX12_goes_1 : decode cX12_goes 1 = .ok (.iload_n 1, 1) := by decide +kernel
theorem dX12_goes_2 : decode cX12_goes 2 = .ok (.ifCond .ne 7, 3) := by decide +kernel
theorem dX12_goes_5 : decode cX12_goes 5 = .ok (.iconst 1, 1) := by decide +kernel
theorem dX12_goes_6 : decode cX12_goes 6 = .ok (.goto 4, 3) := by decide +kernel
theorem dX12_goes_9 : decode cX12_goes 9 = .ok (.iconst 0, 1) := by decide +kernel
theorem dX12_goes_10 : decode cX12_goes 10 = .ok (.invokestatic 75, 3) := by decide +kernel
theorem dX12_goes_13 : decode cX12_goes 13 = .ok (.putfield 72, 3) := by decide +kernel
theorem dX12_goes_16 : decode cX12_goes 16 = .ok (.iload_n 1, 1) := by decide +kernel
theorem dX12_goes_17 : decode cX12_goes 17 = .ok (.ireturn, 1) := by decide +kernel
theorem dX12_goesBoth_0 : decode cX12_goesBoth 0 = .ok (.aload_n 0, 1) := by decide +kernel
theorem dX12_goesBoth_1 : decode cX12_goesBoth 1 = .ok (.iload_n 1, 1) := by decide +kernel
theorem dX12_goesBoth_2 : decode cX12_goesBoth 2 = .ok (.ifCond .ne 7, 3) := by decide +kernel
theorem dX12_goesBoth_5 : decode cX12_goesBoth 5 = .ok (.iconst 1, 1) := by decide +kernel
theorem dX12_goesBoth_6 : decode cX12_goesBoth 6 = .ok (.goto 12, 3) := by decide +kernel
theorem dX12_goesBoth_9 : decode cX12_goesBoth 9 = .ok (.iload_n 2, 1) := by decide +kernel
theorem dX12_goesBoth_10 : decode cX12_goesBoth 10 = .ok (.ifCond .ne 7, 3) := by decide +kernel
theorem dX12_goesBoth_13 : decode cX12_goesBoth 13 = .ok (.iconst 2, 1) := by decide +kernel
theorem dX12_goesBoth_14 : decode cX12_goesBoth 14 = .ok (.goto 4, 3) := by decide +kernel
theorem dX12_goesBoth_17 : decode cX12_goesBoth 17 = .ok (.iconst 0, 1) := by decide +kernel
theorem dX12_goesBoth_18 : decode cX12_goesBoth 18 = .ok (.putfield 72, 3) := by decide +kernel
theorem dX12_goesBoth_21 : decode cX12_goesBoth 21 = .ok (.aload_n 0, 1) := by decide +kernel
theorem dX12_goesBoth_22 : decode cX12_goesBoth 22 = .ok (.getfield 72, 3) := by decide +kernel
theorem dX12_goesBoth_25 : decode cX12_goesBoth 25 = .ok (.ifCond .ne 7, 3) := by decide +kernel
theorem dX12_goesBoth_28 : decode cX12_goesBoth 28 = .ok (.iconst 1, 1) := by decide +kernel
theorem dX12_goesBoth_29 : decode cX12_goesBoth 29 = .ok (.goto 4, 3) := by decide +kernel
theorem dX12_goesBoth_32 : decode cX12_goesBoth 32 = .ok (.iconst 0, 1) := by decide +kernel
theorem dX12_goesBoth_33 : decode cX12_goesBoth 33 = .ok (.ireturn, 1) := by decide +kernel
theorem dX12_feed_0 : decode cX12_feed 0 = .ok (.aload_n 0, 1) := by decide +kernel
theorem dX12_feed_1 : decode cX12_feed 1 = .ok (.aload_n 0, 1) := by decide +kernel
theorem dX12_feed_2 : decode cX12_feed 2 = .ok (.getfield 79, 3) := by decide +kernel
theorem dX12_feed_5 : decode cX12_feed 5 = .ok (.bipush 20, 2) := by decide +kernel
theorem dX12_feed_7 : decode cX12_feed 7 = .ok (.iadd, 1) := by decide +kernel
theorem dX12_feed_8 : decode cX12_feed 8 = .ok (.sipush 500, 3) := by decide +kernel
theorem dX12_feed_11 : decode cX12_feed 11 = .ok (.if_icmp .gt 7, 3) := by decide +kernel
theorem dX12_feed_14 : decode cX12_feed 14 = .ok (.iconst 1, 1) := by decide +kernel
theorem dX12_feed_15 : decode cX12_feed 15 = .ok (.goto 4, 3) := by decide +kernel
theorem dX12_feed_18 : decode cX12_feed 18 = .ok (.iconst 0, 1) := by decide +kernel
theorem dX12_feed_19 : decode cX12_feed 19 = .ok (.invokevirtual 82, 3) := by decide +kernel
theorem dX12_feed_22 : decode cX12_feed 22 = .ok (.ifCond .ne 5, 3) := by decide +kernel
theorem dX12_feed_25 : decode cX12_feed 25 = .ok (.iconst 0, 1) := by decide +kernel
theorem dX12_feed_26 : decode cX12_feed 26 = .ok (.ireturn, 1) := by decide +kernel
theorem dX12_feed_27 : decode cX12_feed 27 = .ok (.aload_n 0, 1) := by decide +kernel
theorem dX12_feed_28 : decode cX12_feed 28 = .ok (.iload_n 1, 1) := by decide +kernel
theorem dX12_feed_29 : decode cX12_feed 29 = .ok (.invokevirtual 86, 3) := by decide +kernel
theorem dX12_feed_32 : decode cX12_feed 32 = .ok (.aload_n 0, 1) := by decide +kernel
theorem dX12_feed_33 : decode cX12_feed 33 = .ok (.iload_n 2, 1) := by decide +kernel
theorem dX12_feed_34 : decode cX12_feed 34 = .ok (.invokevirtual 86, 3) := by decide +kernel
theorem dX12_feed_37 : decode cX12_feed 37 = .ok (.aload_n 0, 1) := by decide +kernel
theorem dX12_feed_38 : decode cX12_feed 38 = .ok (.iload_n 3, 1) := by decide +kernel
theorem dX12_feed_39 : decode cX12_feed 39 = .ok (.invokevirtual 86, 3) := by decide +kernel
theorem dX12_feed_42 : decode cX12_feed 42 = .ok (.aload_n 0, 1) := by decide +kernel
theorem dX12_feed_43 : decode cX12_feed 43 = .ok (.iload 4, 2) := by decide +kernel
theorem dX12_feed_45 : decode cX12_feed 45 = .ok (.invokevirtual 86, 3) := by decide +kernel
theorem dX12_feed_48 : decode cX12_feed 48 = .ok (.aload_n 0, 1) := by decide +kernel
theorem dX12_feed_49 : decode cX12_feed 49 = .ok (.iload 5, 2) := by decide +kernel
theorem dX12_feed_51 : decode cX12_feed 51 = .ok (.invokevirtual 86, 3) := by decide +kernel
theorem dX12_feed_54 : decode cX12_feed 54 = .ok (.aload_n 0, 1) := by decide +kernel
theorem dX12_feed_55 : decode cX12_feed 55 = .ok (.getfield 79, 3) := by decide +kernel
theorem dX12_feed_58 : decode cX12_feed 58 = .ok (.ireturn, 1) := by decide +kernel
theorem dX12_four_0 : decode cX12_four 0 = .ok (.bipush 24, 2) := by decide +kernel
theorem dX12_four_2 : decode cX12_four 2 = .ok (.istore_n 2, 1) := by decide +kernel
theorem dX12_four_3 : decode cX12_four 3 = .ok (.iload_n 2, 1) := by decide +kernel
theorem dX12_four_4 : decode cX12_four 4 = .ok (.ifCond .lt 35, 3) := by decide +kernel
theorem dX12_four_7 : decode cX12_four 7 = .ok (.aload_n 0, 1) := by decide +kernel
theorem dX12_four_8 : decode cX12_four 8 = .ok (.getfield 7, 3) := by decide +kernel
theorem dX12_four_11 : decode cX12_four 11 = .ok (.aload_n 0, 1) := by decide +kernel
theorem dX12_four_12 : decode cX12_four 12 = .ok (.getfield 79, 3) := by decide +kernel
theorem dX12_four_15 : decode cX12_four 15 = .ok (.iload_n 1, 1) := by decide +kernel
theorem dX12_four_16 : decode cX12_four 16 = .ok (.iload_n 2, 1) := by decide +kernel
theorem dX12_four_17 : decode cX12_four 17 = .ok (.ishr, 1) := by decide +kernel
theorem dX12_four_18 : decode cX12_four 18 = .ok (.sipush 255, 3) := by decide +kernel
theorem dX12_four_21 : decode cX12_four 21 = .ok (.iand, 1) := by decide +kernel
theorem dX12_four_22 : decode cX12_four 22 = .ok (.iastore, 1) := by decide +kernel
theorem dX12_four_23 : decode cX12_four 23 = .ok (.aload_n 0, 1) := by decide +kernel
theorem dX12_four_24 : decode cX12_four 24 = .ok (.dup, 1) := by decide +kernel
theorem dX12_four_25 : decode cX12_four 25 = .ok (.getfield 79, 3) := by decide +kernel
theorem dX12_four_28 : decode cX12_four 28 = .ok (.iconst 1, 1) := by decide +kernel
theorem dX12_four_29 : decode cX12_four 29 = .ok (.iadd, 1) := by decide +kernel
theorem dX12_four_30 : decode cX12_four 30 = .ok (.putfield 79, 3) := by decide +kernel
theorem dX12_four_33 : decode cX12_four 33 = .ok (.iinc 2 (-8), 3) := by decide +kernel
theorem dX12_four_36 : decode cX12_four 36 = .ok (.goto (-33), 3) := by decide +kernel
theorem dX12_four_39 : decode cX12_four 39 = .ok (.return_, 1) := by decide +kernel
theorem dX12_truncate_0 : decode cX12_truncate 0 = .ok (.aload_n 0, 1) := by decide +kernel
theorem dX12_truncate_1 : decode cX12_truncate 1 = .ok (.iload_n 1, 1) := by decide +kernel
theorem dX12_truncate_2 : decode cX12_truncate 2 = .ok (.i2l, 1) := by decide +kernel
theorem dX12_truncate_3 : decode cX12_truncate 3 = .ok (.lconst 0, 1) := by decide +kernel
theorem dX12_truncate_4 : decode cX12_truncate 4 = .ok (.aload_n 0, 1) := by decide +kernel
theorem dX12_truncate_5 : decode cX12_truncate 5 = .ok (.getfield 79, 3) := by decide +kernel
theorem dX12_truncate_8 : decode cX12_truncate 8 = .ok (.i2l, 1) := by decide +kernel
theorem dX12_truncate_9 : decode cX12_truncate 9 = .ok (.invokestatic 90, 3) := by decide +kernel
theorem dX12_truncate_12 : decode cX12_truncate 12 = .ok (.invokevirtual 82, 3) := by decide +kernel
theorem dX12_truncate_15 : decode cX12_truncate 15 = .ok (.ifCond .ne 5, 3) := by decide +kernel
theorem dX12_truncate_18 : decode cX12_truncate 18 = .ok (.iconst 0, 1) := by decide +kernel
theorem dX12_truncate_19 : decode cX12_truncate 19 = .ok (.ireturn, 1) := by decide +kernel
theorem dX12_truncate_20 : decode cX12_truncate 20 = .ok (.aload_n 0, 1) := by decide +kernel
theorem dX12_truncate_21 : decode cX12_truncate 21 = .ok (.iload_n 1, 1) := by decide +kernel
theorem dX12_truncate_22 : decode cX12_truncate 22 = .ok (.putfield 79, 3) := by decide +kernel
theorem dX12_truncate_25 : decode cX12_truncate 25 = .ok (.iload_n 1, 1) := by decide +kernel
theorem dX12_truncate_26 : decode cX12_truncate 26 = .ok (.ireturn, 1) := by decide +kernel
theorem dX12_here_0 : decode cX12_here 0 = .ok (.aload_n 0, 1) := by decide +kernel
theorem dX12_here_1 : decode cX12_here 1 = .ok (.getfield 94, 3) := by decide +kernel
theorem dX12_here_4 : decode cX12_here 4 = .ok (.iload_n 1, 1) := by decide +kernel
theorem dX12_here_5 : decode cX12_here 5 = .ok (.iadd, 1) := by decide +kernel
theorem dX12_here_6 : decode cX12_here 6 = .ok (.aload_n 0, 1) := by decide +kernel
theorem dX12_here_7 : decode cX12_here 7 = .ok (.getfield 97, 3) := by decide +kernel
theorem dX12_here_10 : decode cX12_here 10 = .ok (.if_icmp .ge 17, 3) := by decide +kernel
theorem dX12_here_13 : decode cX12_here 13 = .ok (.aload_n 0, 1) := by decide +kernel
theorem dX12_here_14 : decode cX12_here 14 = .ok (.getfield 7, 3) := by decide +kernel
theorem dX12_here_17 : decode cX12_here 17 = .ok (.aload_n 0, 1) := by decide +kernel
theorem dX12_here_18 : decode cX12_here 18 = .ok (.getfield 94, 3) := by decide +kernel
theorem dX12_here_21 : decode cX12_here 21 = .ok (.iload_n 1, 1) := by decide +kernel
theorem dX12_here_22 : decode cX12_here 22 = .ok (.iadd, 1) := by decide +kernel
theorem dX12_here_23 : decode cX12_here 23 = .ok (.iaload, 1) := by decide +kernel
theorem dX12_here_24 : decode cX12_here 24 = .ok (.goto 4, 3) := by decide +kernel
theorem dX12_here_27 : decode cX12_here 27 = .ok (.iconst (-1), 1) := by decide +kernel
theorem dX12_here_28 : decode cX12_here 28 = .ok (.ireturn, 1) := by decide +kernel
theorem dX12_isLetter_0 : decode cX12_isLetter 0 = .ok (.iload_n 0, 1) := by decide +kernel
theorem dX12_isLetter_1 : decode cX12_isLetter 1 = .ok (.bipush 97, 2) := by decide +kernel
theorem dX12_isLetter_3 : decode cX12_isLetter 3 = .ok (.if_icmp .lt 13, 3) := by decide +kernel
theorem dX12_isLetter_6 : decode cX12_isLetter 6 = .ok (.iload_n 0, 1) := by decide +kernel
theorem dX12_isLetter_7 : decode cX12_isLetter 7 = .ok (.bipush 122, 2) := by decide +kernel
theorem dX12_isLetter_9 : decode cX12_isLetter 9 = .ok (.if_icmp .gt 7, 3) := by decide +kernel
theorem dX12_isLetter_12 : decode cX12_isLetter 12 = .ok (.iconst 1, 1) := by decide +kernel
theorem dX12_isLetter_13 : decode cX12_isLetter 13 = .ok (.goto 4, 3) := by decide +kernel
theorem dX12_isLetter_16 : decode cX12_isLetter 16 = .ok (.iconst 0, 1) := by decide +kernel
theorem dX12_isLetter_17 : decode cX12_isLetter 17 = .ok (.ireturn, 1) := by decide +kernel
theorem dX12_isDigit_0 : decode cX12_isDigit 0 = .ok (.iload_n 0, 1) := by decide +kernel
theorem dX12_isDigit_1 : decode cX12_isDigit 1 = .ok (.bipush 48, 2) := by decide +kernel
theorem dX12_isDigit_3 : decode cX12_isDigit 3 = .ok (.if_icmp .lt 13, 3) := by decide +kernel
theorem dX12_isDigit_6 : decode cX12_isDigit 6 = .ok (.iload_n 0, 1) := by decide +kernel
theorem dX12_isDigit_7 : decode cX12_isDigit 7 = .ok (.bipush 57, 2) := by decide +kernel
theorem dX12_isDigit_9 : decode cX12_isDigit 9 = .ok (.if_icmp .gt 7, 3) := by decide +kernel
theorem dX12_isDigit_12 : decode cX12_isDigit 12 = .ok (.iconst 1, 1) := by decide +kernel
theorem dX12_isDigit_13 : decode cX12_isDigit 13 = .ok (.goto 4, 3) := by decide +kernel
theorem dX12_isDigit_16 : decode cX12_isDigit 16 = .ok (.iconst 0, 1) := by decide +kernel
theorem dX12_isDigit_17 : decode cX12_isDigit 17 = .ok (.ireturn, 1) := by decide +kernel
theorem dX12_goOn_0 : decode cX12_goOn 0 = .ok (.aload_n 0, 1) := by decide +kernel
theorem dX12_goOn_1 : decode cX12_goOn 1 = .ok (.iconst 0, 1) := by decide +kernel
theorem dX12_goOn_2 : decode cX12_goOn 2 = .ok (.invokevirtual 100, 3) := by decide +kernel
theorem dX12_goOn_5 : decode cX12_goOn 5 = .ok (.bipush 32, 2) := by decide +kernel
theorem dX12_goOn_7 : decode cX12_goOn 7 = .ok (.if_icmp .eq 13, 3) := by decide +kernel
theorem dX12_goOn_10 : decode cX12_goOn 10 = .ok (.aload_n 0, 1) := by decide +kernel
theorem dX12_goOn_11 : decode cX12_goOn 11 = .ok (.iconst 0, 1) := by decide +kernel
theorem dX12_goOn_12 : decode cX12_goOn 12 = .ok (.invokevirtual 100, 3) := by decide +kernel
theorem dX12_goOn_15 : decode cX12_goOn 15 = .ok (.bipush 10, 2) := by decide +kernel
theorem dX12_goOn_17 : decode cX12_goOn 17 = .ok (.if_icmp .ne 16, 3) := by decide +kernel
theorem dX12_goOn_20 : decode cX12_goOn 20 = .ok (.aload_n 0, 1) := by decide +kernel
theorem dX12_goOn_21 : decode cX12_goOn 21 = .ok (.dup, 1) := by decide +kernel
theorem dX12_goOn_22 : decode cX12_goOn 22 = .ok (.getfield 94, 3) := by decide +kernel
theorem dX12_goOn_25 : decode cX12_goOn 25 = .ok (.iconst 1, 1) := by decide +kernel
theorem dX12_goOn_26 : decode cX12_goOn 26 = .ok (.iadd, 1) := by decide +kernel
theorem dX12_goOn_27 : decode cX12_goOn 27 = .ok (.putfield 94, 3) := by decide +kernel
theorem dX12_goOn_30 : decode cX12_goOn 30 = .ok (.goto (-30), 3) := by decide +kernel
theorem dX12_goOn_33 : decode cX12_goOn 33 = .ok (.aload_n 0, 1) := by decide +kernel
theorem dX12_goOn_34 : decode cX12_goOn 34 = .ok (.aload_n 0, 1) := by decide +kernel
theorem dX12_goOn_35 : decode cX12_goOn 35 = .ok (.getfield 94, 3) := by decide +kernel
theorem dX12_goOn_38 : decode cX12_goOn 38 = .ok (.putfield 104, 3) := by decide +kernel
theorem dX12_goOn_41 : decode cX12_goOn 41 = .ok (.aload_n 0, 1) := by decide +kernel
theorem dX12_goOn_42 : decode cX12_goOn 42 = .ok (.lconst 0, 1) := by decide +kernel
theorem dX12_goOn_43 : decode cX12_goOn 43 = .ok (.putfield 107, 3) := by decide +kernel
theorem dX12_goOn_46 : decode cX12_goOn 46 = .ok (.aload_n 0, 1) := by decide +kernel
theorem dX12_goOn_47 : decode cX12_goOn 47 = .ok (.iconst 0, 1) := by decide +kernel
theorem dX12_goOn_48 : decode cX12_goOn 48 = .ok (.putfield 111, 3) := by decide +kernel
theorem dX12_goOn_51 : decode cX12_goOn 51 = .ok (.aload_n 0, 1) := by decide +kernel
theorem dX12_goOn_52 : decode cX12_goOn 52 = .ok (.iconst 0, 1) := by decide +kernel
theorem dX12_goOn_53 : decode cX12_goOn 53 = .ok (.invokevirtual 100, 3) := by decide +kernel
theorem dX12_goOn_56 : decode cX12_goOn 56 = .ok (.istore_n 1, 1) := by decide +kernel
theorem dX12_goOn_57 : decode cX12_goOn 57 = .ok (.iconst 0, 1) := by decide +kernel
theorem dX12_goOn_58 : decode cX12_goOn 58 = .ok (.istore_n 2, 1) := by decide +kernel
theorem dX12_goOn_59 : decode cX12_goOn 59 = .ok (.iload_n 1, 1) := by decide +kernel
theorem dX12_goOn_60 : decode cX12_goOn 60 = .ok (.ifCond .ge 9, 3) := by decide +kernel
theorem dX12_goOn_63 : decode cX12_goOn 63 = .ok (.aload_n 0, 1) := by decide +kernel
theorem dX12_goOn_64 : decode cX12_goOn 64 = .ok (.iconst 0, 1) := by decide +kernel
theorem dX12_goOn_65 : decode cX12_goOn 65 = .ok (.putfield 114, 3) := by decide +kernel
theorem dX12_goOn_68 : decode cX12_goOn 68 = .ok (.return_, 1) := by decide +kernel
theorem dX12_goOn_69 : decode cX12_goOn 69 = .ok (.iload_n 1, 1) := by decide +kernel
theorem dX12_goOn_70 : decode cX12_goOn 70 = .ok (.invokestatic 117, 3) := by decide +kernel
theorem dX12_goOn_73 : decode cX12_goOn 73 = .ok (.ifCond .eq 66, 3) := by decide +kernel
theorem dX12_goOn_76 : decode cX12_goOn 76 = .ok (.aload_n 0, 1) := by decide +kernel
theorem dX12_goOn_77 : decode cX12_goOn 77 = .ok (.iload_n 2, 1) := by decide +kernel
theorem dX12_goOn_78 : decode cX12_goOn 78 = .ok (.invokevirtual 100, 3) := by decide +kernel
theorem dX12_goOn_81 : decode cX12_goOn 81 = .ok (.invokestatic 117, 3) := by decide +kernel
theorem dX12_goOn_84 : decode cX12_goOn 84 = .ok (.ifCond .eq 37, 3) := by decide +kernel
theorem dX12_goOn_87 : decode cX12_goOn 87 = .ok (.iload_n 2, 1) := by decide +kernel
theorem dX12_goOn_88 : decode cX12_goOn 88 = .ok (.bipush 8, 2) := by decide +kernel
theorem dX12_goOn_90 : decode cX12_goOn 90 = .ok (.if_icmp .ge 25, 3) := by decide +kernel
theorem dX12_goOn_93 : decode cX12_goOn 93 = .ok (.aload_n 0, 1) := by decide +kernel
theorem dX12_goOn_94 : decode cX12_goOn 94 = .ok (.aload_n 0, 1) := by decide +kernel
theorem dX12_goOn_95 : decode cX12_goOn 95 = .ok (.getfield 107, 3) := by decide +kernel
theorem dX12_goOn_98 : decode cX12_goOn 98 = .ok (.iconst 5, 1) := by decide +kernel
theorem dX12_goOn_99 : decode cX12_goOn 99 = .ok (.lshl, 1) := by decide +kernel
theorem dX12_goOn_100 : decode cX12_goOn 100 = .ok (.aload_n 0, 1) := by decide +kernel
theorem dX12_goOn_101 : decode cX12_goOn 101 = .ok (.iload_n 2, 1) := by decide +kernel
theorem dX12_goOn_102 : decode cX12_goOn 102 = .ok (.invokevirtual 100, 3) := by decide +kernel
theorem dX12_goOn_105 : decode cX12_goOn 105 = .ok (.bipush 97, 2) := by decide +kernel
theorem dX12_goOn_107 : decode cX12_goOn 107 = .ok (.isub, 1) := by decide +kernel
theorem dX12_goOn_108 : decode cX12_goOn 108 = .ok (.iconst 1, 1) := by decide +kernel
theorem dX12_goOn_109 : decode cX12_goOn 109 = .ok (.iadd, 1) := by decide +kernel
theorem dX12_goOn_110 : decode cX12_goOn 110 = .ok (.i2l, 1) := by decide +kernel
theorem dX12_goOn_111 : decode cX12_goOn 111 = .ok (.lor, 1) := by decide +kernel
theorem dX12_goOn_112 : decode cX12_goOn 112 = .ok (.putfield 107, 3) := by decide +kernel
theorem dX12_goOn_115 : decode cX12_goOn 115 = .ok (.iinc 2 1, 3) := by decide +kernel
theorem dX12_goOn_118 : decode cX12_goOn 118 = .ok (.goto (-42), 3) := by decide +kernel
theorem dX12_goOn_121 : decode cX12_goOn 121 = .ok (.aload_n 0, 1) := by decide +kernel
theorem dX12_goOn_122 : decode cX12_goOn 122 = .ok (.iload_n 2, 1) := by decide +kernel
theorem dX12_goOn_123 : decode cX12_goOn 123 = .ok (.bipush 8, 2) := by decide +kernel
theorem dX12_goOn_125 : decode cX12_goOn 125 = .ok (.if_icmp .le 7, 3) := by decide +kernel
theorem dX12_goOn_128 : decode cX12_goOn 128 = .ok (.iconst 4, 1) := by decide +kernel
theorem dX12_goOn_129 : decode cX12_goOn 129 = .ok (.goto 4, 3) := by decide +kernel
theorem dX12_goOn_132 : decode cX12_goOn 132 = .ok (.iconst 1, 1) := by decide +kernel
theorem dX12_goOn_133 : decode cX12_goOn 133 = .ok (.putfield 114, 3) := by decide +kernel
theorem dX12_goOn_136 : decode cX12_goOn 136 = .ok (.goto 103, 3) := by decide +kernel
theorem dX12_goOn_139 : decode cX12_goOn 139 = .ok (.iload_n 1, 1) := by decide +kernel
theorem dX12_goOn_140 : decode cX12_goOn 140 = .ok (.invokestatic 121, 3) := by decide +kernel
theorem dX12_goOn_143 : decode cX12_goOn 143 = .ok (.ifCond .eq 62, 3) := by decide +kernel
theorem dX12_goOn_146 : decode cX12_goOn 146 = .ok (.aload_n 0, 1) := by decide +kernel
theorem dX12_goOn_147 : decode cX12_goOn 147 = .ok (.iload_n 2, 1) := by decide +kernel
theorem dX12_goOn_148 : decode cX12_goOn 148 = .ok (.invokevirtual 100, 3) := by decide +kernel
theorem dX12_goOn_151 : decode cX12_goOn 151 = .ok (.invokestatic 121, 3) := by decide +kernel
theorem dX12_goOn_154 : decode cX12_goOn 154 = .ok (.ifCond .eq 34, 3) := by decide +kernel
theorem dX12_goOn_157 : decode cX12_goOn 157 = .ok (.iload_n 2, 1) := by decide +kernel
theorem dX12_goOn_158 : decode cX12_goOn 158 = .ok (.iconst 3, 1) := by decide +kernel
theorem dX12_goOn_159 : decode cX12_goOn 159 = .ok (.if_icmp .ge 23, 3) := by decide +kernel
theorem dX12_goOn_162 : decode cX12_goOn 162 = .ok (.aload_n 0, 1) := by decide +kernel
theorem dX12_goOn_163 : decode cX12_goOn 163 = .ok (.bipush 10, 2) := by decide +kernel
theorem dX12_goOn_165 : decode cX12_goOn 165 = .ok (.aload_n 0, 1) := by decide +kernel
theorem dX12_goOn_166 : decode cX12_goOn 166 = .ok (.getfield 111, 3) := by decide +kernel
theorem dX12_goOn_169 : decode cX12_goOn 169 = .ok (.imul, 1) := by decide +kernel
theorem dX12_goOn_170 : decode cX12_goOn 170 = .ok (.aload_n 0, 1) := by decide +kernel
theorem dX12_goOn_171 : decode cX12_goOn 171 = .ok (.iload_n 2, 1) := by decide +kernel
theorem dX12_goOn_172 : decode cX12_goOn 172 = .ok (.invokevirtual 100, 3) := by decide +kernel
theorem dX12_goOn_175 : decode cX12_goOn 175 = .ok (.iadd, 1) := by decide +kernel
theorem dX12_goOn_176 : decode cX12_goOn 176 = .ok (.bipush 48, 2) := by decide +kernel
theorem dX12_goOn_178 : decode cX12_goOn 178 = .ok (.isub, 1) := by decide +kernel
theorem dX12_goOn_179 : decode cX12_goOn 179 = .ok (.putfield 111, 3) := by decide +kernel
theorem dX12_goOn_182 : decode cX12_goOn 182 = .ok (.iinc 2 1, 3) := by decide +kernel
theorem dX12_goOn_185 : decode cX12_goOn 185 = .ok (.goto (-39), 3) := by decide +kernel
theorem dX12_goOn_188 : decode cX12_goOn 188 = .ok (.aload_n 0, 1) := by decide +kernel
theorem dX12_goOn_189 : decode cX12_goOn 189 = .ok (.iload_n 2, 1) := by decide +kernel
theorem dX12_goOn_190 : decode cX12_goOn 190 = .ok (.iconst 3, 1) := by decide +kernel
theorem dX12_goOn_191 : decode cX12_goOn 191 = .ok (.if_icmp .le 7, 3) := by decide +kernel
theorem dX12_goOn_194 : decode cX12_goOn 194 = .ok (.iconst 4, 1) := by decide +kernel
theorem dX12_goOn_195 : decode cX12_goOn 195 = .ok (.goto 4, 3) := by decide +kernel
theorem dX12_goOn_198 : decode cX12_goOn 198 = .ok (.iconst 2, 1) := by decide +kernel
theorem dX12_goOn_199 : decode cX12_goOn 199 = .ok (.putfield 114, 3) := by decide +kernel
theorem dX12_goOn_202 : decode cX12_goOn 202 = .ok (.goto 37, 3) := by decide +kernel
theorem dX12_goOn_205 : decode cX12_goOn 205 = .ok (.aload_n 0, 1) := by decide +kernel
theorem dX12_goOn_206 : decode cX12_goOn 206 = .ok (.iload_n 1, 1) := by decide +kernel
theorem dX12_goOn_207 : decode cX12_goOn 207 = .ok (.bipush 59, 2) := by decide +kernel
theorem dX12_goOn_209 : decode cX12_goOn 209 = .ok (.if_icmp .eq 15, 3) := by decide +kernel
theorem dX12_goOn_212 : decode cX12_goOn 212 = .ok (.iload_n 1, 1) := by decide +kernel
theorem dX12_goOn_213 : decode cX12_goOn 213 = .ok (.bipush 40, 2) := by decide +kernel
theorem dX12_goOn_215 : decode cX12_goOn 215 = .ok (.if_icmp .eq 9, 3) := by decide +kernel
theorem dX12_goOn_218 : decode cX12_goOn 218 = .ok (.iload_n 1, 1) := by decide +kernel
theorem dX12_goOn_219 : decode cX12_goOn 219 = .ok (.bipush 41, 2) := by decide +kernel
theorem dX12_goOn_221 : decode cX12_goOn 221 = .ok (.if_icmp .ne 7, 3) := by decide +kernel
theorem dX12_goOn_224 : decode cX12_goOn 224 = .ok (.iconst 3, 1) := by decide +kernel
theorem dX12_goOn_225 : decode cX12_goOn 225 = .ok (.goto 4, 3) := by decide +kernel
theorem dX12_goOn_228 : decode cX12_goOn 228 = .ok (.iconst 4, 1) := by decide +kernel
theorem dX12_goOn_229 : decode cX12_goOn 229 = .ok (.putfield 114, 3) := by decide +kernel
theorem dX12_goOn_232 : decode cX12_goOn 232 = .ok (.aload_n 0, 1) := by decide +kernel
theorem dX12_goOn_233 : decode cX12_goOn 233 = .ok (.iload_n 1, 1) := by decide +kernel
theorem dX12_goOn_234 : decode cX12_goOn 234 = .ok (.putfield 111, 3) := by decide +kernel
theorem dX12_goOn_237 : decode cX12_goOn 237 = .ok (.iconst 1, 1) := by decide +kernel
theorem dX12_goOn_238 : decode cX12_goOn 238 = .ok (.istore_n 2, 1) := by decide +kernel
theorem dX12_goOn_239 : decode cX12_goOn 239 = .ok (.aload_n 0, 1) := by decide +kernel
theorem dX12_goOn_240 : decode cX12_goOn 240 = .ok (.dup, 1) := by decide +kernel
theorem dX12_goOn_241 : decode cX12_goOn 241 = .ok (.getfield 94, 3) := by decide +kernel
theorem dX12_goOn_244 : decode cX12_goOn 244 = .ok (.iload_n 2, 1) := by decide +kernel
theorem dX12_goOn_245 : decode cX12_goOn 245 = .ok (.iadd, 1) := by decide +kernel
theorem dX12_goOn_246 : decode cX12_goOn 246 = .ok (.putfield 94, 3) := by decide +kernel
theorem dX12_goOn_249 : decode cX12_goOn 249 = .ok (.return_, 1) := by decide +kernel
theorem dX12_wrong_0 : decode cX12_wrong 0 = .ok (.aload_n 0, 1) := by decide +kernel
theorem dX12_wrong_1 : decode cX12_wrong 1 = .ok (.getfield 124, 3) := by decide +kernel
theorem dX12_wrong_4 : decode cX12_wrong 4 = .ok (.ifCond .le 4, 3) := by decide +kernel
theorem dX12_wrong_7 : decode cX12_wrong 7 = .ok (.return_, 1) := by decide +kernel
theorem dX12_wrong_8 : decode cX12_wrong 8 = .ok (.aload_n 0, 1) := by decide +kernel
theorem dX12_wrong_9 : decode cX12_wrong 9 = .ok (.aload_n 0, 1) := by decide +kernel
theorem dX12_wrong_10 : decode cX12_wrong 10 = .ok (.getfield 114, 3) := by decide +kernel
theorem dX12_wrong_13 : decode cX12_wrong 13 = .ok (.iconst 4, 1) := by decide +kernel
theorem dX12_wrong_14 : decode cX12_wrong 14 = .ok (.if_icmp .ne 7, 3) := by decide +kernel
theorem dX12_wrong_17 : decode cX12_wrong 17 = .ok (.iconst 1, 1) := by decide +kernel
theorem dX12_wrong_18 : decode cX12_wrong 18 = .ok (.goto 4, 3) := by decide +kernel
theorem dX12_wrong_21 : decode cX12_wrong 21 = .ok (.iload_n 1, 1) := by decide +kernel
theorem dX12_wrong_22 : decode cX12_wrong 22 = .ok (.putfield 124, 3) := by decide +kernel
theorem dX12_wrong_25 : decode cX12_wrong 25 = .ok (.aload_n 0, 1) := by decide +kernel
theorem dX12_wrong_26 : decode cX12_wrong 26 = .ok (.aload_n 0, 1) := by decide +kernel
theorem dX12_wrong_27 : decode cX12_wrong 27 = .ok (.getfield 104, 3) := by decide +kernel
theorem dX12_wrong_30 : decode cX12_wrong 30 = .ok (.putfield 13, 3) := by decide +kernel
theorem dX12_wrong_33 : decode cX12_wrong 33 = .ok (.return_, 1) := by decide +kernel
theorem dX12_isGood_0 : decode cX12_isGood 0 = .ok (.aload_n 0, 1) := by decide +kernel
theorem dX12_isGood_1 : decode cX12_isGood 1 = .ok (.getfield 124, 3) := by decide +kernel
theorem dX12_isGood_4 : decode cX12_isGood 4 = .ok (.ifCond .ne 7, 3) := by decide +kernel
theorem dX12_isGood_7 : decode cX12_isGood 7 = .ok (.iconst 1, 1) := by decide +kernel
theorem dX12_isGood_8 : decode cX12_isGood 8 = .ok (.goto 4, 3) := by decide +kernel
theorem dX12_isGood_11 : decode cX12_isGood 11 = .ok (.iconst 0, 1) := by decide +kernel
theorem dX12_isGood_12 : decode cX12_isGood 12 = .ok (.ireturn, 1) := by decide +kernel
theorem dX12_isWord_0 : decode cX12_isWord 0 = .ok (.aload_n 0, 1) := by decide +kernel
theorem dX12_isWord_1 : decode cX12_isWord 1 = .ok (.getfield 124, 3) := by decide +kernel
theorem dX12_isWord_4 : decode cX12_isWord 4 = .ok (.ifCond .ne 24, 3) := by decide +kernel
theorem dX12_isWord_7 : decode cX12_isWord 7 = .ok (.aload_n 0, 1) := by decide +kernel
theorem dX12_isWord_8 : decode cX12_isWord 8 = .ok (.getfield 114, 3) := by decide +kernel
theorem dX12_isWord_11 : decode cX12_isWord 11 = .ok (.iconst 1, 1) := by decide +kernel
theorem dX12_isWord_12 : decode cX12_isWord 12 = .ok (.if_icmp .ne 16, 3) := by decide +kernel
theorem dX12_isWord_15 : decode cX12_isWord 15 = .ok (.aload_n 0, 1) := by decide +kernel
theorem dX12_isWord_16 : decode cX12_isWord 16 = .ok (.getfield 107, 3) := by decide +kernel
theorem dX12_isWord_19 : decode cX12_isWord 19 = .ok (.lload_n 1, 1) := by decide +kernel
theorem dX12_isWord_20 : decode cX12_isWord 20 = .ok (.lcmp, 1) := by decide +kernel
theorem dX12_isWord_21 : decode cX12_isWord 21 = .ok (.ifCond .ne 7, 3) := by decide +kernel
theorem dX12_isWord_24 : decode cX12_isWord 24 = .ok (.iconst 1, 1) := by decide +kernel
theorem dX12_isWord_25 : decode cX12_isWord 25 = .ok (.goto 4, 3) := by decide +kernel
theorem dX12_isWord_28 : decode cX12_isWord 28 = .ok (.iconst 0, 1) := by decide +kernel
theorem dX12_isWord_29 : decode cX12_isWord 29 = .ok (.ireturn, 1) := by decide +kernel
theorem dX12_isSign_0 : decode cX12_isSign 0 = .ok (.aload_n 0, 1) := by decide +kernel
theorem dX12_isSign_1 : decode cX12_isSign 1 = .ok (.getfield 124, 3) := by decide +kernel
theorem dX12_isSign_4 : decode cX12_isSign 4 = .ok (.ifCond .ne 23, 3) := by decide +kernel
theorem dX12_isSign_7 : decode cX12_isSign 7 = .ok (.aload_n 0, 1) := by decide +kernel
theorem dX12_isSign_8 : decode cX12_isSign 8 = .ok (.getfield 114, 3) := by decide +kernel
theorem dX12_isSign_11 : decode cX12_isSign 11 = .ok (.iconst 3, 1) := by decide +kernel
theorem dX12_isSign_12 : decode cX12_isSign 12 = .ok (.if_icmp .ne 15, 3) := by decide +kernel
theorem dX12_isSign_15 : decode cX12_isSign 15 = .ok (.aload_n 0, 1) := by decide +kernel
theorem dX12_isSign_16 : decode cX12_isSign 16 = .ok (.getfield 111, 3) := by decide +kernel
theorem dX12_isSign_19 : decode cX12_isSign 19 = .ok (.iload_n 1, 1) := by decide +kernel
theorem dX12_isSign_20 : decode cX12_isSign 20 = .ok (.if_icmp .ne 7, 3) := by decide +kernel
theorem dX12_isSign_23 : decode cX12_isSign 23 = .ok (.iconst 1, 1) := by decide +kernel
theorem dX12_isSign_24 : decode cX12_isSign 24 = .ok (.goto 4, 3) := by decide +kernel
theorem dX12_isSign_27 : decode cX12_isSign 27 = .ok (.iconst 0, 1) := by decide +kernel
theorem dX12_isSign_28 : decode cX12_isSign 28 = .ok (.ireturn, 1) := by decide +kernel
theorem dX12_mustSign_0 : decode cX12_mustSign 0 = .ok (.aload_n 0, 1) := by decide +kernel
theorem dX12_mustSign_1 : decode cX12_mustSign 1 = .ok (.invokevirtual 127, 3) := by decide +kernel
theorem dX12_mustSign_4 : decode cX12_mustSign 4 = .ok (.ifCond .eq 16, 3) := by decide +kernel
theorem dX12_mustSign_7 : decode cX12_mustSign 7 = .ok (.aload_n 0, 1) := by decide +kernel
theorem dX12_mustSign_8 : decode cX12_mustSign 8 = .ok (.iload_n 1, 1) := by decide +kernel
theorem dX12_mustSign_9 : decode cX12_mustSign 9 = .ok (.invokevirtual 131, 3) := by decide +kernel
theorem dX12_mustSign_12 : decode cX12_mustSign 12 = .ok (.ifCond .ne 8, 3) := by decide +kernel
theorem dX12_mustSign_15 : decode cX12_mustSign 15 = .ok (.aload_n 0, 1) := by decide +kernel
theorem dX12_mustSign_16 : decode cX12_mustSign 16 = .ok (.iconst 1, 1) := by decide +kernel
theorem dX12_mustSign_17 : decode cX12_mustSign 17 = .ok (.invokevirtual 134, 3) := by decide +kernel
theorem dX12_mustSign_20 : decode cX12_mustSign 20 = .ok (.aload_n 0, 1) := by decide +kernel
theorem dX12_mustSign_21 : decode cX12_mustSign 21 = .ok (.invokevirtual 127, 3) := by decide +kernel
theorem dX12_mustSign_24 : decode cX12_mustSign 24 = .ok (.ifCond .eq 7, 3) := by decide +kernel
theorem dX12_mustSign_27 : decode cX12_mustSign 27 = .ok (.aload_n 0, 1) := by decide +kernel
theorem dX12_mustSign_28 : decode cX12_mustSign 28 = .ok (.invokevirtual 137, 3) := by decide +kernel
theorem dX12_mustSign_31 : decode cX12_mustSign 31 = .ok (.return_, 1) := by decide +kernel
theorem dX12_looks_0 : decode cX12_looks 0 = .ok (.aload_n 0, 1) := by decide +kernel
theorem dX12_looks_1 : decode cX12_looks 1 = .ok (.invokevirtual 127, 3) := by decide +kernel
theorem dX12_looks_4 : decode cX12_looks 4 = .ok (.ifCond .eq 16, 3) := by decide +kernel
theorem dX12_looks_7 : decode cX12_looks 7 = .ok (.aload_n 0, 1) := by decide +kernel
theorem dX12_looks_8 : decode cX12_looks 8 = .ok (.getfield 114, 3) := by decide +kernel
theorem dX12_looks_11 : decode cX12_looks 11 = .ok (.iconst 2, 1) := by decide +kernel
theorem dX12_looks_12 : decode cX12_looks 12 = .ok (.if_icmp .eq 8, 3) := by decide +kernel
theorem dX12_looks_15 : decode cX12_looks 15 = .ok (.aload_n 0, 1) := by decide +kernel
theorem dX12_looks_16 : decode cX12_looks 16 = .ok (.iconst 1, 1) := by decide +kernel
theorem dX12_looks_17 : decode cX12_looks 17 = .ok (.invokevirtual 134, 3) := by decide +kernel
theorem dX12_looks_20 : decode cX12_looks 20 = .ok (.aload_n 0, 1) := by decide +kernel
theorem dX12_looks_21 : decode cX12_looks 21 = .ok (.invokevirtual 127, 3) := by decide +kernel
theorem dX12_looks_24 : decode cX12_looks 24 = .ok (.ifCond .eq 23, 3) := by decide +kernel
theorem dX12_looks_27 : decode cX12_looks 27 = .ok (.aload_n 0, 1) := by decide +kernel
theorem dX12_looks_28 : decode cX12_looks 28 = .ok (.getfield 111, 3) := by decide +kernel
theorem dX12_looks_31 : decode cX12_looks 31 = .ok (.i2l, 1) := by decide +kernel
theorem dX12_looks_32 : decode cX12_looks 32 = .ok (.iload_n 1, 1) := by decide +kernel
theorem dX12_looks_33 : decode cX12_looks 33 = .ok (.i2l, 1) := by decide +kernel
theorem dX12_looks_34 : decode cX12_looks 34 = .ok (.iload_n 2, 1) := by decide +kernel
theorem dX12_looks_35 : decode cX12_looks 35 = .ok (.i2l, 1) := by decide +kernel
theorem dX12_looks_36 : decode cX12_looks 36 = .ok (.invokestatic 90, 3) := by decide +kernel
theorem dX12_looks_39 : decode cX12_looks 39 = .ok (.ifCond .ne 8, 3) := by decide +kernel
theorem dX12_looks_42 : decode cX12_looks 42 = .ok (.aload_n 0, 1) := by decide +kernel
theorem dX12_looks_43 : decode cX12_looks 43 = .ok (.iconst 2, 1) := by decide +kernel
theorem dX12_looks_44 : decode cX12_looks 44 = .ok (.invokevirtual 134, 3) := by decide +kernel
theorem dX12_looks_47 : decode cX12_looks 47 = .ok (.aload_n 0, 1) := by decide +kernel
theorem dX12_looks_48 : decode cX12_looks 48 = .ok (.getfield 111, 3) := by decide +kernel
theorem dX12_looks_51 : decode cX12_looks 51 = .ok (.ireturn, 1) := by decide +kernel
theorem dX12_number_0 : decode cX12_number 0 = .ok (.aload_n 0, 1) := by decide +kernel
theorem dX12_number_1 : decode cX12_number 1 = .ok (.iload_n 1, 1) := by decide +kernel
theorem dX12_number_2 : decode cX12_number 2 = .ok (.iload_n 2, 1) := by decide +kernel
theorem dX12_number_3 : decode cX12_number 3 = .ok (.invokevirtual 144, 3) := by decide +kernel
theorem dX12_number_6 : decode cX12_number 6 = .ok (.istore_n 3, 1) := by decide +kernel
theorem dX12_number_7 : decode cX12_number 7 = .ok (.aload_n 0, 1) := by decide +kernel
theorem dX12_number_8 : decode cX12_number 8 = .ok (.invokevirtual 127, 3) := by decide +kernel
theorem dX12_number_11 : decode cX12_number 11 = .ok (.ifCond .eq 7, 3) := by decide +kernel
theorem dX12_number_14 : decode cX12_number 14 = .ok (.aload_n 0, 1) := by decide +kernel
theorem dX12_number_15 : decode cX12_number 15 = .ok (.invokevirtual 137, 3) := by decide +kernel
theorem dX12_number_18 : decode cX12_number 18 = .ok (.iload_n 3, 1) := by decide +kernel
theorem dX12_number_19 : decode cX12_number 19 = .ok (.ireturn, 1) := by decide +kernel
theorem dX12_beginsText_0 : decode cX12_beginsText 0 = .ok (.aload_n 0, 1) := by decide +kernel
theorem dX12_beginsText_1 : decode cX12_beginsText 1 = .ok (.aload_n 0, 1) := by decide +kernel
theorem dX12_beginsText_2 : decode cX12_beginsText 2 = .ok (.getfield 79, 3) := by decide +kernel
theorem dX12_beginsText_5 : decode cX12_beginsText 5 = .ok (.putfield 97, 3) := by decide +kernel
theorem dX12_beginsText_8 : decode cX12_beginsText 8 = .ok (.aload_n 0, 1) := by decide +kernel
theorem dX12_beginsText_9 : decode cX12_beginsText 9 = .ok (.iconst 0, 1) := by decide +kernel
theorem dX12_beginsText_10 : decode cX12_beginsText 10 = .ok (.putfield 79, 3) := by decide +kernel
theorem dX12_beginsText_13 : decode cX12_beginsText 13 = .ok (.aload_n 0, 1) := by decide +kernel
theorem dX12_beginsText_14 : decode cX12_beginsText 14 = .ok (.iconst 0, 1) := by decide +kernel
theorem dX12_beginsText_15 : decode cX12_beginsText 15 = .ok (.putfield 94, 3) := by decide +kernel
theorem dX12_beginsText_18 : decode cX12_beginsText 18 = .ok (.aload_n 0, 1) := by decide +kernel
theorem dX12_beginsText_19 : decode cX12_beginsText 19 = .ok (.iconst 0, 1) := by decide +kernel
theorem dX12_beginsText_20 : decode cX12_beginsText 20 = .ok (.putfield 124, 3) := by decide +kernel
theorem dX12_beginsText_23 : decode cX12_beginsText 23 = .ok (.aload_n 0, 1) := by decide +kernel
theorem dX12_beginsText_24 : decode cX12_beginsText 24 = .ok (.iconst (-1), 1) := by decide +kernel
theorem dX12_beginsText_25 : decode cX12_beginsText 25 = .ok (.putfield 13, 3) := by decide +kernel
theorem dX12_beginsText_28 : decode cX12_beginsText 28 = .ok (.aload_n 0, 1) := by decide +kernel
theorem dX12_beginsText_29 : decode cX12_beginsText 29 = .ok (.invokevirtual 137, 3) := by decide +kernel
theorem dX12_beginsText_32 : decode cX12_beginsText 32 = .ok (.return_, 1) := by decide +kernel
theorem dX12_endsText_0 : decode cX12_endsText 0 = .ok (.aload_n 0, 1) := by decide +kernel
theorem dX12_endsText_1 : decode cX12_endsText 1 = .ok (.aload_n 0, 1) := by decide +kernel
theorem dX12_endsText_2 : decode cX12_endsText 2 = .ok (.getfield 124, 3) := by decide +kernel
theorem dX12_endsText_5 : decode cX12_endsText 5 = .ok (.putfield 148, 3) := by decide +kernel
theorem dX12_endsText_8 : decode cX12_endsText 8 = .ok (.aload_n 0, 1) := by decide +kernel
theorem dX12_endsText_9 : decode cX12_endsText 9 = .ok (.aload_n 0, 1) := by decide +kernel
theorem dX12_endsText_10 : decode cX12_endsText 10 = .ok (.getfield 13, 3) := by decide +kernel
theorem dX12_endsText_13 : decode cX12_endsText 13 = .ok (.putfield 17, 3) := by decide +kernel
theorem dX12_endsText_16 : decode cX12_endsText 16 = .ok (.aload_n 0, 1) := by decide +kernel
theorem dX12_endsText_17 : decode cX12_endsText 17 = .ok (.aload_n 0, 1) := by decide +kernel
theorem dX12_endsText_18 : decode cX12_endsText 18 = .ok (.getfield 124, 3) := by decide +kernel
theorem dX12_endsText_21 : decode cX12_endsText 21 = .ok (.ifCond .ne 7, 3) := by decide +kernel
theorem dX12_endsText_24 : decode cX12_endsText 24 = .ok (.iconst 1, 1) := by decide +kernel
theorem dX12_endsText_25 : decode cX12_endsText 25 = .ok (.goto 4, 3) := by decide +kernel
theorem dX12_endsText_28 : decode cX12_endsText 28 = .ok (.iconst 0, 1) := by decide +kernel
theorem dX12_endsText_29 : decode cX12_endsText 29 = .ok (.invokevirtual 82, 3) := by decide +kernel
theorem dX12_endsText_32 : decode cX12_endsText 32 = .ok (.ireturn, 1) := by decide +kernel
theorem dX12_errorCode_0 : decode cX12_errorCode 0 = .ok (.aload_n 0, 1) := by decide +kernel
theorem dX12_errorCode_1 : decode cX12_errorCode 1 = .ok (.iconst 0, 1) := by decide +kernel
theorem dX12_errorCode_2 : decode cX12_errorCode 2 = .ok (.putfield 72, 3) := by decide +kernel
theorem dX12_errorCode_5 : decode cX12_errorCode 5 = .ok (.aload_n 0, 1) := by decide +kernel
theorem dX12_errorCode_6 : decode cX12_errorCode 6 = .ok (.getfield 148, 3) := by decide +kernel
theorem dX12_errorCode_9 : decode cX12_errorCode 9 = .ok (.ireturn, 1) := by decide +kernel
theorem dX12_errorPosition_0 : decode cX12_errorPosition 0 = .ok (.aload_n 0, 1) := by decide +kernel
theorem dX12_errorPosition_1 : decode cX12_errorPosition 1 = .ok (.iconst 0, 1) := by decide +kernel
theorem dX12_errorPosition_2 : decode cX12_errorPosition 2 = .ok (.putfield 72, 3) := by decide +kernel
theorem dX12_errorPosition_5 : decode cX12_errorPosition 5 = .ok (.aload_n 0, 1) := by decide +kernel
theorem dX12_errorPosition_6 : decode cX12_errorPosition 6 = .ok (.getfield 17, 3) := by decide +kernel
theorem dX12_errorPosition_9 : decode cX12_errorPosition 9 = .ok (.ireturn, 1) := by decide +kernel
theorem dX12_copiesRow_0 : decode cX12_copiesRow 0 = .ok (.iconst 0, 1) := by decide +kernel
theorem dX12_copiesRow_1 : decode cX12_copiesRow 1 = .ok (.istore 4, 2) := by decide +kernel
theorem dX12_copiesRow_3 : decode cX12_copiesRow 3 = .ok (.iload 4, 2) := by decide +kernel
theorem dX12_copiesRow_5 : decode cX12_copiesRow 5 = .ok (.sipush 408, 3) := by decide +kernel
theorem dX12_copiesRow_8 : decode cX12_copiesRow 8 = .ok (.if_icmp .ge 21, 3) := by decide +kernel
theorem dX12_copiesRow_11 : decode cX12_copiesRow 11 = .ok (.aload_n 2, 1) := by decide +kernel
theorem dX12_copiesRow_12 : decode cX12_copiesRow 12 = .ok (.iload_n 3, 1) := by decide +kernel
theorem dX12_copiesRow_13 : decode cX12_copiesRow 13 = .ok (.iload 4, 2) := by decide +kernel
theorem dX12_copiesRow_15 : decode cX12_copiesRow 15 = .ok (.iadd, 1) := by decide +kernel
theorem dX12_copiesRow_16 : decode cX12_copiesRow 16 = .ok (.aload_n 0, 1) := by decide +kernel
theorem dX12_copiesRow_17 : decode cX12_copiesRow 17 = .ok (.iload_n 1, 1) := by decide +kernel
theorem dX12_copiesRow_18 : decode cX12_copiesRow 18 = .ok (.iload 4, 2) := by decide +kernel
theorem dX12_copiesRow_20 : decode cX12_copiesRow 20 = .ok (.iadd, 1) := by decide +kernel
theorem dX12_copiesRow_21 : decode cX12_copiesRow 21 = .ok (.iaload, 1) := by decide +kernel
theorem dX12_copiesRow_22 : decode cX12_copiesRow 22 = .ok (.iastore, 1) := by decide +kernel
theorem dX12_copiesRow_23 : decode cX12_copiesRow 23 = .ok (.iinc 4 1, 3) := by decide +kernel
theorem dX12_copiesRow_26 : decode cX12_copiesRow 26 = .ok (.goto (-23), 3) := by decide +kernel
theorem dX12_copiesRow_29 : decode cX12_copiesRow 29 = .ok (.return_, 1) := by decide +kernel
theorem dX12_copiesNames_0 : decode cX12_copiesNames 0 = .ok (.iconst 0, 1) := by decide +kernel
theorem dX12_copiesNames_1 : decode cX12_copiesNames 1 = .ok (.istore_n 2, 1) := by decide +kernel
theorem dX12_copiesNames_2 : decode cX12_copiesNames 2 = .ok (.iload_n 2, 1) := by decide +kernel
theorem dX12_copiesNames_3 : decode cX12_copiesNames 3 = .ok (.bipush 6, 2) := by decide +kernel
theorem dX12_copiesNames_5 : decode cX12_copiesNames 5 = .ok (.if_icmp .ge 15, 3) := by decide +kernel
theorem dX12_copiesNames_8 : decode cX12_copiesNames 8 = .ok (.aload_n 1, 1) := by decide +kernel
theorem dX12_copiesNames_9 : decode cX12_copiesNames 9 = .ok (.iload_n 2, 1) := by decide +kernel
theorem dX12_copiesNames_10 : decode cX12_copiesNames 10 = .ok (.aload_n 0, 1) := by decide +kernel
theorem dX12_copiesNames_11 : decode cX12_copiesNames 11 = .ok (.iload_n 2, 1) := by decide +kernel
theorem dX12_copiesNames_12 : decode cX12_copiesNames 12 = .ok (.laload, 1) := by decide +kernel
theorem dX12_copiesNames_13 : decode cX12_copiesNames 13 = .ok (.lastore, 1) := by decide +kernel
theorem dX12_copiesNames_14 : decode cX12_copiesNames 14 = .ok (.iinc 2 1, 3) := by decide +kernel
theorem dX12_copiesNames_17 : decode cX12_copiesNames 17 = .ok (.goto (-15), 3) := by decide +kernel
theorem dX12_copiesNames_20 : decode cX12_copiesNames 20 = .ok (.return_, 1) := by decide +kernel
theorem dX12_clears_0 : decode cX12_clears 0 = .ok (.iconst 0, 1) := by decide +kernel
theorem dX12_clears_1 : decode cX12_clears 1 = .ok (.istore_n 1, 1) := by decide +kernel
theorem dX12_clears_2 : decode cX12_clears 2 = .ok (.iload_n 1, 1) := by decide +kernel
theorem dX12_clears_3 : decode cX12_clears 3 = .ok (.sipush 408, 3) := by decide +kernel
theorem dX12_clears_6 : decode cX12_clears 6 = .ok (.if_icmp .ge 16, 3) := by decide +kernel
theorem dX12_clears_9 : decode cX12_clears 9 = .ok (.aload_n 0, 1) := by decide +kernel
theorem dX12_clears_10 : decode cX12_clears 10 = .ok (.getfield 20, 3) := by decide +kernel
theorem dX12_clears_13 : decode cX12_clears 13 = .ok (.iload_n 1, 1) := by decide +kernel
theorem dX12_clears_14 : decode cX12_clears 14 = .ok (.iconst 0, 1) := by decide +kernel
theorem dX12_clears_15 : decode cX12_clears 15 = .ok (.iastore, 1) := by decide +kernel
theorem dX12_clears_16 : decode cX12_clears 16 = .ok (.iinc 1 1, 3) := by decide +kernel
theorem dX12_clears_19 : decode cX12_clears 19 = .ok (.goto (-17), 3) := by decide +kernel
theorem dX12_clears_22 : decode cX12_clears 22 = .ok (.iconst 0, 1) := by decide +kernel
theorem dX12_clears_23 : decode cX12_clears 23 = .ok (.istore_n 1, 1) := by decide +kernel
theorem dX12_clears_24 : decode cX12_clears 24 = .ok (.iload_n 1, 1) := by decide +kernel
theorem dX12_clears_25 : decode cX12_clears 25 = .ok (.bipush 6, 2) := by decide +kernel
theorem dX12_clears_27 : decode cX12_clears 27 = .ok (.if_icmp .ge 16, 3) := by decide +kernel
theorem dX12_clears_30 : decode cX12_clears 30 = .ok (.aload_n 0, 1) := by decide +kernel
theorem dX12_clears_31 : decode cX12_clears 31 = .ok (.getfield 35, 3) := by decide +kernel
theorem dX12_clears_34 : decode cX12_clears 34 = .ok (.iload_n 1, 1) := by decide +kernel
theorem dX12_clears_35 : decode cX12_clears 35 = .ok (.lconst 0, 1) := by decide +kernel
theorem dX12_clears_36 : decode cX12_clears 36 = .ok (.lastore, 1) := by decide +kernel
theorem dX12_clears_37 : decode cX12_clears 37 = .ok (.iinc 1 1, 3) := by decide +kernel
theorem dX12_clears_40 : decode cX12_clears 40 = .ok (.goto (-16), 3) := by decide +kernel
theorem dX12_clears_43 : decode cX12_clears 43 = .ok (.iconst 0, 1) := by decide +kernel
theorem dX12_clears_44 : decode cX12_clears 44 = .ok (.istore_n 1, 1) := by decide +kernel
theorem dX12_clears_45 : decode cX12_clears 45 = .ok (.iload_n 1, 1) := by decide +kernel
theorem dX12_clears_46 : decode cX12_clears 46 = .ok (.bipush 26, 2) := by decide +kernel
theorem dX12_clears_48 : decode cX12_clears 48 = .ok (.if_icmp .ge 19, 3) := by decide +kernel
theorem dX12_clears_51 : decode cX12_clears 51 = .ok (.aload_n 0, 1) := by decide +kernel
theorem dX12_clears_52 : decode cX12_clears 52 = .ok (.getfield 20, 3) := by decide +kernel
theorem dX12_clears_55 : decode cX12_clears 55 = .ok (.bipush 104, 2) := by decide +kernel
theorem dX12_clears_57 : decode cX12_clears 57 = .ok (.iload_n 1, 1) := by decide +kernel
theorem dX12_clears_58 : decode cX12_clears 58 = .ok (.iadd, 1) := by decide +kernel
theorem dX12_clears_59 : decode cX12_clears 59 = .ok (.iconst 4, 1) := by decide +kernel
theorem dX12_clears_60 : decode cX12_clears 60 = .ok (.iastore, 1) := by decide +kernel
theorem dX12_clears_61 : decode cX12_clears 61 = .ok (.iinc 1 1, 3) := by decide +kernel
theorem dX12_clears_64 : decode cX12_clears 64 = .ok (.goto (-19), 3) := by decide +kernel
theorem dX12_clears_67 : decode cX12_clears 67 = .ok (.aload_n 0, 1) := by decide +kernel
theorem dX12_clears_68 : decode cX12_clears 68 = .ok (.getfield 20, 3) := by decide +kernel
theorem dX12_clears_71 : decode cX12_clears 71 = .ok (.iconst 3, 1) := by decide +kernel
theorem dX12_clears_72 : decode cX12_clears 72 = .ok (.bipush 50, 2) := by decide +kernel
theorem dX12_clears_74 : decode cX12_clears 74 = .ok (.iastore, 1) := by decide +kernel
theorem dX12_clears_75 : decode cX12_clears 75 = .ok (.aload_n 0, 1) := by decide +kernel
theorem dX12_clears_76 : decode cX12_clears 76 = .ok (.getfield 20, 3) := by decide +kernel
theorem dX12_clears_79 : decode cX12_clears 79 = .ok (.iconst 4, 1) := by decide +kernel
theorem dX12_clears_80 : decode cX12_clears 80 = .ok (.iconst 1, 1) := by decide +kernel
theorem dX12_clears_81 : decode cX12_clears 81 = .ok (.iastore, 1) := by decide +kernel
theorem dX12_clears_82 : decode cX12_clears 82 = .ok (.aload_n 0, 1) := by decide +kernel
theorem dX12_clears_83 : decode cX12_clears 83 = .ok (.getfield 20, 3) := by decide +kernel
theorem dX12_clears_86 : decode cX12_clears 86 = .ok (.iconst 5, 1) := by decide +kernel
theorem dX12_clears_87 : decode cX12_clears 87 = .ok (.iconst 1, 1) := by decide +kernel
theorem dX12_clears_88 : decode cX12_clears 88 = .ok (.iastore, 1) := by decide +kernel
theorem dX12_clears_89 : decode cX12_clears 89 = .ok (.return_, 1) := by decide +kernel
theorem dX12_laysAside_0 : decode cX12_laysAside 0 = .ok (.aload_n 0, 1) := by decide +kernel
theorem dX12_laysAside_1 : decode cX12_laysAside 1 = .ok (.getfield 20, 3) := by decide +kernel
theorem dX12_laysAside_4 : decode cX12_laysAside 4 = .ok (.iconst 0, 1) := by decide +kernel
theorem dX12_laysAside_5 : decode cX12_laysAside 5 = .ok (.aload_n 0, 1) := by decide +kernel
theorem dX12_laysAside_6 : decode cX12_laysAside 6 = .ok (.getfield 26, 3) := by decide +kernel
theorem dX12_laysAside_9 : decode cX12_laysAside 9 = .ok (.iconst 0, 1) := by decide +kernel
theorem dX12_laysAside_10 : decode cX12_laysAside 10 = .ok (.invokestatic 151, 3) := by decide +kernel
theorem dX12_laysAside_13 : decode cX12_laysAside 13 = .ok (.return_, 1) := by decide +kernel
theorem dX12_keeps_0 : decode cX12_keeps 0 = .ok (.aload_n 0, 1) := by decide +kernel
theorem dX12_keeps_1 : decode cX12_keeps 1 = .ok (.getfield 155, 3) := by decide +kernel
theorem dX12_keeps_4 : decode cX12_keeps 4 = .ok (.bipush 6, 2) := by decide +kernel
theorem dX12_keeps_6 : decode cX12_keeps 6 = .ok (.if_icmp .ne 49, 3) := by decide +kernel
theorem dX12_keeps_9 : decode cX12_keeps 9 = .ok (.aload_n 0, 1) := by decide +kernel
theorem dX12_keeps_10 : decode cX12_keeps 10 = .ok (.dup, 1) := by decide +kernel
theorem dX12_keeps_11 : decode cX12_keeps 11 = .ok (.getfield 155, 3) := by decide +kernel
theorem dX12_keeps_14 : decode cX12_keeps 14 = .ok (.iconst 1, 1) := by decide +kernel
theorem dX12_keeps_15 : decode cX12_keeps 15 = .ok (.isub, 1) := by decide +kernel
theorem dX12_keeps_16 : decode cX12_keeps 16 = .ok (.putfield 155, 3) := by decide +kernel
theorem dX12_keeps_19 : decode cX12_keeps 19 = .ok (.iconst 0, 1) := by decide +kernel
theorem dX12_keeps_20 : decode cX12_keeps 20 = .ok (.istore_n 1, 1) := by decide +kernel
theorem dX12_keeps_21 : decode cX12_keeps 21 = .ok (.iload_n 1, 1) := by decide +kernel
theorem dX12_keeps_22 : decode cX12_keeps 22 = .ok (.sipush 408, 3) := by decide +kernel
theorem dX12_keeps_25 : decode cX12_keeps 25 = .ok (.aload_n 0, 1) := by decide +kernel
theorem dX12_keeps_26 : decode cX12_keeps 26 = .ok (.getfield 155, 3) := by decide +kernel
theorem dX12_keeps_29 : decode cX12_keeps 29 = .ok (.imul, 1) := by decide +kernel
theorem dX12_keeps_30 : decode cX12_keeps 30 = .ok (.if_icmp .ge 25, 3) := by decide +kernel
theorem dX12_keeps_33 : decode cX12_keeps 33 = .ok (.aload_n 0, 1) := by decide +kernel
theorem dX12_keeps_34 : decode cX12_keeps 34 = .ok (.getfield 32, 3) := by decide +kernel
theorem dX12_keeps_37 : decode cX12_keeps 37 = .ok (.iload_n 1, 1) := by decide +kernel
theorem dX12_keeps_38 : decode cX12_keeps 38 = .ok (.aload_n 0, 1) := by decide +kernel
theorem dX12_keeps_39 : decode cX12_keeps 39 = .ok (.getfield 32, 3) := by decide +kernel
theorem dX12_keeps_42 : decode cX12_keeps 42 = .ok (.iload_n 1, 1) := by decide +kernel
theorem dX12_keeps_43 : decode cX12_keeps 43 = .ok (.sipush 408, 3) := by decide +kernel
theorem dX12_keeps_46 : decode cX12_keeps 46 = .ok (.iadd, 1) := by decide +kernel
theorem dX12_keeps_47 : decode cX12_keeps 47 = .ok (.iaload, 1) := by decide +kernel
theorem dX12_keeps_48 : decode cX12_keeps 48 = .ok (.iastore, 1) := by decide +kernel
theorem dX12_keeps_49 : decode cX12_keeps 49 = .ok (.iinc 1 1, 3) := by decide +kernel
theorem dX12_keeps_52 : decode cX12_keeps 52 = .ok (.goto (-31), 3) := by decide +kernel
theorem dX12_keeps_55 : decode cX12_keeps 55 = .ok (.aload_n 0, 1) := by decide +kernel
theorem dX12_keeps_56 : decode cX12_keeps 56 = .ok (.getfield 26, 3) := by decide +kernel
theorem dX12_keeps_59 : decode cX12_keeps 59 = .ok (.iconst 0, 1) := by decide +kernel
theorem dX12_keeps_60 : decode cX12_keeps 60 = .ok (.aload_n 0, 1) := by decide +kernel
theorem dX12_keeps_61 : decode cX12_keeps 61 = .ok (.getfield 32, 3) := by decide +kernel
theorem dX12_keeps_64 : decode cX12_keeps 64 = .ok (.sipush 408, 3) := by decide +kernel
theorem dX12_keeps_67 : decode cX12_keeps 67 = .ok (.aload_n 0, 1) := by decide +kernel
theorem dX12_keeps_68 : decode cX12_keeps 68 = .ok (.getfield 155, 3) := by decide +kernel
theorem dX12_keeps_71 : decode cX12_keeps 71 = .ok (.imul, 1) := by decide +kernel
theorem dX12_keeps_72 : decode cX12_keeps 72 = .ok (.invokestatic 151, 3) := by decide +kernel
theorem dX12_keeps_75 : decode cX12_keeps 75 = .ok (.aload_n 0, 1) := by decide +kernel
theorem dX12_keeps_76 : decode cX12_keeps 76 = .ok (.dup, 1) := by decide +kernel
theorem dX12_keeps_77 : decode cX12_keeps 77 = .ok (.getfield 155, 3) := by decide +kernel
theorem dX12_keeps_80 : decode cX12_keeps 80 = .ok (.iconst 1, 1) := by decide +kernel
theorem dX12_keeps_81 : decode cX12_keeps 81 = .ok (.iadd, 1) := by decide +kernel
theorem dX12_keeps_82 : decode cX12_keeps 82 = .ok (.putfield 155, 3) := by decide +kernel
theorem dX12_keeps_85 : decode cX12_keeps 85 = .ok (.return_, 1) := by decide +kernel
theorem dX12_kept_0 : decode cX12_kept 0 = .ok (.aload_n 0, 1) := by decide +kernel
theorem dX12_kept_1 : decode cX12_kept 1 = .ok (.invokevirtual 158, 3) := by decide +kernel
theorem dX12_kept_4 : decode cX12_kept 4 = .ok (.iload_n 1, 1) := by decide +kernel
theorem dX12_kept_5 : decode cX12_kept 5 = .ok (.ireturn, 1) := by decide +kernel
theorem dX12_undo_0 : decode cX12_undo 0 = .ok (.aload_n 0, 1) := by decide +kernel
theorem dX12_undo_1 : decode cX12_undo 1 = .ok (.iconst 0, 1) := by decide +kernel
theorem dX12_undo_2 : decode cX12_undo 2 = .ok (.putfield 72, 3) := by decide +kernel
theorem dX12_undo_5 : decode cX12_undo 5 = .ok (.aload_n 0, 1) := by decide +kernel
theorem dX12_undo_6 : decode cX12_undo 6 = .ok (.getfield 155, 3) := by decide +kernel
theorem dX12_undo_9 : decode cX12_undo 9 = .ok (.ifCond .ne 5, 3) := by decide +kernel
theorem dX12_undo_12 : decode cX12_undo 12 = .ok (.iconst (-1), 1) := by decide +kernel
theorem dX12_undo_13 : decode cX12_undo 13 = .ok (.ireturn, 1) := by decide +kernel
theorem dX12_undo_14 : decode cX12_undo 14 = .ok (.aload_n 0, 1) := by decide +kernel
theorem dX12_undo_15 : decode cX12_undo 15 = .ok (.dup, 1) := by decide +kernel
theorem dX12_undo_16 : decode cX12_undo 16 = .ok (.getfield 155, 3) := by decide +kernel
theorem dX12_undo_19 : decode cX12_undo 19 = .ok (.iconst 1, 1) := by decide +kernel
theorem dX12_undo_20 : decode cX12_undo 20 = .ok (.isub, 1) := by decide +kernel
theorem dX12_undo_21 : decode cX12_undo 21 = .ok (.putfield 155, 3) := by decide +kernel
theorem dX12_undo_24 : decode cX12_undo 24 = .ok (.aload_n 0, 1) := by decide +kernel
theorem dX12_undo_25 : decode cX12_undo 25 = .ok (.getfield 32, 3) := by decide +kernel
theorem dX12_undo_28 : decode cX12_undo 28 = .ok (.sipush 408, 3) := by decide +kernel
theorem dX12_undo_31 : decode cX12_undo 31 = .ok (.aload_n 0, 1) := by decide +kernel
theorem dX12_undo_32 : decode cX12_undo 32 = .ok (.getfield 155, 3) := by decide +kernel
theorem dX12_undo_35 : decode cX12_undo 35 = .ok (.imul, 1) := by decide +kernel
theorem dX12_undo_36 : decode cX12_undo 36 = .ok (.aload_n 0, 1) := by decide +kernel
theorem dX12_undo_37 : decode cX12_undo 37 = .ok (.getfield 20, 3) := by decide +kernel
theorem dX12_undo_40 : decode cX12_undo 40 = .ok (.iconst 0, 1) := by decide +kernel
theorem dX12_undo_41 : decode cX12_undo 41 = .ok (.invokestatic 151, 3) := by decide +kernel
theorem dX12_undo_44 : decode cX12_undo 44 = .ok (.aload_n 0, 1) := by decide +kernel
theorem dX12_undo_45 : decode cX12_undo 45 = .ok (.getfield 155, 3) := by decide +kernel
theorem dX12_undo_48 : decode cX12_undo 48 = .ok (.ireturn, 1) := by decide +kernel
theorem dX12_save_0 : decode cX12_save 0 = .ok (.aload_n 0, 1) := by decide +kernel
theorem dX12_save_1 : decode cX12_save 1 = .ok (.iconst 0, 1) := by decide +kernel
theorem dX12_save_2 : decode cX12_save 2 = .ok (.putfield 72, 3) := by decide +kernel
theorem dX12_save_5 : decode cX12_save 5 = .ok (.aload_n 0, 1) := by decide +kernel
theorem dX12_save_6 : decode cX12_save 6 = .ok (.getfield 20, 3) := by decide +kernel
theorem dX12_save_9 : decode cX12_save 9 = .ok (.iconst 0, 1) := by decide +kernel
theorem dX12_save_10 : decode cX12_save 10 = .ok (.aload_n 0, 1) := by decide +kernel
theorem dX12_save_11 : decode cX12_save 11 = .ok (.getfield 23, 3) := by decide +kernel
theorem dX12_save_14 : decode cX12_save 14 = .ok (.iconst 0, 1) := by decide +kernel
theorem dX12_save_15 : decode cX12_save 15 = .ok (.invokestatic 151, 3) := by decide +kernel
theorem dX12_save_18 : decode cX12_save 18 = .ok (.aload_n 0, 1) := by decide +kernel
theorem dX12_save_19 : decode cX12_save 19 = .ok (.getfield 35, 3) := by decide +kernel
theorem dX12_save_22 : decode cX12_save 22 = .ok (.aload_n 0, 1) := by decide +kernel
theorem dX12_save_23 : decode cX12_save 23 = .ok (.getfield 39, 3) := by decide +kernel
theorem dX12_save_26 : decode cX12_save 26 = .ok (.invokestatic 161, 3) := by decide +kernel
theorem dX12_save_29 : decode cX12_save 29 = .ok (.aload_n 0, 1) := by decide +kernel
theorem dX12_save_30 : decode cX12_save 30 = .ok (.iconst 1, 1) := by decide +kernel
theorem dX12_save_31 : decode cX12_save 31 = .ok (.putfield 165, 3) := by decide +kernel
theorem dX12_save_34 : decode cX12_save 34 = .ok (.aload_n 0, 1) := by decide +kernel
theorem dX12_save_35 : decode cX12_save 35 = .ok (.getfield 20, 3) := by decide +kernel
theorem dX12_save_38 : decode cX12_save 38 = .ok (.bipush 8, 2) := by decide +kernel
theorem dX12_save_40 : decode cX12_save 40 = .ok (.iaload, 1) := by decide +kernel
theorem dX12_save_41 : decode cX12_save 41 = .ok (.ireturn, 1) := by decide +kernel
theorem dX12_restore_0 : decode cX12_restore 0 = .ok (.aload_n 0, 1) := by decide +kernel
theorem dX12_restore_1 : decode cX12_restore 1 = .ok (.aload_n 0, 1) := by decide +kernel
theorem dX12_restore_2 : decode cX12_restore 2 = .ok (.getfield 165, 3) := by decide +kernel
theorem dX12_restore_5 : decode cX12_restore 5 = .ok (.invokevirtual 82, 3) := by decide +kernel
theorem dX12_restore_8 : decode cX12_restore 8 = .ok (.ifCond .ne 5, 3) := by decide +kernel
theorem dX12_restore_11 : decode cX12_restore 11 = .ok (.iconst 0, 1) := by decide +kernel
theorem dX12_restore_12 : decode cX12_restore 12 = .ok (.ireturn, 1) := by decide +kernel
theorem dX12_restore_13 : decode cX12_restore 13 = .ok (.aload_n 0, 1) := by decide +kernel
theorem dX12_restore_14 : decode cX12_restore 14 = .ok (.getfield 23, 3) := by decide +kernel
theorem dX12_restore_17 : decode cX12_restore 17 = .ok (.iconst 0, 1) := by decide +kernel
theorem dX12_restore_18 : decode cX12_restore 18 = .ok (.aload_n 0, 1) := by decide +kernel
theorem dX12_restore_19 : decode cX12_restore 19 = .ok (.getfield 20, 3) := by decide +kernel
theorem dX12_restore_22 : decode cX12_restore 22 = .ok (.iconst 0, 1) := by decide +kernel
theorem dX12_restore_23 : decode cX12_restore 23 = .ok (.invokestatic 151, 3) := by decide +kernel
theorem dX12_restore_26 : decode cX12_restore 26 = .ok (.aload_n 0, 1) := by decide +kernel
theorem dX12_restore_27 : decode cX12_restore 27 = .ok (.getfield 39, 3) := by decide +kernel
theorem dX12_restore_30 : decode cX12_restore 30 = .ok (.aload_n 0, 1) := by decide +kernel
theorem dX12_restore_31 : decode cX12_restore 31 = .ok (.getfield 35, 3) := by decide +kernel
theorem dX12_restore_34 : decode cX12_restore 34 = .ok (.invokestatic 161, 3) := by decide +kernel
theorem dX12_restore_37 : decode cX12_restore 37 = .ok (.aload_n 0, 1) := by decide +kernel
theorem dX12_restore_38 : decode cX12_restore 38 = .ok (.iconst 0, 1) := by decide +kernel
theorem dX12_restore_39 : decode cX12_restore 39 = .ok (.putfield 155, 3) := by decide +kernel
theorem dX12_restore_42 : decode cX12_restore 42 = .ok (.aload_n 0, 1) := by decide +kernel
theorem dX12_restore_43 : decode cX12_restore 43 = .ok (.getfield 20, 3) := by decide +kernel
theorem dX12_restore_46 : decode cX12_restore 46 = .ok (.bipush 8, 2) := by decide +kernel
theorem dX12_restore_48 : decode cX12_restore 48 = .ok (.iaload, 1) := by decide +kernel
theorem dX12_restore_49 : decode cX12_restore 49 = .ok (.ireturn, 1) := by decide +kernel
theorem dX12_ofArc_0 : decode cX12_ofArc 0 = .ok (.aload_n 0, 1) := by decide +kernel
theorem dX12_ofArc_1 : decode cX12_ofArc 1 = .ok (.getfield 20, 3) := by decide +kernel
theorem dX12_ofArc_4 : decode cX12_ofArc 4 = .ok (.bipush 12, 2) := by decide +kernel
theorem dX12_ofArc_6 : decode cX12_ofArc 6 = .ok (.iconst 4, 1) := by decide +kernel
theorem dX12_ofArc_7 : decode cX12_ofArc 7 = .ok (.iload_n 1, 1) := by decide +kernel
theorem dX12_ofArc_8 : decode cX12_ofArc 8 = .ok (.imul, 1) := by decide +kernel
theorem dX12_ofArc_9 : decode cX12_ofArc 9 = .ok (.iadd, 1) := by decide +kernel
theorem dX12_ofArc_10 : decode cX12_ofArc 10 = .ok (.iload_n 2, 1) := by decide +kernel
theorem dX12_ofArc_11 : decode cX12_ofArc 11 = .ok (.iadd, 1) := by decide +kernel
theorem dX12_ofArc_12 : decode cX12_ofArc 12 = .ok (.iaload, 1) := by decide +kernel
theorem dX12_ofArc_13 : decode cX12_ofArc 13 = .ok (.ireturn, 1) := by decide +kernel
theorem dX12_ofLetter_0 : decode cX12_ofLetter 0 = .ok (.aload_n 0, 1) := by decide +kernel
theorem dX12_ofLetter_1 : decode cX12_ofLetter 1 = .ok (.getfield 20, 3) := by decide +kernel
theorem dX12_ofLetter_4 : decode cX12_ofLetter 4 = .ok (.bipush 44, 2) := by decide +kernel
theorem dX12_ofLetter_6 : decode cX12_ofLetter 6 = .ok (.iconst 3, 1) := by decide +kernel
theorem dX12_ofLetter_7 : decode cX12_ofLetter 7 = .ok (.iload_n 1, 1) := by decide +kernel
theorem dX12_ofLetter_8 : decode cX12_ofLetter 8 = .ok (.imul, 1) := by decide +kernel
theorem dX12_ofLetter_9 : decode cX12_ofLetter 9 = .ok (.iadd, 1) := by decide +kernel
theorem dX12_ofLetter_10 : decode cX12_ofLetter 10 = .ok (.iload_n 2, 1) := by decide +kernel
theorem dX12_ofLetter_11 : decode cX12_ofLetter 11 = .ok (.iadd, 1) := by decide +kernel
theorem dX12_ofLetter_12 : decode cX12_ofLetter 12 = .ok (.iaload, 1) := by decide +kernel
theorem dX12_ofLetter_13 : decode cX12_ofLetter 13 = .ok (.ireturn, 1) := by decide +kernel
theorem dX12_setsLetter_0 : decode cX12_setsLetter 0 = .ok (.aload_n 0, 1) := by decide +kernel
theorem dX12_setsLetter_1 : decode cX12_setsLetter 1 = .ok (.getfield 20, 3) := by decide +kernel
theorem dX12_setsLetter_4 : decode cX12_setsLetter 4 = .ok (.bipush 44, 2) := by decide +kernel
theorem dX12_setsLetter_6 : decode cX12_setsLetter 6 = .ok (.iconst 3, 1) := by decide +kernel
theorem dX12_setsLetter_7 : decode cX12_setsLetter 7 = .ok (.iload_n 1, 1) := by decide +kernel
theorem dX12_setsLetter_8 : decode cX12_setsLetter 8 = .ok (.imul, 1) := by decide +kernel
theorem dX12_setsLetter_9 : decode cX12_setsLetter 9 = .ok (.iadd, 1) := by decide +kernel
theorem dX12_setsLetter_10 : decode cX12_setsLetter 10 = .ok (.iload_n 2, 1) := by decide +kernel
theorem dX12_setsLetter_11 : decode cX12_setsLetter 11 = .ok (.iadd, 1) := by decide +kernel
theorem dX12_setsLetter_12 : decode cX12_setsLetter 12 = .ok (.iload_n 3, 1) := by decide +kernel
theorem dX12_setsLetter_13 : decode cX12_setsLetter 13 = .ok (.iastore, 1) := by decide +kernel
theorem dX12_setsLetter_14 : decode cX12_setsLetter 14 = .ok (.return_, 1) := by decide +kernel
theorem dX12_ofKind_0 : decode cX12_ofKind 0 = .ok (.aload_n 0, 1) := by decide +kernel
theorem dX12_ofKind_1 : decode cX12_ofKind 1 = .ok (.getfield 20, 3) := by decide +kernel
theorem dX12_ofKind_4 : decode cX12_ofKind 4 = .ok (.sipush 130, 3) := by decide +kernel
theorem dX12_ofKind_7 : decode cX12_ofKind 7 = .ok (.iconst 3, 1) := by decide +kernel
theorem dX12_ofKind_8 : decode cX12_ofKind 8 = .ok (.iload_n 1, 1) := by decide +kernel
theorem dX12_ofKind_9 : decode cX12_ofKind 9 = .ok (.imul, 1) := by decide +kernel
theorem dX12_ofKind_10 : decode cX12_ofKind 10 = .ok (.iadd, 1) := by decide +kernel
theorem dX12_ofKind_11 : decode cX12_ofKind 11 = .ok (.iload_n 2, 1) := by decide +kernel
theorem dX12_ofKind_12 : decode cX12_ofKind 12 = .ok (.iadd, 1) := by decide +kernel
theorem dX12_ofKind_13 : decode cX12_ofKind 13 = .ok (.iaload, 1) := by decide +kernel
theorem dX12_ofKind_14 : decode cX12_ofKind 14 = .ok (.ireturn, 1) := by decide +kernel
theorem dX12_ofScratch_0 : decode cX12_ofScratch 0 = .ok (.aload_n 0, 1) := by decide +kernel
theorem dX12_ofScratch_1 : decode cX12_ofScratch 1 = .ok (.getfield 20, 3) := by decide +kernel
theorem dX12_ofScratch_4 : decode cX12_ofScratch 4 = .ok (.sipush 148, 3) := by decide +kernel
theorem dX12_ofScratch_7 : decode cX12_ofScratch 7 = .ok (.iconst 2, 1) := by decide +kernel
theorem dX12_ofScratch_8 : decode cX12_ofScratch 8 = .ok (.iload_n 1, 1) := by decide +kernel
theorem dX12_ofScratch_9 : decode cX12_ofScratch 9 = .ok (.imul, 1) := by decide +kernel
theorem dX12_ofScratch_10 : decode cX12_ofScratch 10 = .ok (.iadd, 1) := by decide +kernel
theorem dX12_ofScratch_11 : decode cX12_ofScratch 11 = .ok (.iload_n 2, 1) := by decide +kernel
theorem dX12_ofScratch_12 : decode cX12_ofScratch 12 = .ok (.iadd, 1) := by decide +kernel
theorem dX12_ofScratch_13 : decode cX12_ofScratch 13 = .ok (.iaload, 1) := by decide +kernel
theorem dX12_ofScratch_14 : decode cX12_ofScratch 14 = .ok (.ireturn, 1) := by decide +kernel
theorem dX12_lettersOf_0 : decode cX12_lettersOf 0 = .ok (.iconst 0, 1) := by decide +kernel
theorem dX12_lettersOf_1 : decode cX12_lettersOf 1 = .ok (.istore_n 2, 1) := by decide +kernel
theorem dX12_lettersOf_2 : decode cX12_lettersOf 2 = .ok (.lload_n 0, 1) := by decide +kernel
theorem dX12_lettersOf_3 : decode cX12_lettersOf 3 = .ok (.lstore_n 3, 1) := by decide +kernel
theorem dX12_lettersOf_4 : decode cX12_lettersOf 4 = .ok (.lload_n 3, 1) := by decide +kernel
theorem dX12_lettersOf_5 : decode cX12_lettersOf 5 = .ok (.lconst 0, 1) := by decide +kernel
theorem dX12_lettersOf_6 : decode cX12_lettersOf 6 = .ok (.lcmp, 1) := by decide +kernel
theorem dX12_lettersOf_7 : decode cX12_lettersOf 7 = .ok (.ifCond .le 13, 3) := by decide +kernel
theorem dX12_lettersOf_10 : decode cX12_lettersOf 10 = .ok (.iinc 2 1, 3) := by decide +kernel
theorem dX12_lettersOf_13 : decode cX12_lettersOf 13 = .ok (.lload_n 3, 1) := by decide +kernel
theorem dX12_lettersOf_14 : decode cX12_lettersOf 14 = .ok (.iconst 5, 1) := by decide +kernel
theorem dX12_lettersOf_15 : decode cX12_lettersOf 15 = .ok (.lshr, 1) := by decide +kernel
theorem dX12_lettersOf_16 : decode cX12_lettersOf 16 = .ok (.lstore_n 3, 1) := by decide +kernel
theorem dX12_lettersOf_17 : decode cX12_lettersOf 17 = .ok (.goto (-13), 3) := by decide +kernel
theorem dX12_lettersOf_20 : decode cX12_lettersOf 20 = .ok (.iload_n 2, 1) := by decide +kernel
theorem dX12_lettersOf_21 : decode cX12_lettersOf 21 = .ok (.ireturn, 1) := by decide +kernel
theorem dX12_letterOf_0 : decode cX12_letterOf 0 = .ok (.lload_n 0, 1) := by decide +kernel
theorem dX12_letterOf_1 : decode cX12_letterOf 1 = .ok (.invokestatic 169, 3) := by decide +kernel
theorem dX12_letterOf_4 : decode cX12_letterOf 4 = .ok (.istore_n 3, 1) := by decide +kernel
theorem dX12_letterOf_5 : decode cX12_letterOf 5 = .ok (.iload_n 2, 1) := by decide +kernel
theorem dX12_letterOf_6 : decode cX12_letterOf 6 = .ok (.i2l, 1) := by decide +kernel
theorem dX12_letterOf_7 : decode cX12_letterOf 7 = .ok (.lconst 0, 1) := by decide +kernel
theorem dX12_letterOf_8 : decode cX12_letterOf 8 = .ok (.iload_n 3, 1) := by decide +kernel
theorem dX12_letterOf_9 : decode cX12_letterOf 9 = .ok (.iconst 1, 1) := by decide +kernel
theorem dX12_letterOf_10 : decode cX12_letterOf 10 = .ok (.isub, 1) := by decide +kernel
theorem dX12_letterOf_11 : decode cX12_letterOf 11 = .ok (.i2l, 1) := by decide +kernel
theorem dX12_letterOf_12 : decode cX12_letterOf 12 = .ok (.invokestatic 90, 3) := by decide +kernel
theorem dX12_letterOf_15 : decode cX12_letterOf 15 = .ok (.ifCond .eq 23, 3) := by decide +kernel
theorem dX12_letterOf_18 : decode cX12_letterOf 18 = .ok (.lload_n 0, 1) := by decide +kernel
theorem dX12_letterOf_19 : decode cX12_letterOf 19 = .ok (.iconst 5, 1) := by decide +kernel
theorem dX12_letterOf_20 : decode cX12_letterOf 20 = .ok (.iload_n 3, 1) := by decide +kernel
theorem dX12_letterOf_21 : decode cX12_letterOf 21 = .ok (.iconst 1, 1) := by decide +kernel
theorem dX12_letterOf_22 : decode cX12_letterOf 22 = .ok (.isub, 1) := by decide +kernel
theorem dX12_letterOf_23 : decode cX12_letterOf 23 = .ok (.iload_n 2, 1) := by decide +kernel
theorem dX12_letterOf_24 : decode cX12_letterOf 24 = .ok (.isub, 1) := by decide +kernel
theorem dX12_letterOf_25 : decode cX12_letterOf 25 = .ok (.imul, 1) := by decide +kernel
theorem dX12_letterOf_26 : decode cX12_letterOf 26 = .ok (.lshr, 1) := by decide +kernel
theorem dX12_letterOf_27 : decode cX12_letterOf 27 = .ok (.ldc2_w 173, 3) := by decide +kernel
theorem dX12_letterOf_30 : decode cX12_letterOf 30 = .ok (.land, 1) := by decide +kernel
theorem dX12_letterOf_31 : decode cX12_letterOf 31 = .ok (.l2i, 1) := by decide +kernel
theorem dX12_letterOf_32 : decode cX12_letterOf 32 = .ok (.bipush 96, 2) := by decide +kernel
theorem dX12_letterOf_34 : decode cX12_letterOf 34 = .ok (.iadd, 1) := by decide +kernel
theorem dX12_letterOf_35 : decode cX12_letterOf 35 = .ok (.goto 4, 3) := by decide +kernel
theorem dX12_letterOf_38 : decode cX12_letterOf 38 = .ok (.iconst 0, 1) := by decide +kernel
theorem dX12_letterOf_39 : decode cX12_letterOf 39 = .ok (.ireturn, 1) := by decide +kernel
theorem dX12_mustBeWord_0 : decode cX12_mustBeWord 0 = .ok (.aload_n 0, 1) := by decide +kernel
theorem dX12_mustBeWord_1 : decode cX12_mustBeWord 1 = .ok (.invokevirtual 127, 3) := by decide +kernel
theorem dX12_mustBeWord_4 : decode cX12_mustBeWord 4 = .ok (.ifCond .eq 16, 3) := by decide +kernel
theorem dX12_mustBeWord_7 : decode cX12_mustBeWord 7 = .ok (.aload_n 0, 1) := by decide +kernel
theorem dX12_mustBeWord_8 : decode cX12_mustBeWord 8 = .ok (.getfield 114, 3) := by decide +kernel
theorem dX12_mustBeWord_11 : decode cX12_mustBeWord 11 = .ok (.iconst 1, 1) := by decide +kernel
theorem dX12_mustBeWord_12 : decode cX12_mustBeWord 12 = .ok (.if_icmp .eq 8, 3) := by decide +kernel
theorem dX12_mustBeWord_15 : decode cX12_mustBeWord 15 = .ok (.aload_n 0, 1) := by decide +kernel
theorem dX12_mustBeWord_16 : decode cX12_mustBeWord 16 = .ok (.iconst 1, 1) := by decide +kernel
theorem dX12_mustBeWord_17 : decode cX12_mustBeWord 17 = .ok (.invokevirtual 134, 3) := by decide +kernel
theorem dX12_mustBeWord_20 : decode cX12_mustBeWord 20 = .ok (.return_, 1) := by decide +kernel
theorem dX12_named_0 : decode cX12_named 0 = .ok (.iconst (-1), 1) := by decide +kernel
theorem dX12_named_1 : decode cX12_named 1 = .ok (.istore_n 1, 1) := by decide +kernel
theorem dX12_named_2 : decode cX12_named 2 = .ok (.iconst 0, 1) := by decide +kernel
theorem dX12_named_3 : decode cX12_named 3 = .ok (.istore_n 2, 1) := by decide +kernel
theorem dX12_named_4 : decode cX12_named 4 = .ok (.iload_n 2, 1) := by decide +kernel
theorem dX12_named_5 : decode cX12_named 5 = .ok (.aload_n 0, 1) := by decide +kernel
theorem dX12_named_6 : decode cX12_named 6 = .ok (.getfield 20, 3) := by decide +kernel
theorem dX12_named_9 : decode cX12_named 9 = .ok (.iconst 2, 1) := by decide +kernel
theorem dX12_named_10 : decode cX12_named 10 = .ok (.iaload, 1) := by decide +kernel
theorem dX12_named_11 : decode cX12_named 11 = .ok (.if_icmp .ge 29, 3) := by decide +kernel
theorem dX12_named_14 : decode cX12_named 14 = .ok (.aload_n 0, 1) := by decide +kernel
theorem dX12_named_15 : decode cX12_named 15 = .ok (.getfield 35, 3) := by decide +kernel
theorem dX12_named_18 : decode cX12_named 18 = .ok (.iload_n 2, 1) := by decide +kernel
theorem dX12_named_19 : decode cX12_named 19 = .ok (.laload, 1) := by decide +kernel
theorem dX12_named_20 : decode cX12_named 20 = .ok (.aload_n 0, 1) := by decide +kernel
theorem dX12_named_21 : decode cX12_named 21 = .ok (.getfield 107, 3) := by decide +kernel
theorem dX12_named_24 : decode cX12_named 24 = .ok (.lcmp, 1) := by decide +kernel
theorem dX12_named_25 : decode cX12_named 25 = .ok (.ifCond .ne 7, 3) := by decide +kernel
theorem dX12_named_28 : decode cX12_named 28 = .ok (.iload_n 2, 1) := by decide +kernel
theorem dX12_named_29 : decode cX12_named 29 = .ok (.goto 4, 3) := by decide +kernel
theorem dX12_named_32 : decode cX12_named 32 = .ok (.iload_n 1, 1) := by decide +kernel
theorem dX12_named_33 : decode cX12_named 33 = .ok (.istore_n 1, 1) := by decide +kernel
theorem dX12_named_34 : decode cX12_named 34 = .ok (.iinc 2 1, 3) := by decide +kernel
theorem dX12_named_37 : decode cX12_named 37 = .ok (.goto (-33), 3) := by decide +kernel
theorem dX12_named_40 : decode cX12_named 40 = .ok (.iload_n 1, 1) := by decide +kernel
theorem dX12_named_41 : decode cX12_named 41 = .ok (.ireturn, 1) := by decide +kernel
theorem dX12_readsOnce_0 : decode cX12_readsOnce 0 = .ok (.aload_n 0, 1) := by decide +kernel
theorem dX12_readsOnce_1 : decode cX12_readsOnce 1 = .ok (.getfield 175, 3) := by decide +kernel
theorem dX12_readsOnce_4 : decode cX12_readsOnce 4 = .ok (.iload_n 2, 1) := by decide +kernel
theorem dX12_readsOnce_5 : decode cX12_readsOnce 5 = .ok (.invokestatic 178, 3) := by decide +kernel
theorem dX12_readsOnce_8 : decode cX12_readsOnce 8 = .ok (.ifCond .eq 8, 3) := by decide +kernel
theorem dX12_readsOnce_11 : decode cX12_readsOnce 11 = .ok (.aload_n 0, 1) := by decide +kernel
theorem dX12_readsOnce_12 : decode cX12_readsOnce 12 = .ok (.iconst 3, 1) := by decide +kernel
theorem dX12_readsOnce_13 : decode cX12_readsOnce 13 = .ok (.invokevirtual 134, 3) := by decide +kernel
theorem dX12_readsOnce_16 : decode cX12_readsOnce 16 = .ok (.aload_n 0, 1) := by decide +kernel
theorem dX12_readsOnce_17 : decode cX12_readsOnce 17 = .ok (.dup, 1) := by decide +kernel
theorem dX12_readsOnce_18 : decode cX12_readsOnce 18 = .ok (.getfield 175, 3) := by decide +kernel
theorem dX12_readsOnce_21 : decode cX12_readsOnce 21 = .ok (.iconst 1, 1) := by decide +kernel
theorem dX12_readsOnce_22 : decode cX12_readsOnce 22 = .ok (.iload_n 2, 1) := by decide +kernel
theorem dX12_readsOnce_23 : decode cX12_readsOnce 23 = .ok (.ishl, 1) := by decide +kernel
theorem dX12_readsOnce_24 : decode cX12_readsOnce 24 = .ok (.ior, 1) := by decide +kernel
theorem dX12_readsOnce_25 : decode cX12_readsOnce 25 = .ok (.putfield 175, 3) := by decide +kernel
theorem dX12_readsOnce_28 : decode cX12_readsOnce 28 = .ok (.aload_n 0, 1) := by decide +kernel
theorem dX12_readsOnce_29 : decode cX12_readsOnce 29 = .ok (.invokevirtual 127, 3) := by decide +kernel
theorem dX12_readsOnce_32 : decode cX12_readsOnce 32 = .ok (.ifCond .eq 7, 3) := by decide +kernel
theorem dX12_readsOnce_35 : decode cX12_readsOnce 35 = .ok (.aload_n 0, 1) := by decide +kernel
theorem dX12_readsOnce_36 : decode cX12_readsOnce 36 = .ok (.invokevirtual 137, 3) := by decide +kernel
theorem dX12_readsOnce_39 : decode cX12_readsOnce 39 = .ok (.aload_n 0, 1) := by decide +kernel
theorem dX12_readsOnce_40 : decode cX12_readsOnce 40 = .ok (.iload_n 3, 1) := by decide +kernel
theorem dX12_readsOnce_41 : decode cX12_readsOnce 41 = .ok (.iload 4, 2) := by decide +kernel
theorem dX12_readsOnce_43 : decode cX12_readsOnce 43 = .ok (.invokevirtual 182, 3) := by decide +kernel
theorem dX12_readsOnce_46 : decode cX12_readsOnce 46 = .ok (.istore 5, 2) := by decide +kernel
theorem dX12_readsOnce_48 : decode cX12_readsOnce 48 = .ok (.aload_n 0, 1) := by decide +kernel
theorem dX12_readsOnce_49 : decode cX12_readsOnce 49 = .ok (.invokevirtual 127, 3) := by decide +kernel
theorem dX12_readsOnce_52 : decode cX12_readsOnce 52 = .ok (.ifCond .eq 11, 3) := by decide +kernel
theorem dX12_readsOnce_55 : decode cX12_readsOnce 55 = .ok (.aload_n 0, 1) := by decide +kernel
theorem dX12_readsOnce_56 : decode cX12_readsOnce 56 = .ok (.getfield 20, 3) := by decide +kernel
theorem dX12_readsOnce_59 : decode cX12_readsOnce 59 = .ok (.iload_n 1, 1) := by decide +kernel
theorem dX12_readsOnce_60 : decode cX12_readsOnce 60 = .ok (.iload 5, 2) := by decide +kernel
theorem dX12_readsOnce_62 : decode cX12_readsOnce 62 = .ok (.iastore, 1) := by decide +kernel
theorem dX12_readsOnce_63 : decode cX12_readsOnce 63 = .ok (.return_, 1) := by decide +kernel
theorem dX12_readsArc_0 : decode cX12_readsArc 0 = .ok (.aload_n 0, 1) := by decide +kernel
theorem dX12_readsArc_1 : decode cX12_readsArc 1 = .ok (.getfield 20, 3) := by decide +kernel
theorem dX12_readsArc_4 : decode cX12_readsArc 4 = .ok (.iconst 0, 1) := by decide +kernel
theorem dX12_readsArc_5 : decode cX12_readsArc 5 = .ok (.iaload, 1) := by decide +kernel
theorem dX12_readsArc_6 : decode cX12_readsArc 6 = .ok (.istore_n 1, 1) := by decide +kernel
theorem dX12_readsArc_7 : decode cX12_readsArc 7 = .ok (.iload_n 1, 1) := by decide +kernel
theorem dX12_readsArc_8 : decode cX12_readsArc 8 = .ok (.bipush 8, 2) := by decide +kernel
theorem dX12_readsArc_10 : decode cX12_readsArc 10 = .ok (.if_icmp .ne 8, 3) := by decide +kernel
theorem dX12_readsArc_13 : decode cX12_readsArc 13 = .ok (.aload_n 0, 1) := by decide +kernel
theorem dX12_readsArc_14 : decode cX12_readsArc 14 = .ok (.iconst 5, 1) := by decide +kernel
theorem dX12_readsArc_15 : decode cX12_readsArc 15 = .ok (.invokevirtual 134, 3) := by decide +kernel
theorem dX12_readsArc_18 : decode cX12_readsArc 18 = .ok (.aload_n 0, 1) := by decide +kernel
theorem dX12_readsArc_19 : decode cX12_readsArc 19 = .ok (.invokevirtual 127, 3) := by decide +kernel
theorem dX12_readsArc_22 : decode cX12_readsArc 22 = .ok (.ifCond .eq 7, 3) := by decide +kernel
theorem dX12_readsArc_25 : decode cX12_readsArc 25 = .ok (.aload_n 0, 1) := by decide +kernel
theorem dX12_readsArc_26 : decode cX12_readsArc 26 = .ok (.invokevirtual 137, 3) := by decide +kernel
theorem dX12_readsArc_29 : decode cX12_readsArc 29 = .ok (.aload_n 0, 1) := by decide +kernel
theorem dX12_readsArc_30 : decode cX12_readsArc 30 = .ok (.iconst 1, 1) := by decide +kernel
theorem dX12_readsArc_31 : decode cX12_readsArc 31 = .ok (.bipush 99, 2) := by decide +kernel
theorem dX12_readsArc_33 : decode cX12_readsArc 33 = .ok (.invokevirtual 182, 3) := by decide +kernel
theorem dX12_readsArc_36 : decode cX12_readsArc 36 = .ok (.istore_n 2, 1) := by decide +kernel
theorem dX12_readsArc_37 : decode cX12_readsArc 37 = .ok (.aload_n 0, 1) := by decide +kernel
theorem dX12_readsArc_38 : decode cX12_readsArc 38 = .ok (.iconst 1, 1) := by decide +kernel
theorem dX12_readsArc_39 : decode cX12_readsArc 39 = .ok (.sipush 180, 3) := by decide +kernel
theorem dX12_readsArc_42 : decode cX12_readsArc 42 = .ok (.invokevirtual 182, 3) := by decide +kernel
theorem dX12_readsArc_45 : decode cX12_readsArc 45 = .ok (.istore_n 3, 1) := by decide +kernel
theorem dX12_readsArc_46 : decode cX12_readsArc 46 = .ok (.aload_n 0, 1) := by decide +kernel
theorem dX12_readsArc_47 : decode cX12_readsArc 47 = .ok (.ldc2_w 185, 3) := by decide +kernel
theorem dX12_readsArc_50 : decode cX12_readsArc 50 = .ok (.invokevirtual 140, 3) := by decide +kernel
theorem dX12_readsArc_53 : decode cX12_readsArc 53 = .ok (.istore 4, 2) := by decide +kernel
theorem dX12_readsArc_55 : decode cX12_readsArc 55 = .ok (.iload 4, 2) := by decide +kernel
theorem dX12_readsArc_57 : decode cX12_readsArc 57 = .ok (.ifCond .eq 7, 3) := by decide +kernel
theorem dX12_readsArc_60 : decode cX12_readsArc 60 = .ok (.aload_n 0, 1) := by decide +kernel
theorem dX12_readsArc_61 : decode cX12_readsArc 61 = .ok (.invokevirtual 137, 3) := by decide +kernel
theorem dX12_readsArc_64 : decode cX12_readsArc 64 = .ok (.aload_n 0, 1) := by decide +kernel
theorem dX12_readsArc_65 : decode cX12_readsArc 65 = .ok (.ldc2_w 187, 3) := by decide +kernel
theorem dX12_readsArc_68 : decode cX12_readsArc 68 = .ok (.invokevirtual 140, 3) := by decide +kernel
theorem dX12_readsArc_71 : decode cX12_readsArc 71 = .ok (.istore 5, 2) := by decide +kernel
theorem dX12_readsArc_73 : decode cX12_readsArc 73 = .ok (.iload 5, 2) := by decide +kernel
theorem dX12_readsArc_75 : decode cX12_readsArc 75 = .ok (.ifCond .eq 7, 3) := by decide +kernel
theorem dX12_readsArc_78 : decode cX12_readsArc 78 = .ok (.aload_n 0, 1) := by decide +kernel
theorem dX12_readsArc_79 : decode cX12_readsArc 79 = .ok (.invokevirtual 137, 3) := by decide +kernel
theorem dX12_readsArc_82 : decode cX12_readsArc 82 = .ok (.iload 5, 2) := by decide +kernel
theorem dX12_readsArc_84 : decode cX12_readsArc 84 = .ok (.ifCond .eq 13, 3) := by decide +kernel
theorem dX12_readsArc_87 : decode cX12_readsArc 87 = .ok (.aload_n 0, 1) := by decide +kernel
theorem dX12_readsArc_88 : decode cX12_readsArc 88 = .ok (.iconst 0, 1) := by decide +kernel
theorem dX12_readsArc_89 : decode cX12_readsArc 89 = .ok (.bipush 99, 2) := by decide +kernel
theorem dX12_readsArc_91 : decode cX12_readsArc 91 = .ok (.invokevirtual 182, 3) := by decide +kernel
theorem dX12_readsArc_94 : decode cX12_readsArc 94 = .ok (.goto 5, 3) := by decide +kernel
theorem dX12_readsArc_97 : decode cX12_readsArc 97 = .ok (.bipush 30, 2) := by decide +kernel
theorem dX12_readsArc_99 : decode cX12_readsArc 99 = .ok (.istore 6, 2) := by decide +kernel
theorem dX12_readsArc_101 : decode cX12_readsArc 101 = .ok (.aload_n 0, 1) := by decide +kernel
theorem dX12_readsArc_102 : decode cX12_readsArc 102 = .ok (.invokevirtual 127, 3) := by decide +kernel
theorem dX12_readsArc_105 : decode cX12_readsArc 105 = .ok (.ifCond .ne 4, 3) := by decide +kernel
theorem dX12_readsArc_108 : decode cX12_readsArc 108 = .ok (.return_, 1) := by decide +kernel
theorem dX12_readsArc_109 : decode cX12_readsArc 109 = .ok (.aload_n 0, 1) := by decide +kernel
theorem dX12_readsArc_110 : decode cX12_readsArc 110 = .ok (.getfield 20, 3) := by decide +kernel
theorem dX12_readsArc_113 : decode cX12_readsArc 113 = .ok (.bipush 12, 2) := by decide +kernel
theorem dX12_readsArc_115 : decode cX12_readsArc 115 = .ok (.iconst 4, 1) := by decide +kernel
theorem dX12_readsArc_116 : decode cX12_readsArc 116 = .ok (.iload_n 1, 1) := by decide +kernel
theorem dX12_readsArc_117 : decode cX12_readsArc 117 = .ok (.imul, 1) := by decide +kernel
theorem dX12_readsArc_118 : decode cX12_readsArc 118 = .ok (.iadd, 1) := by decide +kernel
theorem dX12_readsArc_119 : decode cX12_readsArc 119 = .ok (.iconst 0, 1) := by decide +kernel
theorem dX12_readsArc_120 : decode cX12_readsArc 120 = .ok (.iadd, 1) := by decide +kernel
theorem dX12_readsArc_121 : decode cX12_readsArc 121 = .ok (.iload_n 2, 1) := by decide +kernel
theorem dX12_readsArc_122 : decode cX12_readsArc 122 = .ok (.iastore, 1) := by decide +kernel
theorem dX12_readsArc_123 : decode cX12_readsArc 123 = .ok (.aload_n 0, 1) := by decide +kernel
theorem dX12_readsArc_124 : decode cX12_readsArc 124 = .ok (.getfield 20, 3) := by decide +kernel
theorem dX12_readsArc_127 : decode cX12_readsArc 127 = .ok (.bipush 12, 2) := by decide +kernel
theorem dX12_readsArc_129 : decode cX12_readsArc 129 = .ok (.iconst 4, 1) := by decide +kernel
theorem dX12_readsArc_130 : decode cX12_readsArc 130 = .ok (.iload_n 1, 1) := by decide +kernel
theorem dX12_readsArc_131 : decode cX12_readsArc 131 = .ok (.imul, 1) := by decide +kernel
theorem dX12_readsArc_132 : decode cX12_readsArc 132 = .ok (.iadd, 1) := by decide +kernel
theorem dX12_readsArc_133 : decode cX12_readsArc 133 = .ok (.iconst 1, 1) := by decide +kernel
theorem dX12_readsArc_134 : decode cX12_readsArc 134 = .ok (.iadd, 1) := by decide +kernel
theorem dX12_readsArc_135 : decode cX12_readsArc 135 = .ok (.iload_n 3, 1) := by decide +kernel
theorem dX12_readsArc_136 : decode cX12_readsArc 136 = .ok (.iastore, 1) := by decide +kernel
theorem dX12_readsArc_137 : decode cX12_readsArc 137 = .ok (.aload_n 0, 1) := by decide +kernel
theorem dX12_readsArc_138 : decode cX12_readsArc 138 = .ok (.getfield 20, 3) := by decide +kernel
theorem dX12_readsArc_141 : decode cX12_readsArc 141 = .ok (.bipush 12, 2) := by decide +kernel
theorem dX12_readsArc_143 : decode cX12_readsArc 143 = .ok (.iconst 4, 1) := by decide +kernel
theorem dX12_readsArc_144 : decode cX12_readsArc 144 = .ok (.iload_n 1, 1) := by decide +kernel
theorem dX12_readsArc_145 : decode cX12_readsArc 145 = .ok (.imul, 1) := by decide +kernel
theorem dX12_readsArc_146 : decode cX12_readsArc 146 = .ok (.iadd, 1) := by decide +kernel
theorem dX12_readsArc_147 : decode cX12_readsArc 147 = .ok (.iconst 2, 1) := by decide +kernel
theorem dX12_readsArc_148 : decode cX12_readsArc 148 = .ok (.iadd, 1) := by decide +kernel
theorem dX12_readsArc_149 : decode cX12_readsArc 149 = .ok (.iload 4, 2) := by decide +kernel
theorem dX12_readsArc_151 : decode cX12_readsArc 151 = .ok (.invokestatic 75, 3) := by decide +kernel
theorem dX12_readsArc_154 : decode cX12_readsArc 154 = .ok (.iastore, 1) := by decide +kernel
theorem dX12_readsArc_155 : decode cX12_readsArc 155 = .ok (.aload_n 0, 1) := by decide +kernel
theorem dX12_readsArc_156 : decode cX12_readsArc 156 = .ok (.getfield 20, 3) := by decide +kernel
theorem dX12_readsArc_159 : decode cX12_readsArc 159 = .ok (.bipush 12, 2) := by decide +kernel
theorem dX12_readsArc_161 : decode cX12_readsArc 161 = .ok (.iconst 4, 1) := by decide +kernel
theorem dX12_readsArc_162 : decode cX12_readsArc 162 = .ok (.iload_n 1, 1) := by decide +kernel
theorem dX12_readsArc_163 : decode cX12_readsArc 163 = .ok (.imul, 1) := by decide +kernel
theorem dX12_readsArc_164 : decode cX12_readsArc 164 = .ok (.iadd, 1) := by decide +kernel
theorem dX12_readsArc_165 : decode cX12_readsArc 165 = .ok (.iconst 3, 1) := by decide +kernel
theorem dX12_readsArc_166 : decode cX12_readsArc 166 = .ok (.iadd, 1) := by decide +kernel
theorem dX12_readsArc_167 : decode cX12_readsArc 167 = .ok (.iload 6, 2) := by decide +kernel
theorem dX12_readsArc_169 : decode cX12_readsArc 169 = .ok (.iastore, 1) := by decide +kernel
theorem dX12_readsArc_170 : decode cX12_readsArc 170 = .ok (.aload_n 0, 1) := by decide +kernel
theorem dX12_readsArc_171 : decode cX12_readsArc 171 = .ok (.getfield 20, 3) := by decide +kernel
theorem dX12_readsArc_174 : decode cX12_readsArc 174 = .ok (.iconst 0, 1) := by decide +kernel
theorem dX12_readsArc_175 : decode cX12_readsArc 175 = .ok (.dup2, 1) := by decide +kernel
theorem dX12_readsArc_176 : decode cX12_readsArc 176 = .ok (.iaload, 1) := by decide +kernel
theorem dX12_readsArc_177 : decode cX12_readsArc 177 = .ok (.iconst 1, 1) := by decide +kernel
theorem dX12_readsArc_178 : decode cX12_readsArc 178 = .ok (.iadd, 1) := by decide +kernel
theorem dX12_readsArc_179 : decode cX12_readsArc 179 = .ok (.iastore, 1) := by decide +kernel
theorem dX12_readsArc_180 : decode cX12_readsArc 180 = .ok (.return_, 1) := by decide +kernel
theorem dX12_addsLetter_0 : decode cX12_addsLetter 0 = .ok (.aload_n 0, 1) := by decide +kernel
theorem dX12_addsLetter_1 : decode cX12_addsLetter 1 = .ok (.getfield 20, 3) := by decide +kernel
theorem dX12_addsLetter_4 : decode cX12_addsLetter 4 = .ok (.iconst 1, 1) := by decide +kernel
theorem dX12_addsLetter_5 : decode cX12_addsLetter 5 = .ok (.iaload, 1) := by decide +kernel
theorem dX12_addsLetter_6 : decode cX12_addsLetter 6 = .ok (.istore_n 2, 1) := by decide +kernel
theorem dX12_addsLetter_7 : decode cX12_addsLetter 7 = .ok (.aload_n 0, 1) := by decide +kernel
theorem dX12_addsLetter_8 : decode cX12_addsLetter 8 = .ok (.iload_n 2, 1) := by decide +kernel
theorem dX12_addsLetter_9 : decode cX12_addsLetter 9 = .ok (.iconst 0, 1) := by decide +kernel
theorem dX12_addsLetter_10 : decode cX12_addsLetter 10 = .ok (.iload_n 1, 1) := by decide +kernel
theorem dX12_addsLetter_11 : decode cX12_addsLetter 11 = .ok (.invokevirtual 189, 3) := by decide +kernel
theorem dX12_addsLetter_14 : decode cX12_addsLetter 14 = .ok (.aload_n 0, 1) := by decide +kernel
theorem dX12_addsLetter_15 : decode cX12_addsLetter 15 = .ok (.iload_n 2, 1) := by decide +kernel
theorem dX12_addsLetter_16 : decode cX12_addsLetter 16 = .ok (.iconst 1, 1) := by decide +kernel
theorem dX12_addsLetter_17 : decode cX12_addsLetter 17 = .ok (.iconst 0, 1) := by decide +kernel
theorem dX12_addsLetter_18 : decode cX12_addsLetter 18 = .ok (.invokevirtual 189, 3) := by decide +kernel
theorem dX12_addsLetter_21 : decode cX12_addsLetter 21 = .ok (.aload_n 0, 1) := by decide +kernel
theorem dX12_addsLetter_22 : decode cX12_addsLetter 22 = .ok (.iload_n 2, 1) := by decide +kernel
theorem dX12_addsLetter_23 : decode cX12_addsLetter 23 = .ok (.iconst 2, 1) := by decide +kernel
theorem dX12_addsLetter_24 : decode cX12_addsLetter 24 = .ok (.iconst 0, 1) := by decide +kernel
theorem dX12_addsLetter_25 : decode cX12_addsLetter 25 = .ok (.invokevirtual 189, 3) := by decide +kernel
theorem dX12_addsLetter_28 : decode cX12_addsLetter 28 = .ok (.aload_n 0, 1) := by decide +kernel
theorem dX12_addsLetter_29 : decode cX12_addsLetter 29 = .ok (.getfield 20, 3) := by decide +kernel
theorem dX12_addsLetter_32 : decode cX12_addsLetter 32 = .ok (.iconst 1, 1) := by decide +kernel
theorem dX12_addsLetter_33 : decode cX12_addsLetter 33 = .ok (.dup2, 1) := by decide +kernel
theorem dX12_addsLetter_34 : decode cX12_addsLetter 34 = .ok (.iaload, 1) := by decide +kernel
theorem dX12_addsLetter_35 : decode cX12_addsLetter 35 = .ok (.iconst 1, 1) := by decide +kernel
theorem dX12_addsLetter_36 : decode cX12_addsLetter 36 = .ok (.iadd, 1) := by decide +kernel
theorem dX12_addsLetter_37 : decode cX12_addsLetter 37 = .ok (.iastore, 1) := by decide +kernel
theorem dX12_addsLetter_38 : decode cX12_addsLetter 38 = .ok (.return_, 1) := by decide +kernel
theorem dX12_addsWord_0 : decode cX12_addsWord 0 = .ok (.iconst 0, 1) := by decide +kernel
theorem dX12_addsWord_1 : decode cX12_addsWord 1 = .ok (.istore_n 3, 1) := by decide +kernel
theorem dX12_addsWord_2 : decode cX12_addsWord 2 = .ok (.iload_n 3, 1) := by decide +kernel
theorem dX12_addsWord_3 : decode cX12_addsWord 3 = .ok (.lload_n 1, 1) := by decide +kernel
theorem dX12_addsWord_4 : decode cX12_addsWord 4 = .ok (.invokestatic 169, 3) := by decide +kernel
theorem dX12_addsWord_7 : decode cX12_addsWord 7 = .ok (.if_icmp .ge 21, 3) := by decide +kernel
theorem dX12_addsWord_10 : decode cX12_addsWord 10 = .ok (.aload_n 0, 1) := by decide +kernel
theorem dX12_addsWord_11 : decode cX12_addsWord 11 = .ok (.lload_n 1, 1) := by decide +kernel
theorem dX12_addsWord_12 : decode cX12_addsWord 12 = .ok (.iload_n 3, 1) := by decide +kernel
theorem dX12_addsWord_13 : decode cX12_addsWord 13 = .ok (.invokestatic 193, 3) := by decide +kernel
theorem dX12_addsWord_16 : decode cX12_addsWord 16 = .ok (.bipush 97, 2) := by decide +kernel
theorem dX12_addsWord_18 : decode cX12_addsWord 18 = .ok (.isub, 1) := by decide +kernel
theorem dX12_addsWord_19 : decode cX12_addsWord 19 = .ok (.invokevirtual 197, 3) := by decide +kernel
theorem dX12_addsWord_22 : decode cX12_addsWord 22 = .ok (.iinc 3 1, 3) := by decide +kernel
theorem dX12_addsWord_25 : decode cX12_addsWord 25 = .ok (.goto (-23), 3) := by decide +kernel
theorem dX12_addsWord_28 : decode cX12_addsWord 28 = .ok (.return_, 1) := by decide +kernel
theorem dX12_readsName_0 : decode cX12_readsName 0 = .ok (.aload_n 0, 1) := by decide +kernel
theorem dX12_readsName_1 : decode cX12_readsName 1 = .ok (.invokevirtual 137, 3) := by decide +kernel
theorem dX12_readsName_4 : decode cX12_readsName 4 = .ok (.aload_n 0, 1) := by decide +kernel
theorem dX12_readsName_5 : decode cX12_readsName 5 = .ok (.invokevirtual 200, 3) := by decide +kernel
theorem dX12_readsName_8 : decode cX12_readsName 8 = .ok (.aload_n 0, 1) := by decide +kernel
theorem dX12_readsName_9 : decode cX12_readsName 9 = .ok (.invokevirtual 127, 3) := by decide +kernel
theorem dX12_readsName_12 : decode cX12_readsName 12 = .ok (.ifCond .eq 27, 3) := by decide +kernel
theorem dX12_readsName_15 : decode cX12_readsName 15 = .ok (.aload_n 0, 1) := by decide +kernel
theorem dX12_readsName_16 : decode cX12_readsName 16 = .ok (.getfield 20, 3) := by decide +kernel
theorem dX12_readsName_19 : decode cX12_readsName 19 = .ok (.iconst 1, 1) := by decide +kernel
theorem dX12_readsName_20 : decode cX12_readsName 20 = .ok (.iaload, 1) := by decide +kernel
theorem dX12_readsName_21 : decode cX12_readsName 21 = .ok (.aload_n 0, 1) := by decide +kernel
theorem dX12_readsName_22 : decode cX12_readsName 22 = .ok (.getfield 107, 3) := by decide +kernel
theorem dX12_readsName_25 : decode cX12_readsName 25 = .ok (.invokestatic 169, 3) := by decide +kernel
theorem dX12_readsName_28 : decode cX12_readsName 28 = .ok (.iadd, 1) := by decide +kernel
theorem dX12_readsName_29 : decode cX12_readsName 29 = .ok (.bipush 20, 2) := by decide +kernel
theorem dX12_readsName_31 : decode cX12_readsName 31 = .ok (.if_icmp .le 8, 3) := by decide +kernel
theorem dX12_readsName_34 : decode cX12_readsName 34 = .ok (.aload_n 0, 1) := by decide +kernel
theorem dX12_readsName_35 : decode cX12_readsName 35 = .ok (.iconst 5, 1) := by decide +kernel
theorem dX12_readsName_36 : decode cX12_readsName 36 = .ok (.invokevirtual 134, 3) := by decide +kernel
theorem dX12_readsName_39 : decode cX12_readsName 39 = .ok (.aload_n 0, 1) := by decide +kernel
theorem dX12_readsName_40 : decode cX12_readsName 40 = .ok (.invokevirtual 127, 3) := by decide +kernel
theorem dX12_readsName_43 : decode cX12_readsName 43 = .ok (.ifCond .ne 4, 3) := by decide +kernel
theorem dX12_readsName_46 : decode cX12_readsName 46 = .ok (.return_, 1) := by decide +kernel
theorem dX12_readsName_47 : decode cX12_readsName 47 = .ok (.aload_n 0, 1) := by decide +kernel
theorem dX12_readsName_48 : decode cX12_readsName 48 = .ok (.aload_n 0, 1) := by decide +kernel
theorem dX12_readsName_49 : decode cX12_readsName 49 = .ok (.getfield 107, 3) := by decide +kernel
theorem dX12_readsName_52 : decode cX12_readsName 52 = .ok (.invokevirtual 203, 3) := by decide +kernel
theorem dX12_readsName_55 : decode cX12_readsName 55 = .ok (.aload_n 0, 1) := by decide +kernel
theorem dX12_readsName_56 : decode cX12_readsName 56 = .ok (.invokevirtual 137, 3) := by decide +kernel
theorem dX12_readsName_59 : decode cX12_readsName 59 = .ok (.return_, 1) := by decide +kernel
theorem dX12_readsWide_0 : decode cX12_readsWide 0 = .ok (.aload_n 0, 1) := by decide +kernel
theorem dX12_readsWide_1 : decode cX12_readsWide 1 = .ok (.invokevirtual 137, 3) := by decide +kernel
theorem dX12_readsWide_4 : decode cX12_readsWide 4 = .ok (.aload_n 0, 1) := by decide +kernel
theorem dX12_readsWide_5 : decode cX12_readsWide 5 = .ok (.invokevirtual 200, 3) := by decide +kernel
theorem dX12_readsWide_8 : decode cX12_readsWide 8 = .ok (.aload_n 0, 1) := by decide +kernel
theorem dX12_readsWide_9 : decode cX12_readsWide 9 = .ok (.getfield 107, 3) := by decide +kernel
theorem dX12_readsWide_12 : decode cX12_readsWide 12 = .ok (.lstore_n 1, 1) := by decide +kernel
theorem dX12_readsWide_13 : decode cX12_readsWide 13 = .ok (.aload_n 0, 1) := by decide +kernel
theorem dX12_readsWide_14 : decode cX12_readsWide 14 = .ok (.invokevirtual 127, 3) := by decide +kernel
theorem dX12_readsWide_17 : decode cX12_readsWide 17 = .ok (.ifCond .eq 7, 3) := by decide +kernel
theorem dX12_readsWide_20 : decode cX12_readsWide 20 = .ok (.aload_n 0, 1) := by decide +kernel
theorem dX12_readsWide_21 : decode cX12_readsWide 21 = .ok (.invokevirtual 137, 3) := by decide +kernel
theorem dX12_readsWide_24 : decode cX12_readsWide 24 = .ok (.aload_n 0, 1) := by decide +kernel
theorem dX12_readsWide_25 : decode cX12_readsWide 25 = .ok (.iconst 1, 1) := by decide +kernel
theorem dX12_readsWide_26 : decode cX12_readsWide 26 = .ok (.bipush 99, 2) := by decide +kernel
theorem dX12_readsWide_28 : decode cX12_readsWide 28 = .ok (.invokevirtual 182, 3) := by decide +kernel
theorem dX12_readsWide_31 : decode cX12_readsWide 31 = .ok (.istore_n 3, 1) := by decide +kernel
theorem dX12_readsWide_32 : decode cX12_readsWide 32 = .ok (.aload_n 0, 1) := by decide +kernel
theorem dX12_readsWide_33 : decode cX12_readsWide 33 = .ok (.invokevirtual 127, 3) := by decide +kernel
theorem dX12_readsWide_36 : decode cX12_readsWide 36 = .ok (.ifCond .ne 4, 3) := by decide +kernel
theorem dX12_readsWide_39 : decode cX12_readsWide 39 = .ok (.return_, 1) := by decide +kernel
theorem dX12_readsWide_40 : decode cX12_readsWide 40 = .ok (.iconst 0, 1) := by decide +kernel
theorem dX12_readsWide_41 : decode cX12_readsWide 41 = .ok (.istore 4, 2) := by decide +kernel
theorem dX12_readsWide_43 : decode cX12_readsWide 43 = .ok (.iload 4, 2) := by decide +kernel
theorem dX12_readsWide_45 : decode cX12_readsWide 45 = .ok (.lload_n 1, 1) := by decide +kernel
theorem dX12_readsWide_46 : decode cX12_readsWide 46 = .ok (.invokestatic 169, 3) := by decide +kernel
theorem dX12_readsWide_49 : decode cX12_readsWide 49 = .ok (.if_icmp .ge 27, 3) := by decide +kernel
theorem dX12_readsWide_52 : decode cX12_readsWide 52 = .ok (.aload_n 0, 1) := by decide +kernel
theorem dX12_readsWide_53 : decode cX12_readsWide 53 = .ok (.getfield 20, 3) := by decide +kernel
theorem dX12_readsWide_56 : decode cX12_readsWide 56 = .ok (.bipush 104, 2) := by decide +kernel
theorem dX12_readsWide_58 : decode cX12_readsWide 58 = .ok (.lload_n 1, 1) := by decide +kernel
theorem dX12_readsWide_59 : decode cX12_readsWide 59 = .ok (.iload 4, 2) := by decide +kernel
theorem dX12_readsWide_61 : decode cX12_readsWide 61 = .ok (.invokestatic 193, 3) := by decide +kernel
theorem dX12_readsWide_64 : decode cX12_readsWide 64 = .ok (.iadd, 1) := by decide +kernel
theorem dX12_readsWide_65 : decode cX12_readsWide 65 = .ok (.bipush 97, 2) := by decide +kernel
theorem dX12_readsWide_67 : decode cX12_readsWide 67 = .ok (.isub, 1) := by decide +kernel
theorem dX12_readsWide_68 : decode cX12_readsWide 68 = .ok (.iload_n 3, 1) := by decide +kernel
theorem dX12_readsWide_69 : decode cX12_readsWide 69 = .ok (.iastore, 1) := by decide +kernel
theorem dX12_readsWide_70 : decode cX12_readsWide 70 = .ok (.iinc 4 1, 3) := by decide +kernel
theorem dX12_readsWide_73 : decode cX12_readsWide 73 = .ok (.goto (-30), 3) := by decide +kernel
theorem dX12_readsWide_76 : decode cX12_readsWide 76 = .ok (.return_, 1) := by decide +kernel
theorem dX12_readsFlourish_0 : decode cX12_readsFlourish 0 = .ok (.aload_n 0, 1) := by decide +kernel
theorem dX12_readsFlourish_1 : decode cX12_readsFlourish 1 = .ok (.getfield 20, 3) := by decide +kernel
theorem dX12_readsFlourish_4 : decode cX12_readsFlourish 4 = .ok (.iconst 2, 1) := by decide +kernel
theorem dX12_readsFlourish_5 : decode cX12_readsFlourish 5 = .ok (.iaload, 1) := by decide +kernel
theorem dX12_readsFlourish_6 : decode cX12_readsFlourish 6 = .ok (.istore_n 1, 1) := by decide +kernel
theorem dX12_readsFlourish_7 : decode cX12_readsFlourish 7 = .ok (.iload_n 1, 1) := by decide +kernel
theorem dX12_readsFlourish_8 : decode cX12_readsFlourish 8 = .ok (.bipush 6, 2) := by decide +kernel
theorem dX12_readsFlourish_10 : decode cX12_readsFlourish 10 = .ok (.if_icmp .ne 8, 3) := by decide +kernel
theorem dX12_readsFlourish_13 : decode cX12_readsFlourish 13 = .ok (.aload_n 0, 1) := by decide +kernel
theorem dX12_readsFlourish_14 : decode cX12_readsFlourish 14 = .ok (.iconst 5, 1) := by decide +kernel
theorem dX12_readsFlourish_15 : decode cX12_readsFlourish 15 = .ok (.invokevirtual 134, 3) := by decide +kernel
theorem dX12_readsFlourish_18 : decode cX12_readsFlourish 18 = .ok (.aload_n 0, 1) := by decide +kernel
theorem dX12_readsFlourish_19 : decode cX12_readsFlourish 19 = .ok (.invokevirtual 127, 3) := by decide +kernel
theorem dX12_readsFlourish_22 : decode cX12_readsFlourish 22 = .ok (.ifCond .eq 7, 3) := by decide +kernel
theorem dX12_readsFlourish_25 : decode cX12_readsFlourish 25 = .ok (.aload_n 0, 1) := by decide +kernel
theorem dX12_readsFlourish_26 : decode cX12_readsFlourish 26 = .ok (.invokevirtual 137, 3) := by decide +kernel
theorem dX12_readsFlourish_29 : decode cX12_readsFlourish 29 = .ok (.aload_n 0, 1) := by decide +kernel
theorem dX12_readsFlourish_30 : decode cX12_readsFlourish 30 = .ok (.invokevirtual 200, 3) := by decide +kernel
theorem dX12_readsFlourish_33 : decode cX12_readsFlourish 33 = .ok (.aload_n 0, 1) := by decide +kernel
theorem dX12_readsFlourish_34 : decode cX12_readsFlourish 34 = .ok (.invokevirtual 127, 3) := by decide +kernel
theorem dX12_readsFlourish_37 : decode cX12_readsFlourish 37 = .ok (.ifCond .eq 16, 3) := by decide +kernel
theorem dX12_readsFlourish_40 : decode cX12_readsFlourish 40 = .ok (.aload_n 0, 1) := by decide +kernel
theorem dX12_readsFlourish_41 : decode cX12_readsFlourish 41 = .ok (.invokevirtual 207, 3) := by decide +kernel
theorem dX12_readsFlourish_44 : decode cX12_readsFlourish 44 = .ok (.iconst (-1), 1) := by decide +kernel
theorem dX12_readsFlourish_45 : decode cX12_readsFlourish 45 = .ok (.if_icmp .eq 8, 3) := by decide +kernel
theorem dX12_readsFlourish_48 : decode cX12_readsFlourish 48 = .ok (.aload_n 0, 1) := by decide +kernel
theorem dX12_readsFlourish_49 : decode cX12_readsFlourish 49 = .ok (.iconst 3, 1) := by decide +kernel
theorem dX12_readsFlourish_50 : decode cX12_readsFlourish 50 = .ok (.invokevirtual 134, 3) := by decide +kernel
theorem dX12_readsFlourish_53 : decode cX12_readsFlourish 53 = .ok (.aload_n 0, 1) := by decide +kernel
theorem dX12_readsFlourish_54 : decode cX12_readsFlourish 54 = .ok (.invokevirtual 127, 3) := by decide +kernel
theorem dX12_readsFlourish_57 : decode cX12_readsFlourish 57 = .ok (.ifCond .ne 4, 3) := by decide +kernel
theorem dX12_readsFlourish_60 : decode cX12_readsFlourish 60 = .ok (.return_, 1) := by decide +kernel
theorem dX12_readsFlourish_61 : decode cX12_readsFlourish 61 = .ok (.aload_n 0, 1) := by decide +kernel
theorem dX12_readsFlourish_62 : decode cX12_readsFlourish 62 = .ok (.getfield 35, 3) := by decide +kernel
theorem dX12_readsFlourish_65 : decode cX12_readsFlourish 65 = .ok (.iload_n 1, 1) := by decide +kernel
theorem dX12_readsFlourish_66 : decode cX12_readsFlourish 66 = .ok (.aload_n 0, 1) := by decide +kernel
theorem dX12_readsFlourish_67 : decode cX12_readsFlourish 67 = .ok (.getfield 107, 3) := by decide +kernel
theorem dX12_readsFlourish_70 : decode cX12_readsFlourish 70 = .ok (.lastore, 1) := by decide +kernel
theorem dX12_readsFlourish_71 : decode cX12_readsFlourish 71 = .ok (.aload_n 0, 1) := by decide +kernel
theorem dX12_readsFlourish_72 : decode cX12_readsFlourish 72 = .ok (.invokevirtual 137, 3) := by decide +kernel
theorem dX12_readsFlourish_75 : decode cX12_readsFlourish 75 = .ok (.aload_n 0, 1) := by decide +kernel
theorem dX12_readsFlourish_76 : decode cX12_readsFlourish 76 = .ok (.getfield 20, 3) := by decide +kernel
theorem dX12_readsFlourish_79 : decode cX12_readsFlourish 79 = .ok (.sipush 130, 3) := by decide +kernel
theorem dX12_readsFlourish_82 : decode cX12_readsFlourish 82 = .ok (.iconst 3, 1) := by decide +kernel
theorem dX12_readsFlourish_83 : decode cX12_readsFlourish 83 = .ok (.iload_n 1, 1) := by decide +kernel
theorem dX12_readsFlourish_84 : decode cX12_readsFlourish 84 = .ok (.imul, 1) := by decide +kernel
theorem dX12_readsFlourish_85 : decode cX12_readsFlourish 85 = .ok (.iadd, 1) := by decide +kernel
theorem dX12_readsFlourish_86 : decode cX12_readsFlourish 86 = .ok (.iconst 0, 1) := by decide +kernel
theorem dX12_readsFlourish_87 : decode cX12_readsFlourish 87 = .ok (.iadd, 1) := by decide +kernel
theorem dX12_readsFlourish_88 : decode cX12_readsFlourish 88 = .ok (.aload_n 0, 1) := by decide +kernel
theorem dX12_readsFlourish_89 : decode cX12_readsFlourish 89 = .ok (.iconst 1, 1) := by decide +kernel
theorem dX12_readsFlourish_90 : decode cX12_readsFlourish 90 = .ok (.bipush 99, 2) := by decide +kernel
theorem dX12_readsFlourish_92 : decode cX12_readsFlourish 92 = .ok (.invokevirtual 182, 3) := by decide +kernel
theorem dX12_readsFlourish_95 : decode cX12_readsFlourish 95 = .ok (.iastore, 1) := by decide +kernel
theorem dX12_readsFlourish_96 : decode cX12_readsFlourish 96 = .ok (.aload_n 0, 1) := by decide +kernel
theorem dX12_readsFlourish_97 : decode cX12_readsFlourish 97 = .ok (.getfield 20, 3) := by decide +kernel
theorem dX12_readsFlourish_100 : decode cX12_readsFlourish 100 = .ok (.sipush 130, 3) := by decide +kernel
theorem dX12_readsFlourish_103 : decode cX12_readsFlourish 103 = .ok (.iconst 3, 1) := by decide +kernel
theorem dX12_readsFlourish_104 : decode cX12_readsFlourish 104 = .ok (.iload_n 1, 1) := by decide +kernel
theorem dX12_readsFlourish_105 : decode cX12_readsFlourish 105 = .ok (.imul, 1) := by decide +kernel
theorem dX12_readsFlourish_106 : decode cX12_readsFlourish 106 = .ok (.iadd, 1) := by decide +kernel
theorem dX12_readsFlourish_107 : decode cX12_readsFlourish 107 = .ok (.iconst 1, 1) := by decide +kernel
theorem dX12_readsFlourish_108 : decode cX12_readsFlourish 108 = .ok (.iadd, 1) := by decide +kernel
theorem dX12_readsFlourish_109 : decode cX12_readsFlourish 109 = .ok (.aload_n 0, 1) := by decide +kernel
theorem dX12_readsFlourish_110 : decode cX12_readsFlourish 110 = .ok (.iconst 1, 1) := by decide +kernel
theorem dX12_readsFlourish_111 : decode cX12_readsFlourish 111 = .ok (.bipush 99, 2) := by decide +kernel
theorem dX12_readsFlourish_113 : decode cX12_readsFlourish 113 = .ok (.invokevirtual 182, 3) := by decide +kernel
theorem dX12_readsFlourish_116 : decode cX12_readsFlourish 116 = .ok (.iastore, 1) := by decide +kernel
theorem dX12_readsFlourish_117 : decode cX12_readsFlourish 117 = .ok (.aload_n 0, 1) := by decide +kernel
theorem dX12_readsFlourish_118 : decode cX12_readsFlourish 118 = .ok (.getfield 20, 3) := by decide +kernel
theorem dX12_readsFlourish_121 : decode cX12_readsFlourish 121 = .ok (.sipush 130, 3) := by decide +kernel
theorem dX12_readsFlourish_124 : decode cX12_readsFlourish 124 = .ok (.iconst 3, 1) := by decide +kernel
theorem dX12_readsFlourish_125 : decode cX12_readsFlourish 125 = .ok (.iload_n 1, 1) := by decide +kernel
theorem dX12_readsFlourish_126 : decode cX12_readsFlourish 126 = .ok (.imul, 1) := by decide +kernel
theorem dX12_readsFlourish_127 : decode cX12_readsFlourish 127 = .ok (.iadd, 1) := by decide +kernel
theorem dX12_readsFlourish_128 : decode cX12_readsFlourish 128 = .ok (.iconst 2, 1) := by decide +kernel
theorem dX12_readsFlourish_129 : decode cX12_readsFlourish 129 = .ok (.iadd, 1) := by decide +kernel
theorem dX12_readsFlourish_130 : decode cX12_readsFlourish 130 = .ok (.aload_n 0, 1) := by decide +kernel
theorem dX12_readsFlourish_131 : decode cX12_readsFlourish 131 = .ok (.iconst 1, 1) := by decide +kernel
theorem dX12_readsFlourish_132 : decode cX12_readsFlourish 132 = .ok (.bipush 9, 2) := by decide +kernel
theorem dX12_readsFlourish_134 : decode cX12_readsFlourish 134 = .ok (.invokevirtual 182, 3) := by decide +kernel
theorem dX12_readsFlourish_137 : decode cX12_readsFlourish 137 = .ok (.iastore, 1) := by decide +kernel
theorem dX12_readsFlourish_138 : decode cX12_readsFlourish 138 = .ok (.aload_n 0, 1) := by decide +kernel
theorem dX12_readsFlourish_139 : decode cX12_readsFlourish 139 = .ok (.invokevirtual 127, 3) := by decide +kernel
theorem dX12_readsFlourish_142 : decode cX12_readsFlourish 142 = .ok (.ifCond .eq 13, 3) := by decide +kernel
theorem dX12_readsFlourish_145 : decode cX12_readsFlourish 145 = .ok (.aload_n 0, 1) := by decide +kernel
theorem dX12_readsFlourish_146 : decode cX12_readsFlourish 146 = .ok (.getfield 20, 3) := by decide +kernel
theorem dX12_readsFlourish_149 : decode cX12_readsFlourish 149 = .ok (.iconst 2, 1) := by decide +kernel
theorem dX12_readsFlourish_150 : decode cX12_readsFlourish 150 = .ok (.dup2, 1) := by decide +kernel
theorem dX12_readsFlourish_151 : decode cX12_readsFlourish 151 = .ok (.iaload, 1) := by decide +kernel
theorem dX12_readsFlourish_152 : decode cX12_readsFlourish 152 = .ok (.iconst 1, 1) := by decide +kernel
theorem dX12_readsFlourish_153 : decode cX12_readsFlourish 153 = .ok (.iadd, 1) := by decide +kernel
theorem dX12_readsFlourish_154 : decode cX12_readsFlourish 154 = .ok (.iastore, 1) := by decide +kernel
theorem dX12_readsFlourish_155 : decode cX12_readsFlourish 155 = .ok (.return_, 1) := by decide +kernel
theorem dX12_statement_0 : decode cX12_statement 0 = .ok (.aload_n 0, 1) := by decide +kernel
theorem dX12_statement_1 : decode cX12_statement 1 = .ok (.ldc2_w 211, 3) := by decide +kernel
theorem dX12_statement_4 : decode cX12_statement 4 = .ok (.invokevirtual 140, 3) := by decide +kernel
theorem dX12_statement_7 : decode cX12_statement 7 = .ok (.ifCond .eq 10, 3) := by decide +kernel
theorem dX12_statement_10 : decode cX12_statement 10 = .ok (.aload_n 0, 1) := by decide +kernel
theorem dX12_statement_11 : decode cX12_statement 11 = .ok (.invokevirtual 213, 3) := by decide +kernel
theorem dX12_statement_14 : decode cX12_statement 14 = .ok (.goto 126, 3) := by decide +kernel
theorem dX12_statement_17 : decode cX12_statement 17 = .ok (.aload_n 0, 1) := by decide +kernel
theorem dX12_statement_18 : decode cX12_statement 18 = .ok (.ldc2_w 216, 3) := by decide +kernel
theorem dX12_statement_21 : decode cX12_statement 21 = .ok (.invokevirtual 140, 3) := by decide +kernel
theorem dX12_statement_24 : decode cX12_statement 24 = .ok (.ifCond .eq 10, 3) := by decide +kernel
theorem dX12_statement_27 : decode cX12_statement 27 = .ok (.aload_n 0, 1) := by decide +kernel
theorem dX12_statement_28 : decode cX12_statement 28 = .ok (.invokevirtual 218, 3) := by decide +kernel
theorem dX12_statement_31 : decode cX12_statement 31 = .ok (.goto 109, 3) := by decide +kernel
theorem dX12_statement_34 : decode cX12_statement 34 = .ok (.aload_n 0, 1) := by decide +kernel
theorem dX12_statement_35 : decode cX12_statement 35 = .ok (.ldc2_w 221, 3) := by decide +kernel
theorem dX12_statement_38 : decode cX12_statement 38 = .ok (.invokevirtual 140, 3) := by decide +kernel
theorem dX12_statement_41 : decode cX12_statement 41 = .ok (.ifCond .eq 10, 3) := by decide +kernel
theorem dX12_statement_44 : decode cX12_statement 44 = .ok (.aload_n 0, 1) := by decide +kernel
theorem dX12_statement_45 : decode cX12_statement 45 = .ok (.invokevirtual 223, 3) := by decide +kernel
theorem dX12_statement_48 : decode cX12_statement 48 = .ok (.goto 92, 3) := by decide +kernel
theorem dX12_statement_51 : decode cX12_statement 51 = .ok (.aload_n 0, 1) := by decide +kernel
theorem dX12_statement_52 : decode cX12_statement 52 = .ok (.ldc2_w 226, 3) := by decide +kernel
theorem dX12_statement_55 : decode cX12_statement 55 = .ok (.invokevirtual 140, 3) := by decide +kernel
theorem dX12_statement_58 : decode cX12_statement 58 = .ok (.ifCond .eq 10, 3) := by decide +kernel
theorem dX12_statement_61 : decode cX12_statement 61 = .ok (.aload_n 0, 1) := by decide +kernel
theorem dX12_statement_62 : decode cX12_statement 62 = .ok (.invokevirtual 228, 3) := by decide +kernel
theorem dX12_statement_65 : decode cX12_statement 65 = .ok (.goto 75, 3) := by decide +kernel
theorem dX12_statement_68 : decode cX12_statement 68 = .ok (.aload_n 0, 1) := by decide +kernel
theorem dX12_statement_69 : decode cX12_statement 69 = .ok (.ldc2_w 231, 3) := by decide +kernel
theorem dX12_statement_72 : decode cX12_statement 72 = .ok (.invokevirtual 140, 3) := by decide +kernel
theorem dX12_statement_75 : decode cX12_statement 75 = .ok (.ifCond .eq 16, 3) := by decide +kernel
theorem dX12_statement_78 : decode cX12_statement 78 = .ok (.aload_n 0, 1) := by decide +kernel
theorem dX12_statement_79 : decode cX12_statement 79 = .ok (.iconst 5, 1) := by decide +kernel
theorem dX12_statement_80 : decode cX12_statement 80 = .ok (.iconst 0, 1) := by decide +kernel
theorem dX12_statement_81 : decode cX12_statement 81 = .ok (.iconst 0, 1) := by decide +kernel
theorem dX12_statement_82 : decode cX12_statement 82 = .ok (.sipush 999, 3) := by decide +kernel
theorem dX12_statement_85 : decode cX12_statement 85 = .ok (.invokevirtual 233, 3) := by decide +kernel
theorem dX12_statement_88 : decode cX12_statement 88 = .ok (.goto 52, 3) := by decide +kernel
theorem dX12_statement_91 : decode cX12_statement 91 = .ok (.aload_n 0, 1) := by decide +kernel
theorem dX12_statement_92 : decode cX12_statement 92 = .ok (.ldc2_w 237, 3) := by decide +kernel
theorem dX12_statement_95 : decode cX12_statement 95 = .ok (.invokevirtual 140, 3) := by decide +kernel
theorem dX12_statement_98 : decode cX12_statement 98 = .ok (.ifCond .eq 15, 3) := by decide +kernel
theorem dX12_statement_101 : decode cX12_statement 101 = .ok (.aload_n 0, 1) := by decide +kernel
theorem dX12_statement_102 : decode cX12_statement 102 = .ok (.iconst 3, 1) := by decide +kernel
theorem dX12_statement_103 : decode cX12_statement 103 = .ok (.iconst 1, 1) := by decide +kernel
theorem dX12_statement_104 : decode cX12_statement 104 = .ok (.iconst 1, 1) := by decide +kernel
theorem dX12_statement_105 : decode cX12_statement 105 = .ok (.bipush 99, 2) := by decide +kernel
theorem dX12_statement_107 : decode cX12_statement 107 = .ok (.invokevirtual 233, 3) := by decide +kernel
theorem dX12_statement_110 : decode cX12_statement 110 = .ok (.goto 30, 3) := by decide +kernel
theorem dX12_statement_113 : decode cX12_statement 113 = .ok (.aload_n 0, 1) := by decide +kernel
theorem dX12_statement_114 : decode cX12_statement 114 = .ok (.ldc2_w 239, 3) := by decide +kernel
theorem dX12_statement_117 : decode cX12_statement 117 = .ok (.invokevirtual 140, 3) := by decide +kernel
theorem dX12_statement_120 : decode cX12_statement 120 = .ok (.ifCond .eq 15, 3) := by decide +kernel
theorem dX12_statement_123 : decode cX12_statement 123 = .ok (.aload_n 0, 1) := by decide +kernel
theorem dX12_statement_124 : decode cX12_statement 124 = .ok (.iconst 4, 1) := by decide +kernel
theorem dX12_statement_125 : decode cX12_statement 125 = .ok (.iconst 2, 1) := by decide +kernel
theorem dX12_statement_126 : decode cX12_statement 126 = .ok (.iconst 0, 1) := by decide +kernel
theorem dX12_statement_127 : decode cX12_statement 127 = .ok (.bipush 99, 2) := by decide +kernel
theorem dX12_statement_129 : decode cX12_statement 129 = .ok (.invokevirtual 233, 3) := by decide +kernel
theorem dX12_statement_132 : decode cX12_statement 132 = .ok (.goto 8, 3) := by decide +kernel
theorem dX12_statement_135 : decode cX12_statement 135 = .ok (.aload_n 0, 1) := by decide +kernel
theorem dX12_statement_136 : decode cX12_statement 136 = .ok (.iconst 1, 1) := by decide +kernel
theorem dX12_statement_137 : decode cX12_statement 137 = .ok (.invokevirtual 134, 3) := by decide +kernel
theorem dX12_statement_140 : decode cX12_statement 140 = .ok (.aload_n 0, 1) := by decide +kernel
theorem dX12_statement_141 : decode cX12_statement 141 = .ok (.bipush 59, 2) := by decide +kernel
theorem dX12_statement_143 : decode cX12_statement 143 = .ok (.invokevirtual 241, 3) := by decide +kernel
theorem dX12_statement_146 : decode cX12_statement 146 = .ok (.return_, 1) := by decide +kernel
theorem dX12_readText_0 : decode cX12_readText 0 = .ok (.aload_n 0, 1) := by decide +kernel
theorem dX12_readText_1 : decode cX12_readText 1 = .ok (.invokevirtual 244, 3) := by decide +kernel
theorem dX12_readText_4 : decode cX12_readText 4 = .ok (.aload_n 0, 1) := by decide +kernel
theorem dX12_readText_5 : decode cX12_readText 5 = .ok (.invokevirtual 247, 3) := by decide +kernel
theorem dX12_readText_8 : decode cX12_readText 8 = .ok (.aload_n 0, 1) := by decide +kernel
theorem dX12_readText_9 : decode cX12_readText 9 = .ok (.getfield 35, 3) := by decide +kernel
theorem dX12_readText_12 : decode cX12_readText 12 = .ok (.aload_n 0, 1) := by decide +kernel
theorem dX12_readText_13 : decode cX12_readText 13 = .ok (.getfield 42, 3) := by decide +kernel
theorem dX12_readText_16 : decode cX12_readText 16 = .ok (.invokestatic 161, 3) := by decide +kernel
theorem dX12_readText_19 : decode cX12_readText 19 = .ok (.aload_n 0, 1) := by decide +kernel
theorem dX12_readText_20 : decode cX12_readText 20 = .ok (.invokevirtual 69, 3) := by decide +kernel
theorem dX12_readText_23 : decode cX12_readText 23 = .ok (.aload_n 0, 1) := by decide +kernel
theorem dX12_readText_24 : decode cX12_readText 24 = .ok (.iconst 0, 1) := by decide +kernel
theorem dX12_readText_25 : decode cX12_readText 25 = .ok (.putfield 175, 3) := by decide +kernel
theorem dX12_readText_28 : decode cX12_readText 28 = .ok (.aload_n 0, 1) := by decide +kernel
theorem dX12_readText_29 : decode cX12_readText 29 = .ok (.invokevirtual 127, 3) := by decide +kernel
theorem dX12_readText_32 : decode cX12_readText 32 = .ok (.ifCond .eq 17, 3) := by decide +kernel
theorem dX12_readText_35 : decode cX12_readText 35 = .ok (.aload_n 0, 1) := by decide +kernel
theorem dX12_readText_36 : decode cX12_readText 36 = .ok (.getfield 114, 3) := by decide +kernel
theorem dX12_readText_39 : decode cX12_readText 39 = .ok (.ifCond .eq 10, 3) := by decide +kernel
theorem dX12_readText_42 : decode cX12_readText 42 = .ok (.aload_n 0, 1) := by decide +kernel
theorem dX12_readText_43 : decode cX12_readText 43 = .ok (.invokevirtual 250, 3) := by decide +kernel
theorem dX12_readText_46 : decode cX12_readText 46 = .ok (.goto (-18), 3) := by decide +kernel
theorem dX12_readText_49 : decode cX12_readText 49 = .ok (.aload_n 0, 1) := by decide +kernel
theorem dX12_readText_50 : decode cX12_readText 50 = .ok (.invokevirtual 253, 3) := by decide +kernel
theorem dX12_readText_53 : decode cX12_readText 53 = .ok (.ifCond .ne 29, 3) := by decide +kernel
theorem dX12_readText_56 : decode cX12_readText 56 = .ok (.aload_n 0, 1) := by decide +kernel
theorem dX12_readText_57 : decode cX12_readText 57 = .ok (.getfield 26, 3) := by decide +kernel
theorem dX12_readText_60 : decode cX12_readText 60 = .ok (.iconst 0, 1) := by decide +kernel
theorem dX12_readText_61 : decode cX12_readText 61 = .ok (.aload_n 0, 1) := by decide +kernel
theorem dX12_readText_62 : decode cX12_readText 62 = .ok (.getfield 20, 3) := by decide +kernel
theorem dX12_readText_65 : decode cX12_readText 65 = .ok (.iconst 0, 1) := by decide +kernel
theorem dX12_readText_66 : decode cX12_readText 66 = .ok (.invokestatic 151, 3) := by decide +kernel
theorem dX12_readText_69 : decode cX12_readText 69 = .ok (.aload_n 0, 1) := by decide +kernel
theorem dX12_readText_70 : decode cX12_readText 70 = .ok (.getfield 42, 3) := by decide +kernel
theorem dX12_readText_73 : decode cX12_readText 73 = .ok (.aload_n 0, 1) := by decide +kernel
theorem dX12_readText_74 : decode cX12_readText 74 = .ok (.getfield 35, 3) := by decide +kernel
theorem dX12_readText_77 : decode cX12_readText 77 = .ok (.invokestatic 161, 3) := by decide +kernel
theorem dX12_readText_80 : decode cX12_readText 80 = .ok (.iconst 0, 1) := by decide +kernel
theorem dX12_readText_81 : decode cX12_readText 81 = .ok (.ireturn, 1) := by decide +kernel
theorem dX12_readText_82 : decode cX12_readText 82 = .ok (.aload_n 0, 1) := by decide +kernel
theorem dX12_readText_83 : decode cX12_readText 83 = .ok (.iconst 0, 1) := by decide +kernel
theorem dX12_readText_84 : decode cX12_readText 84 = .ok (.putfield 155, 3) := by decide +kernel
theorem dX12_readText_87 : decode cX12_readText 87 = .ok (.aload_n 0, 1) := by decide +kernel
theorem dX12_readText_88 : decode cX12_readText 88 = .ok (.getfield 20, 3) := by decide +kernel
theorem dX12_readText_91 : decode cX12_readText 91 = .ok (.iconst 1, 1) := by decide +kernel
theorem dX12_readText_92 : decode cX12_readText 92 = .ok (.iaload, 1) := by decide +kernel
theorem dX12_readText_93 : decode cX12_readText 93 = .ok (.ireturn, 1) := by decide +kernel
theorem dX12_greater_0 : decode cX12_greater 0 = .ok (.iload_n 0, 1) := by decide +kernel
theorem dX12_greater_1 : decode cX12_greater 1 = .ok (.iload_n 1, 1) := by decide +kernel
theorem dX12_greater_2 : decode cX12_greater 2 = .ok (.if_icmp .le 7, 3) := by decide +kernel
theorem dX12_greater_5 : decode cX12_greater 5 = .ok (.iload_n 0, 1) := by decide +kernel
theorem dX12_greater_6 : decode cX12_greater 6 = .ok (.goto 4, 3) := by decide +kernel
theorem dX12_greater_9 : decode cX12_greater 9 = .ok (.iload_n 1, 1) := by decide +kernel
theorem dX12_greater_10 : decode cX12_greater 10 = .ok (.ireturn, 1) := by decide +kernel
theorem dX12_lesser_0 : decode cX12_lesser 0 = .ok (.iload_n 0, 1) := by decide +kernel
theorem dX12_lesser_1 : decode cX12_lesser 1 = .ok (.iload_n 1, 1) := by decide +kernel
theorem dX12_lesser_2 : decode cX12_lesser 2 = .ok (.if_icmp .ge 7, 3) := by decide +kernel
theorem dX12_lesser_5 : decode cX12_lesser 5 = .ok (.iload_n 0, 1) := by decide +kernel
theorem dX12_lesser_6 : decode cX12_lesser 6 = .ok (.goto 4, 3) := by decide +kernel
theorem dX12_lesser_9 : decode cX12_lesser 9 = .ok (.iload_n 1, 1) := by decide +kernel
theorem dX12_lesser_10 : decode cX12_lesser 10 = .ok (.ireturn, 1) := by decide +kernel
theorem dX12_tenths_0 : decode cX12_tenths 0 = .ok (.bipush 10, 2) := by decide +kernel
theorem dX12_tenths_2 : decode cX12_tenths 2 = .ok (.aload_n 0, 1) := by decide +kernel
theorem dX12_tenths_3 : decode cX12_tenths 3 = .ok (.iload_n 1, 1) := by decide +kernel
theorem dX12_tenths_4 : decode cX12_tenths 4 = .ok (.iconst 1, 1) := by decide +kernel
theorem dX12_tenths_5 : decode cX12_tenths 5 = .ok (.invokevirtual 256, 3) := by decide +kernel
theorem dX12_tenths_8 : decode cX12_tenths 8 = .ok (.imul, 1) := by decide +kernel
theorem dX12_tenths_9 : decode cX12_tenths 9 = .ok (.ireturn, 1) := by decide +kernel
theorem dX12_turnBefore_0 : decode cX12_turnBefore 0 = .ok (.iconst 0, 1) := by decide +kernel
theorem dX12_turnBefore_1 : decode cX12_turnBefore 1 = .ok (.istore_n 2, 1) := by decide +kernel
theorem dX12_turnBefore_2 : decode cX12_turnBefore 2 = .ok (.iconst 0, 1) := by decide +kernel
theorem dX12_turnBefore_3 : decode cX12_turnBefore 3 = .ok (.istore_n 3, 1) := by decide +kernel
theorem dX12_turnBefore_4 : decode cX12_turnBefore 4 = .ok (.iload_n 3, 1) := by decide +kernel
theorem dX12_turnBefore_5 : decode cX12_turnBefore 5 = .ok (.iload_n 1, 1) := by decide +kernel
theorem dX12_turnBefore_6 : decode cX12_turnBefore 6 = .ok (.if_icmp .ge 17, 3) := by decide +kernel
theorem dX12_turnBefore_9 : decode cX12_turnBefore 9 = .ok (.iload_n 2, 1) := by decide +kernel
theorem dX12_turnBefore_10 : decode cX12_turnBefore 10 = .ok (.aload_n 0, 1) := by decide +kernel
theorem dX12_turnBefore_11 : decode cX12_turnBefore 11 = .ok (.iload_n 3, 1) := by decide +kernel
theorem dX12_turnBefore_12 : decode cX12_turnBefore 12 = .ok (.invokevirtual 259, 3) := by decide +kernel
theorem dX12_turnBefore_15 : decode cX12_turnBefore 15 = .ok (.iadd, 1) := by decide +kernel
theorem dX12_turnBefore_16 : decode cX12_turnBefore 16 = .ok (.istore_n 2, 1) := by decide +kernel
theorem dX12_turnBefore_17 : decode cX12_turnBefore 17 = .ok (.iinc 3 1, 3) := by decide +kernel
theorem dX12_turnBefore_20 : decode cX12_turnBefore 20 = .ok (.goto (-16), 3) := by decide +kernel
theorem dX12_turnBefore_23 : decode cX12_turnBefore 23 = .ok (.iload_n 2, 1) := by decide +kernel
theorem dX12_turnBefore_24 : decode cX12_turnBefore 24 = .ok (.ireturn, 1) := by decide +kernel
theorem dX12_wholeTurn_0 : decode cX12_wholeTurn 0 = .ok (.aload_n 0, 1) := by decide +kernel
theorem dX12_wholeTurn_1 : decode cX12_wholeTurn 1 = .ok (.aload_n 0, 1) := by decide +kernel
theorem dX12_wholeTurn_2 : decode cX12_wholeTurn 2 = .ok (.getfield 20, 3) := by decide +kernel
theorem dX12_wholeTurn_5 : decode cX12_wholeTurn 5 = .ok (.iconst 0, 1) := by decide +kernel
theorem dX12_wholeTurn_6 : decode cX12_wholeTurn 6 = .ok (.iaload, 1) := by decide +kernel
theorem dX12_wholeTurn_7 : decode cX12_wholeTurn 7 = .ok (.invokevirtual 262, 3) := by decide +kernel
theorem dX12_wholeTurn_10 : decode cX12_wholeTurn 10 = .ok (.ireturn, 1) := by decide +kernel
theorem dX12_arcOf_0 : decode cX12_arcOf 0 = .ok (.iconst 0, 1) := by decide +kernel
theorem dX12_arcOf_1 : decode cX12_arcOf 1 = .ok (.istore_n 2, 1) := by decide +kernel
theorem dX12_arcOf_2 : decode cX12_arcOf 2 = .ok (.iconst 0, 1) := by decide +kernel
theorem dX12_arcOf_3 : decode cX12_arcOf 3 = .ok (.istore_n 3, 1) := by decide +kernel
theorem dX12_arcOf_4 : decode cX12_arcOf 4 = .ok (.iload_n 3, 1) := by decide +kernel
theorem dX12_arcOf_5 : decode cX12_arcOf 5 = .ok (.aload_n 0, 1) := by decide +kernel
theorem dX12_arcOf_6 : decode cX12_arcOf 6 = .ok (.getfield 20, 3) := by decide +kernel
theorem dX12_arcOf_9 : decode cX12_arcOf 9 = .ok (.iconst 0, 1) := by decide +kernel
theorem dX12_arcOf_10 : decode cX12_arcOf 10 = .ok (.iaload, 1) := by decide +kernel
theorem dX12_arcOf_11 : decode cX12_arcOf 11 = .ok (.if_icmp .ge 24, 3) := by decide +kernel
theorem dX12_arcOf_14 : decode cX12_arcOf 14 = .ok (.iload_n 2, 1) := by decide +kernel
theorem dX12_arcOf_15 : decode cX12_arcOf 15 = .ok (.aload_n 0, 1) := by decide +kernel
theorem dX12_arcOf_16 : decode cX12_arcOf 16 = .ok (.iload_n 3, 1) := by decide +kernel
theorem dX12_arcOf_17 : decode cX12_arcOf 17 = .ok (.invokevirtual 259, 3) := by decide +kernel
theorem dX12_arcOf_20 : decode cX12_arcOf 20 = .ok (.iadd, 1) := by decide +kernel
theorem dX12_arcOf_21 : decode cX12_arcOf 21 = .ok (.istore_n 2, 1) := by decide +kernel
theorem dX12_arcOf_22 : decode cX12_arcOf 22 = .ok (.iload_n 2, 1) := by decide +kernel
theorem dX12_arcOf_23 : decode cX12_arcOf 23 = .ok (.iload_n 1, 1) := by decide +kernel
theorem dX12_arcOf_24 : decode cX12_arcOf 24 = .ok (.if_icmp .le 5, 3) := by decide +kernel
theorem dX12_arcOf_27 : decode cX12_arcOf 27 = .ok (.iload_n 3, 1) := by decide +kernel
theorem dX12_arcOf_28 : decode cX12_arcOf 28 = .ok (.ireturn, 1) := by decide +kernel
theorem dX12_arcOf_29 : decode cX12_arcOf 29 = .ok (.iinc 3 1, 3) := by decide +kernel
theorem dX12_arcOf_32 : decode cX12_arcOf 32 = .ok (.goto (-28), 3) := by decide +kernel
theorem dX12_arcOf_35 : decode cX12_arcOf 35 = .ok (.aload_n 0, 1) := by decide +kernel
theorem dX12_arcOf_36 : decode cX12_arcOf 36 = .ok (.getfield 20, 3) := by decide +kernel
theorem dX12_arcOf_39 : decode cX12_arcOf 39 = .ok (.iconst 0, 1) := by decide +kernel
theorem dX12_arcOf_40 : decode cX12_arcOf 40 = .ok (.iaload, 1) := by decide +kernel
theorem dX12_arcOf_41 : decode cX12_arcOf 41 = .ok (.iconst 1, 1) := by decide +kernel
theorem dX12_arcOf_42 : decode cX12_arcOf 42 = .ok (.isub, 1) := by decide +kernel
theorem dX12_arcOf_43 : decode cX12_arcOf 43 = .ok (.ireturn, 1) := by decide +kernel
theorem dX12_partsBefore_0 : decode cX12_partsBefore 0 = .ok (.iconst 0, 1) := by decide +kernel
theorem dX12_partsBefore_1 : decode cX12_partsBefore 1 = .ok (.istore_n 2, 1) := by decide +kernel
theorem dX12_partsBefore_2 : decode cX12_partsBefore 2 = .ok (.iconst 0, 1) := by decide +kernel
theorem dX12_partsBefore_3 : decode cX12_partsBefore 3 = .ok (.istore_n 3, 1) := by decide +kernel
theorem dX12_partsBefore_4 : decode cX12_partsBefore 4 = .ok (.iload_n 3, 1) := by decide +kernel
theorem dX12_partsBefore_5 : decode cX12_partsBefore 5 = .ok (.iload_n 1, 1) := by decide +kernel
theorem dX12_partsBefore_6 : decode cX12_partsBefore 6 = .ok (.if_icmp .ge 24, 3) := by decide +kernel
theorem dX12_partsBefore_9 : decode cX12_partsBefore 9 = .ok (.iload_n 2, 1) := by decide +kernel
theorem dX12_partsBefore_10 : decode cX12_partsBefore 10 = .ok (.aload_n 0, 1) := by decide +kernel
theorem dX12_partsBefore_11 : decode cX12_partsBefore 11 = .ok (.iload_n 3, 1) := by decide +kernel
theorem dX12_partsBefore_12 : decode cX12_partsBefore 12 = .ok (.iconst 0, 1) := by decide +kernel
theorem dX12_partsBefore_13 : decode cX12_partsBefore 13 = .ok (.invokevirtual 256, 3) := by decide +kernel
theorem dX12_partsBefore_16 : decode cX12_partsBefore 16 = .ok (.aload_n 0, 1) := by decide +kernel
theorem dX12_partsBefore_17 : decode cX12_partsBefore 17 = .ok (.iload_n 3, 1) := by decide +kernel
theorem dX12_partsBefore_18 : decode cX12_partsBefore 18 = .ok (.invokevirtual 259, 3) := by decide +kernel
theorem dX12_partsBefore_21 : decode cX12_partsBefore 21 = .ok (.imul, 1) := by decide +kernel
theorem dX12_partsBefore_22 : decode cX12_partsBefore 22 = .ok (.iadd, 1) := by decide +kernel
theorem dX12_partsBefore_23 : decode cX12_partsBefore 23 = .ok (.istore_n 2, 1) := by decide +kernel
theorem dX12_partsBefore_24 : decode cX12_partsBefore 24 = .ok (.iinc 3 1, 3) := by decide +kernel
theorem dX12_partsBefore_27 : decode cX12_partsBefore 27 = .ok (.goto (-23), 3) := by decide +kernel
theorem dX12_partsBefore_30 : decode cX12_partsBefore 30 = .ok (.iload_n 2, 1) := by decide +kernel
theorem dX12_partsBefore_31 : decode cX12_partsBefore 31 = .ok (.ireturn, 1) := by decide +kernel
theorem dX12_wholeParts_0 : decode cX12_wholeParts 0 = .ok (.aload_n 0, 1) := by decide +kernel
theorem dX12_wholeParts_1 : decode cX12_wholeParts 1 = .ok (.aload_n 0, 1) := by decide +kernel
theorem dX12_wholeParts_2 : decode cX12_wholeParts 2 = .ok (.getfield 20, 3) := by decide +kernel
theorem dX12_wholeParts_5 : decode cX12_wholeParts 5 = .ok (.iconst 0, 1) := by decide +kernel
theorem dX12_wholeParts_6 : decode cX12_wholeParts 6 = .ok (.iaload, 1) := by decide +kernel
theorem dX12_wholeParts_7 : decode cX12_wholeParts 7 = .ok (.invokevirtual 265, 3) := by decide +kernel
theorem dX12_wholeParts_10 : decode cX12_wholeParts 10 = .ok (.ireturn, 1) := by decide +kernel
theorem dX12_partsOf_0 : decode cX12_partsOf 0 = .ok (.aload_n 0, 1) := by decide +kernel
theorem dX12_partsOf_1 : decode cX12_partsOf 1 = .ok (.iload_n 1, 1) := by decide +kernel
theorem dX12_partsOf_2 : decode cX12_partsOf 2 = .ok (.invokevirtual 268, 3) := by decide +kernel
theorem dX12_partsOf_5 : decode cX12_partsOf 5 = .ok (.istore_n 2, 1) := by decide +kernel
theorem dX12_partsOf_6 : decode cX12_partsOf 6 = .ok (.iload_n 2, 1) := by decide +kernel
theorem dX12_partsOf_7 : decode cX12_partsOf 7 = .ok (.iconst (-1), 1) := by decide +kernel
theorem dX12_partsOf_8 : decode cX12_partsOf 8 = .ok (.if_icmp .ne 7, 3) := by decide +kernel
theorem dX12_partsOf_11 : decode cX12_partsOf 11 = .ok (.iconst 0, 1) := by decide +kernel
theorem dX12_partsOf_12 : decode cX12_partsOf 12 = .ok (.goto 23, 3) := by decide +kernel
theorem dX12_partsOf_15 : decode cX12_partsOf 15 = .ok (.aload_n 0, 1) := by decide +kernel
theorem dX12_partsOf_16 : decode cX12_partsOf 16 = .ok (.iload_n 2, 1) := by decide +kernel
theorem dX12_partsOf_17 : decode cX12_partsOf 17 = .ok (.invokevirtual 265, 3) := by decide +kernel
theorem dX12_partsOf_20 : decode cX12_partsOf 20 = .ok (.aload_n 0, 1) := by decide +kernel
theorem dX12_partsOf_21 : decode cX12_partsOf 21 = .ok (.iload_n 2, 1) := by decide +kernel
theorem dX12_partsOf_22 : decode cX12_partsOf 22 = .ok (.iconst 0, 1) := by decide +kernel
theorem dX12_partsOf_23 : decode cX12_partsOf 23 = .ok (.invokevirtual 256, 3) := by decide +kernel
theorem dX12_partsOf_26 : decode cX12_partsOf 26 = .ok (.iload_n 1, 1) := by decide +kernel
theorem dX12_partsOf_27 : decode cX12_partsOf 27 = .ok (.aload_n 0, 1) := by decide +kernel
theorem dX12_partsOf_28 : decode cX12_partsOf 28 = .ok (.iload_n 2, 1) := by decide +kernel
theorem dX12_partsOf_29 : decode cX12_partsOf 29 = .ok (.invokevirtual 262, 3) := by decide +kernel
theorem dX12_partsOf_32 : decode cX12_partsOf 32 = .ok (.isub, 1) := by decide +kernel
theorem dX12_partsOf_33 : decode cX12_partsOf 33 = .ok (.imul, 1) := by decide +kernel
theorem dX12_partsOf_34 : decode cX12_partsOf 34 = .ok (.iadd, 1) := by decide +kernel
theorem dX12_partsOf_35 : decode cX12_partsOf 35 = .ok (.ireturn, 1) := by decide +kernel
theorem dX12_bend_0 : decode cX12_bend 0 = .ok (.iload_n 1, 1) := by decide +kernel
theorem dX12_bend_1 : decode cX12_bend 1 = .ok (.istore_n 2, 1) := by decide +kernel
theorem dX12_bend_2 : decode cX12_bend 2 = .ok (.iconst 0, 1) := by decide +kernel
theorem dX12_bend_3 : decode cX12_bend 3 = .ok (.istore_n 3, 1) := by decide +kernel
theorem dX12_bend_4 : decode cX12_bend 4 = .ok (.iconst 0, 1) := by decide +kernel
theorem dX12_bend_5 : decode cX12_bend 5 = .ok (.istore 4, 2) := by decide +kernel
theorem dX12_bend_7 : decode cX12_bend 7 = .ok (.iload 4, 2) := by decide +kernel
theorem dX12_bend_9 : decode cX12_bend 9 = .ok (.aload_n 0, 1) := by decide +kernel
theorem dX12_bend_10 : decode cX12_bend 10 = .ok (.getfield 20, 3) := by decide +kernel
theorem dX12_bend_13 : decode cX12_bend 13 = .ok (.iconst 0, 1) := by decide +kernel
theorem dX12_bend_14 : decode cX12_bend 14 = .ok (.iaload, 1) := by decide +kernel
theorem dX12_bend_15 : decode cX12_bend 15 = .ok (.if_icmp .ge 48, 3) := by decide +kernel
theorem dX12_bend_18 : decode cX12_bend 18 = .ok (.iload_n 2, 1) := by decide +kernel
theorem dX12_bend_19 : decode cX12_bend 19 = .ok (.aload_n 0, 1) := by decide +kernel
theorem dX12_bend_20 : decode cX12_bend 20 = .ok (.iload 4, 2) := by decide +kernel
theorem dX12_bend_22 : decode cX12_bend 22 = .ok (.invokevirtual 259, 3) := by decide +kernel
theorem dX12_bend_25 : decode cX12_bend 25 = .ok (.invokestatic 271, 3) := by decide +kernel
theorem dX12_bend_28 : decode cX12_bend 28 = .ok (.istore 5, 2) := by decide +kernel
theorem dX12_bend_30 : decode cX12_bend 30 = .ok (.iload_n 3, 1) := by decide +kernel
theorem dX12_bend_31 : decode cX12_bend 31 = .ok (.aload_n 0, 1) := by decide +kernel
theorem dX12_bend_32 : decode cX12_bend 32 = .ok (.iload 4, 2) := by decide +kernel
theorem dX12_bend_34 : decode cX12_bend 34 = .ok (.iconst 2, 1) := by decide +kernel
theorem dX12_bend_35 : decode cX12_bend 35 = .ok (.invokevirtual 256, 3) := by decide +kernel
theorem dX12_bend_38 : decode cX12_bend 38 = .ok (.iconst 1, 1) := by decide +kernel
theorem dX12_bend_39 : decode cX12_bend 39 = .ok (.if_icmp .ne 9, 3) := by decide +kernel
theorem dX12_bend_42 : decode cX12_bend 42 = .ok (.iload 5, 2) := by decide +kernel
theorem dX12_bend_44 : decode cX12_bend 44 = .ok (.ineg, 1) := by decide +kernel
theorem dX12_bend_45 : decode cX12_bend 45 = .ok (.goto 5, 3) := by decide +kernel
theorem dX12_bend_48 : decode cX12_bend 48 = .ok (.iload 5, 2) := by decide +kernel
theorem dX12_bend_50 : decode cX12_bend 50 = .ok (.iadd, 1) := by decide +kernel
theorem dX12_bend_51 : decode cX12_bend 51 = .ok (.istore_n 3, 1) := by decide +kernel
theorem dX12_bend_52 : decode cX12_bend 52 = .ok (.iload_n 2, 1) := by decide +kernel
theorem dX12_bend_53 : decode cX12_bend 53 = .ok (.iload 5, 2) := by decide +kernel
theorem dX12_bend_55 : decode cX12_bend 55 = .ok (.isub, 1) := by decide +kernel
theorem dX12_bend_56 : decode cX12_bend 56 = .ok (.istore_n 2, 1) := by decide +kernel
theorem dX12_bend_57 : decode cX12_bend 57 = .ok (.iinc 4 1, 3) := by decide +kernel
theorem dX12_bend_60 : decode cX12_bend 60 = .ok (.goto (-53), 3) := by decide +kernel
theorem dX12_bend_63 : decode cX12_bend 63 = .ok (.iload_n 3, 1) := by decide +kernel
theorem dX12_bend_64 : decode cX12_bend 64 = .ok (.ireturn, 1) := by decide +kernel
theorem dX12_headingOf_0 : decode cX12_headingOf 0 = .ok (.aload_n 0, 1) := by decide +kernel
theorem dX12_headingOf_1 : decode cX12_headingOf 1 = .ok (.iload_n 1, 1) := by decide +kernel
theorem dX12_headingOf_2 : decode cX12_headingOf 2 = .ok (.invokevirtual 274, 3) := by decide +kernel
theorem dX12_headingOf_5 : decode cX12_headingOf 5 = .ok (.sipush 3600, 3) := by decide +kernel
theorem dX12_headingOf_8 : decode cX12_headingOf 8 = .ok (.irem, 1) := by decide +kernel
theorem dX12_headingOf_9 : decode cX12_headingOf 9 = .ok (.istore_n 2, 1) := by decide +kernel
theorem dX12_headingOf_10 : decode cX12_headingOf 10 = .ok (.iload_n 2, 1) := by decide +kernel
theorem dX12_headingOf_11 : decode cX12_headingOf 11 = .ok (.ifCond .ge 11, 3) := by decide +kernel
theorem dX12_headingOf_14 : decode cX12_headingOf 14 = .ok (.iload_n 2, 1) := by decide +kernel
theorem dX12_headingOf_15 : decode cX12_headingOf 15 = .ok (.sipush 3600, 3) := by decide +kernel
theorem dX12_headingOf_18 : decode cX12_headingOf 18 = .ok (.iadd, 1) := by decide +kernel
theorem dX12_headingOf_19 : decode cX12_headingOf 19 = .ok (.goto 4, 3) := by decide +kernel
theorem dX12_headingOf_22 : decode cX12_headingOf 22 = .ok (.iload_n 2, 1) := by decide +kernel
theorem dX12_headingOf_23 : decode cX12_headingOf 23 = .ok (.ireturn, 1) := by decide +kernel
theorem dX12_centre_0 : decode cX12_centre 0 = .ok (.iconst 2, 1) := by decide +kernel
theorem dX12_centre_1 : decode cX12_centre 1 = .ok (.iload_n 1, 1) := by decide +kernel
theorem dX12_centre_2 : decode cX12_centre 2 = .ok (.imul, 1) := by decide +kernel
theorem dX12_centre_3 : decode cX12_centre 3 = .ok (.iconst 1, 1) := by decide +kernel
theorem dX12_centre_4 : decode cX12_centre 4 = .ok (.iadd, 1) := by decide +kernel
theorem dX12_centre_5 : decode cX12_centre 5 = .ok (.aload_n 0, 1) := by decide +kernel
theorem dX12_centre_6 : decode cX12_centre 6 = .ok (.invokevirtual 277, 3) := by decide +kernel
theorem dX12_centre_9 : decode cX12_centre 9 = .ok (.imul, 1) := by decide +kernel
theorem dX12_centre_10 : decode cX12_centre 10 = .ok (.iconst 2, 1) := by decide +kernel
theorem dX12_centre_11 : decode cX12_centre 11 = .ok (.aload_n 0, 1) := by decide +kernel
theorem dX12_centre_12 : decode cX12_centre 12 = .ok (.getfield 20, 3) := by decide +kernel
theorem dX12_centre_15 : decode cX12_centre 15 = .ok (.iconst 1, 1) := by decide +kernel
theorem dX12_centre_16 : decode cX12_centre 16 = .ok (.iaload, 1) := by decide +kernel
theorem dX12_centre_17 : decode cX12_centre 17 = .ok (.imul, 1) := by decide +kernel
theorem dX12_centre_18 : decode cX12_centre 18 = .ok (.idiv, 1) := by decide +kernel
theorem dX12_centre_19 : decode cX12_centre 19 = .ok (.ireturn, 1) := by decide +kernel
theorem dX12_widthOf_0 : decode cX12_widthOf 0 = .ok (.aload_n 0, 1) := by decide +kernel
theorem dX12_widthOf_1 : decode cX12_widthOf 1 = .ok (.getfield 20, 3) := by decide +kernel
theorem dX12_widthOf_4 : decode cX12_widthOf 4 = .ok (.bipush 104, 2) := by decide +kernel
theorem dX12_widthOf_6 : decode cX12_widthOf 6 = .ok (.aload_n 0, 1) := by decide +kernel
theorem dX12_widthOf_7 : decode cX12_widthOf 7 = .ok (.iload_n 1, 1) := by decide +kernel
theorem dX12_widthOf_8 : decode cX12_widthOf 8 = .ok (.iconst 0, 1) := by decide +kernel
theorem dX12_widthOf_9 : decode cX12_widthOf 9 = .ok (.invokevirtual 280, 3) := by decide +kernel
theorem dX12_widthOf_12 : decode cX12_widthOf 12 = .ok (.iadd, 1) := by decide +kernel
theorem dX12_widthOf_13 : decode cX12_widthOf 13 = .ok (.iaload, 1) := by decide +kernel
theorem dX12_widthOf_14 : decode cX12_widthOf 14 = .ok (.ireturn, 1) := by decide +kernel
theorem dX12_leftOf_0 : decode cX12_leftOf 0 = .ok (.aload_n 0, 1) := by decide +kernel
theorem dX12_leftOf_1 : decode cX12_leftOf 1 = .ok (.aload_n 0, 1) := by decide +kernel
theorem dX12_leftOf_2 : decode cX12_leftOf 2 = .ok (.iload_n 1, 1) := by decide +kernel
theorem dX12_leftOf_3 : decode cX12_leftOf 3 = .ok (.invokevirtual 283, 3) := by decide +kernel
theorem dX12_leftOf_6 : decode cX12_leftOf 6 = .ok (.invokevirtual 286, 3) := by decide +kernel
theorem dX12_leftOf_9 : decode cX12_leftOf 9 = .ok (.sipush 500, 3) := by decide +kernel
theorem dX12_leftOf_12 : decode cX12_leftOf 12 = .ok (.aload_n 0, 1) := by decide +kernel
theorem dX12_leftOf_13 : decode cX12_leftOf 13 = .ok (.iload_n 1, 1) := by decide +kernel
theorem dX12_leftOf_14 : decode cX12_leftOf 14 = .ok (.invokevirtual 289, 3) := by decide +kernel
theorem dX12_leftOf_17 : decode cX12_leftOf 17 = .ok (.imul, 1) := by decide +kernel
theorem dX12_leftOf_18 : decode cX12_leftOf 18 = .ok (.isub, 1) := by decide +kernel
theorem dX12_leftOf_19 : decode cX12_leftOf 19 = .ok (.ireturn, 1) := by decide +kernel
theorem dX12_rightOf_0 : decode cX12_rightOf 0 = .ok (.aload_n 0, 1) := by decide +kernel
theorem dX12_rightOf_1 : decode cX12_rightOf 1 = .ok (.aload_n 0, 1) := by decide +kernel
theorem dX12_rightOf_2 : decode cX12_rightOf 2 = .ok (.iload_n 1, 1) := by decide +kernel
theorem dX12_rightOf_3 : decode cX12_rightOf 3 = .ok (.invokevirtual 283, 3) := by decide +kernel
theorem dX12_rightOf_6 : decode cX12_rightOf 6 = .ok (.invokevirtual 286, 3) := by decide +kernel
theorem dX12_rightOf_9 : decode cX12_rightOf 9 = .ok (.sipush 500, 3) := by decide +kernel
theorem dX12_rightOf_12 : decode cX12_rightOf 12 = .ok (.aload_n 0, 1) := by decide +kernel
theorem dX12_rightOf_13 : decode cX12_rightOf 13 = .ok (.iload_n 1, 1) := by decide +kernel
theorem dX12_rightOf_14 : decode cX12_rightOf 14 = .ok (.invokevirtual 289, 3) := by decide +kernel
theorem dX12_rightOf_17 : decode cX12_rightOf 17 = .ok (.imul, 1) := by decide +kernel
theorem dX12_rightOf_18 : decode cX12_rightOf 18 = .ok (.iadd, 1) := by decide +kernel
theorem dX12_rightOf_19 : decode cX12_rightOf 19 = .ok (.ireturn, 1) := by decide +kernel
theorem dX12_roomOf_0 : decode cX12_roomOf 0 = .ok (.iload_n 1, 1) := by decide +kernel
theorem dX12_roomOf_1 : decode cX12_roomOf 1 = .ok (.ifCond .ne 7, 3) := by decide +kernel
theorem dX12_roomOf_4 : decode cX12_roomOf 4 = .ok (.iconst 0, 1) := by decide +kernel
theorem dX12_roomOf_5 : decode cX12_roomOf 5 = .ok (.goto 10, 3) := by decide +kernel
theorem dX12_roomOf_8 : decode cX12_roomOf 8 = .ok (.aload_n 0, 1) := by decide +kernel
theorem dX12_roomOf_9 : decode cX12_roomOf 9 = .ok (.iload_n 1, 1) := by decide +kernel
theorem dX12_roomOf_10 : decode cX12_roomOf 10 = .ok (.iconst 1, 1) := by decide +kernel
theorem dX12_roomOf_11 : decode cX12_roomOf 11 = .ok (.isub, 1) := by decide +kernel
theorem dX12_roomOf_12 : decode cX12_roomOf 12 = .ok (.invokevirtual 292, 3) := by decide +kernel
theorem dX12_roomOf_15 : decode cX12_roomOf 15 = .ok (.istore_n 2, 1) := by decide +kernel
theorem dX12_roomOf_16 : decode cX12_roomOf 16 = .ok (.iload_n 1, 1) := by decide +kernel
theorem dX12_roomOf_17 : decode cX12_roomOf 17 = .ok (.aload_n 0, 1) := by decide +kernel
theorem dX12_roomOf_18 : decode cX12_roomOf 18 = .ok (.getfield 20, 3) := by decide +kernel
theorem dX12_roomOf_21 : decode cX12_roomOf 21 = .ok (.iconst 1, 1) := by decide +kernel
theorem dX12_roomOf_22 : decode cX12_roomOf 22 = .ok (.iaload, 1) := by decide +kernel
theorem dX12_roomOf_23 : decode cX12_roomOf 23 = .ok (.if_icmp .ne 10, 3) := by decide +kernel
theorem dX12_roomOf_26 : decode cX12_roomOf 26 = .ok (.aload_n 0, 1) := by decide +kernel
theorem dX12_roomOf_27 : decode cX12_roomOf 27 = .ok (.invokevirtual 295, 3) := by decide +kernel
theorem dX12_roomOf_30 : decode cX12_roomOf 30 = .ok (.goto 8, 3) := by decide +kernel
theorem dX12_roomOf_33 : decode cX12_roomOf 33 = .ok (.aload_n 0, 1) := by decide +kernel
theorem dX12_roomOf_34 : decode cX12_roomOf 34 = .ok (.iload_n 1, 1) := by decide +kernel
theorem dX12_roomOf_35 : decode cX12_roomOf 35 = .ok (.invokevirtual 298, 3) := by decide +kernel
theorem dX12_roomOf_38 : decode cX12_roomOf 38 = .ok (.istore_n 3, 1) := by decide +kernel
theorem dX12_roomOf_39 : decode cX12_roomOf 39 = .ok (.iload_n 3, 1) := by decide +kernel
theorem dX12_roomOf_40 : decode cX12_roomOf 40 = .ok (.iload_n 2, 1) := by decide +kernel
theorem dX12_roomOf_41 : decode cX12_roomOf 41 = .ok (.isub, 1) := by decide +kernel
theorem dX12_roomOf_42 : decode cX12_roomOf 42 = .ok (.ireturn, 1) := by decide +kernel
theorem dX12_isCrowded_0 : decode cX12_isCrowded 0 = .ok (.aload_n 0, 1) := by decide +kernel
theorem dX12_isCrowded_1 : decode cX12_isCrowded 1 = .ok (.iload_n 1, 1) := by decide +kernel
theorem dX12_isCrowded_2 : decode cX12_isCrowded 2 = .ok (.invokevirtual 301, 3) := by decide +kernel
theorem dX12_isCrowded_5 : decode cX12_isCrowded 5 = .ok (.bipush 100, 2) := by decide +kernel
theorem dX12_isCrowded_7 : decode cX12_isCrowded 7 = .ok (.aload_n 0, 1) := by decide +kernel
theorem dX12_isCrowded_8 : decode cX12_isCrowded 8 = .ok (.getfield 20, 3) := by decide +kernel
theorem dX12_isCrowded_11 : decode cX12_isCrowded 11 = .ok (.iconst 4, 1) := by decide +kernel
theorem dX12_isCrowded_12 : decode cX12_isCrowded 12 = .ok (.iaload, 1) := by decide +kernel
theorem dX12_isCrowded_13 : decode cX12_isCrowded 13 = .ok (.imul, 1) := by decide +kernel
theorem dX12_isCrowded_14 : decode cX12_isCrowded 14 = .ok (.if_icmp .ge 7, 3) := by decide +kernel
theorem dX12_isCrowded_17 : decode cX12_isCrowded 17 = .ok (.iconst 1, 1) := by decide +kernel
theorem dX12_isCrowded_18 : decode cX12_isCrowded 18 = .ok (.goto 4, 3) := by decide +kernel
theorem dX12_isCrowded_21 : decode cX12_isCrowded 21 = .ok (.iconst 0, 1) := by decide +kernel
theorem dX12_isCrowded_22 : decode cX12_isCrowded 22 = .ok (.ireturn, 1) := by decide +kernel
theorem dX12_crowdedMany_0 : decode cX12_crowdedMany 0 = .ok (.iconst 0, 1) := by decide +kernel
theorem dX12_crowdedMany_1 : decode cX12_crowdedMany 1 = .ok (.istore_n 1, 1) := by decide +kernel
theorem dX12_crowdedMany_2 : decode cX12_crowdedMany 2 = .ok (.iconst 0, 1) := by decide +kernel
theorem dX12_crowdedMany_3 : decode cX12_crowdedMany 3 = .ok (.istore_n 2, 1) := by decide +kernel
theorem dX12_crowdedMany_4 : decode cX12_crowdedMany 4 = .ok (.iload_n 2, 1) := by decide +kernel
theorem dX12_crowdedMany_5 : decode cX12_crowdedMany 5 = .ok (.aload_n 0, 1) := by decide +kernel
theorem dX12_crowdedMany_6 : decode cX12_crowdedMany 6 = .ok (.getfield 20, 3) := by decide +kernel
theorem dX12_crowdedMany_9 : decode cX12_crowdedMany 9 = .ok (.iconst 1, 1) := by decide +kernel
theorem dX12_crowdedMany_10 : decode cX12_crowdedMany 10 = .ok (.iaload, 1) := by decide +kernel
theorem dX12_crowdedMany_11 : decode cX12_crowdedMany 11 = .ok (.if_icmp .gt 20, 3) := by decide +kernel
theorem dX12_crowdedMany_14 : decode cX12_crowdedMany 14 = .ok (.iload_n 1, 1) := by decide +kernel
theorem dX12_crowdedMany_15 : decode cX12_crowdedMany 15 = .ok (.aload_n 0, 1) := by decide +kernel
theorem dX12_crowdedMany_16 : decode cX12_crowdedMany 16 = .ok (.iload_n 2, 1) := by decide +kernel
theorem dX12_crowdedMany_17 : decode cX12_crowdedMany 17 = .ok (.invokevirtual 304, 3) := by decide +kernel
theorem dX12_crowdedMany_20 : decode cX12_crowdedMany 20 = .ok (.invokestatic 75, 3) := by decide +kernel
theorem dX12_crowdedMany_23 : decode cX12_crowdedMany 23 = .ok (.iadd, 1) := by decide +kernel
theorem dX12_crowdedMany_24 : decode cX12_crowdedMany 24 = .ok (.istore_n 1, 1) := by decide +kernel
theorem dX12_crowdedMany_25 : decode cX12_crowdedMany 25 = .ok (.iinc 2 1, 3) := by decide +kernel
theorem dX12_crowdedMany_28 : decode cX12_crowdedMany 28 = .ok (.goto (-24), 3) := by decide +kernel
theorem dX12_crowdedMany_31 : decode cX12_crowdedMany 31 = .ok (.iload_n 1, 1) := by decide +kernel
theorem dX12_crowdedMany_32 : decode cX12_crowdedMany 32 = .ok (.ireturn, 1) := by decide +kernel
theorem dX12_tightestNow_0 : decode cX12_tightestNow 0 = .ok (.iconst 0, 1) := by decide +kernel
theorem dX12_tightestNow_1 : decode cX12_tightestNow 1 = .ok (.istore_n 1, 1) := by decide +kernel
theorem dX12_tightestNow_2 : decode cX12_tightestNow 2 = .ok (.iconst 1, 1) := by decide +kernel
theorem dX12_tightestNow_3 : decode cX12_tightestNow 3 = .ok (.istore_n 2, 1) := by decide +kernel
theorem dX12_tightestNow_4 : decode cX12_tightestNow 4 = .ok (.iload_n 2, 1) := by decide +kernel
theorem dX12_tightestNow_5 : decode cX12_tightestNow 5 = .ok (.aload_n 0, 1) := by decide +kernel
theorem dX12_tightestNow_6 : decode cX12_tightestNow 6 = .ok (.getfield 20, 3) := by decide +kernel
theorem dX12_tightestNow_9 : decode cX12_tightestNow 9 = .ok (.iconst 1, 1) := by decide +kernel
theorem dX12_tightestNow_10 : decode cX12_tightestNow 10 = .ok (.iaload, 1) := by decide +kernel
theorem dX12_tightestNow_11 : decode cX12_tightestNow 11 = .ok (.if_icmp .gt 24, 3) := by decide +kernel
theorem dX12_tightestNow_14 : decode cX12_tightestNow 14 = .ok (.aload_n 0, 1) := by decide +kernel
theorem dX12_tightestNow_15 : decode cX12_tightestNow 15 = .ok (.iload_n 2, 1) := by decide +kernel
theorem dX12_tightestNow_16 : decode cX12_tightestNow 16 = .ok (.invokevirtual 301, 3) := by decide +kernel
theorem dX12_tightestNow_19 : decode cX12_tightestNow 19 = .ok (.aload_n 0, 1) := by decide +kernel
theorem dX12_tightestNow_20 : decode cX12_tightestNow 20 = .ok (.iload_n 1, 1) := by decide +kernel
theorem dX12_tightestNow_21 : decode cX12_tightestNow 21 = .ok (.invokevirtual 301, 3) := by decide +kernel
theorem dX12_tightestNow_24 : decode cX12_tightestNow 24 = .ok (.if_icmp .ge 5, 3) := by decide +kernel
theorem dX12_tightestNow_27 : decode cX12_tightestNow 27 = .ok (.iload_n 2, 1) := by decide +kernel
theorem dX12_tightestNow_28 : decode cX12_tightestNow 28 = .ok (.istore_n 1, 1) := by decide +kernel
theorem dX12_tightestNow_29 : decode cX12_tightestNow 29 = .ok (.iinc 2 1, 3) := by decide +kernel
theorem dX12_tightestNow_32 : decode cX12_tightestNow 32 = .ok (.goto (-28), 3) := by decide +kernel
theorem dX12_tightestNow_35 : decode cX12_tightestNow 35 = .ok (.iload_n 1, 1) := by decide +kernel
theorem dX12_tightestNow_36 : decode cX12_tightestNow 36 = .ok (.ireturn, 1) := by decide +kernel
theorem dX12_largestEmpty_0 : decode cX12_largestEmpty 0 = .ok (.iconst (-1), 1) := by decide +kernel
theorem dX12_largestEmpty_1 : decode cX12_largestEmpty 1 = .ok (.istore_n 2, 1) := by decide +kernel
theorem dX12_largestEmpty_2 : decode cX12_largestEmpty 2 = .ok (.iconst 0, 1) := by decide +kernel
theorem dX12_largestEmpty_3 : decode cX12_largestEmpty 3 = .ok (.istore_n 3, 1) := by decide +kernel
theorem dX12_largestEmpty_4 : decode cX12_largestEmpty 4 = .ok (.iload_n 3, 1) := by decide +kernel
theorem dX12_largestEmpty_5 : decode cX12_largestEmpty 5 = .ok (.aload_n 0, 1) := by decide +kernel
theorem dX12_largestEmpty_6 : decode cX12_largestEmpty 6 = .ok (.getfield 20, 3) := by decide +kernel
theorem dX12_largestEmpty_9 : decode cX12_largestEmpty 9 = .ok (.iconst 1, 1) := by decide +kernel
theorem dX12_largestEmpty_10 : decode cX12_largestEmpty 10 = .ok (.iaload, 1) := by decide +kernel
theorem dX12_largestEmpty_11 : decode cX12_largestEmpty 11 = .ok (.if_icmp .gt 39, 3) := by decide +kernel
theorem dX12_largestEmpty_14 : decode cX12_largestEmpty 14 = .ok (.iload_n 1, 1) := by decide +kernel
theorem dX12_largestEmpty_15 : decode cX12_largestEmpty 15 = .ok (.iload_n 3, 1) := by decide +kernel
theorem dX12_largestEmpty_16 : decode cX12_largestEmpty 16 = .ok (.invokestatic 178, 3) := by decide +kernel
theorem dX12_largestEmpty_19 : decode cX12_largestEmpty 19 = .ok (.ifCond .ne 25, 3) := by decide +kernel
theorem dX12_largestEmpty_22 : decode cX12_largestEmpty 22 = .ok (.iload_n 2, 1) := by decide +kernel
theorem dX12_largestEmpty_23 : decode cX12_largestEmpty 23 = .ok (.iconst (-1), 1) := by decide +kernel
theorem dX12_largestEmpty_24 : decode cX12_largestEmpty 24 = .ok (.if_icmp .eq 18, 3) := by decide +kernel
theorem dX12_largestEmpty_27 : decode cX12_largestEmpty 27 = .ok (.aload_n 0, 1) := by decide +kernel
theorem dX12_largestEmpty_28 : decode cX12_largestEmpty 28 = .ok (.getfield 51, 3) := by decide +kernel
theorem dX12_largestEmpty_31 : decode cX12_largestEmpty 31 = .ok (.iload_n 3, 1) := by decide +kernel
theorem dX12_largestEmpty_32 : decode cX12_largestEmpty 32 = .ok (.iaload, 1) := by decide +kernel
theorem dX12_largestEmpty_33 : decode cX12_largestEmpty 33 = .ok (.aload_n 0, 1) := by decide +kernel
theorem dX12_largestEmpty_34 : decode cX12_largestEmpty 34 = .ok (.getfield 51, 3) := by decide +kernel
theorem dX12_largestEmpty_37 : decode cX12_largestEmpty 37 = .ok (.iload_n 2, 1) := by decide +kernel
theorem dX12_largestEmpty_38 : decode cX12_largestEmpty 38 = .ok (.iaload, 1) := by decide +kernel
theorem dX12_largestEmpty_39 : decode cX12_largestEmpty 39 = .ok (.if_icmp .le 5, 3) := by decide +kernel
theorem dX12_largestEmpty_42 : decode cX12_largestEmpty 42 = .ok (.iload_n 3, 1) := by decide +kernel
theorem dX12_largestEmpty_43 : decode cX12_largestEmpty 43 = .ok (.istore_n 2, 1) := by decide +kernel
theorem dX12_largestEmpty_44 : decode cX12_largestEmpty 44 = .ok (.iinc 3 1, 3) := by decide +kernel
theorem dX12_largestEmpty_47 : decode cX12_largestEmpty 47 = .ok (.goto (-43), 3) := by decide +kernel
theorem dX12_largestEmpty_50 : decode cX12_largestEmpty 50 = .ok (.iload_n 2, 1) := by decide +kernel
theorem dX12_largestEmpty_51 : decode cX12_largestEmpty 51 = .ok (.ireturn, 1) := by decide +kernel
theorem dX12_kindFor_0 : decode cX12_kindFor 0 = .ok (.iconst (-1), 1) := by decide +kernel
theorem dX12_kindFor_1 : decode cX12_kindFor 1 = .ok (.istore_n 2, 1) := by decide +kernel
theorem dX12_kindFor_2 : decode cX12_kindFor 2 = .ok (.iconst 0, 1) := by decide +kernel
theorem dX12_kindFor_3 : decode cX12_kindFor 3 = .ok (.istore_n 3, 1) := by decide +kernel
theorem dX12_kindFor_4 : decode cX12_kindFor 4 = .ok (.iload_n 3, 1) := by decide +kernel
theorem dX12_kindFor_5 : decode cX12_kindFor 5 = .ok (.aload_n 0, 1) := by decide +kernel
theorem dX12_kindFor_6 : decode cX12_kindFor 6 = .ok (.getfield 20, 3) := by decide +kernel
theorem dX12_kindFor_9 : decode cX12_kindFor 9 = .ok (.iconst 2, 1) := by decide +kernel
theorem dX12_kindFor_10 : decode cX12_kindFor 10 = .ok (.iaload, 1) := by decide +kernel
theorem dX12_kindFor_11 : decode cX12_kindFor 11 = .ok (.if_icmp .ge 68, 3) := by decide +kernel
theorem dX12_kindFor_14 : decode cX12_kindFor 14 = .ok (.aload_n 0, 1) := by decide +kernel
theorem dX12_kindFor_15 : decode cX12_kindFor 15 = .ok (.getfield 48, 3) := by decide +kernel
theorem dX12_kindFor_18 : decode cX12_kindFor 18 = .ok (.iload_n 3, 1) := by decide +kernel
theorem dX12_kindFor_19 : decode cX12_kindFor 19 = .ok (.iaload, 1) := by decide +kernel
theorem dX12_kindFor_20 : decode cX12_kindFor 20 = .ok (.ifCond .eq 53, 3) := by decide +kernel
theorem dX12_kindFor_23 : decode cX12_kindFor 23 = .ok (.sipush 1000, 3) := by decide +kernel
theorem dX12_kindFor_26 : decode cX12_kindFor 26 = .ok (.aload_n 0, 1) := by decide +kernel
theorem dX12_kindFor_27 : decode cX12_kindFor 27 = .ok (.iload_n 3, 1) := by decide +kernel
theorem dX12_kindFor_28 : decode cX12_kindFor 28 = .ok (.iconst 0, 1) := by decide +kernel
theorem dX12_kindFor_29 : decode cX12_kindFor 29 = .ok (.invokevirtual 307, 3) := by decide +kernel
theorem dX12_kindFor_32 : decode cX12_kindFor 32 = .ok (.imul, 1) := by decide +kernel
theorem dX12_kindFor_33 : decode cX12_kindFor 33 = .ok (.sipush 200, 3) := by decide +kernel
theorem dX12_kindFor_36 : decode cX12_kindFor 36 = .ok (.aload_n 0, 1) := by decide +kernel
theorem dX12_kindFor_37 : decode cX12_kindFor 37 = .ok (.getfield 20, 3) := by decide +kernel
theorem dX12_kindFor_40 : decode cX12_kindFor 40 = .ok (.iconst 4, 1) := by decide +kernel
theorem dX12_kindFor_41 : decode cX12_kindFor 41 = .ok (.iaload, 1) := by decide +kernel
theorem dX12_kindFor_42 : decode cX12_kindFor 42 = .ok (.imul, 1) := by decide +kernel
theorem dX12_kindFor_43 : decode cX12_kindFor 43 = .ok (.iadd, 1) := by decide +kernel
theorem dX12_kindFor_44 : decode cX12_kindFor 44 = .ok (.iload_n 1, 1) := by decide +kernel
theorem dX12_kindFor_45 : decode cX12_kindFor 45 = .ok (.if_icmp .le 6, 3) := by decide +kernel
theorem dX12_kindFor_48 : decode cX12_kindFor 48 = .ok (.goto 25, 3) := by decide +kernel
theorem dX12_kindFor_51 : decode cX12_kindFor 51 = .ok (.iload_n 2, 1) := by decide +kernel
theorem dX12_kindFor_52 : decode cX12_kindFor 52 = .ok (.iconst (-1), 1) := by decide +kernel
theorem dX12_kindFor_53 : decode cX12_kindFor 53 = .ok (.if_icmp .eq 18, 3) := by decide +kernel
theorem dX12_kindFor_56 : decode cX12_kindFor 56 = .ok (.aload_n 0, 1) := by decide +kernel
theorem dX12_kindFor_57 : decode cX12_kindFor 57 = .ok (.iload_n 3, 1) := by decide +kernel
theorem dX12_kindFor_58 : decode cX12_kindFor 58 = .ok (.iconst 1, 1) := by decide +kernel
theorem dX12_kindFor_59 : decode cX12_kindFor 59 = .ok (.invokevirtual 307, 3) := by decide +kernel
theorem dX12_kindFor_62 : decode cX12_kindFor 62 = .ok (.aload_n 0, 1) := by decide +kernel
theorem dX12_kindFor_63 : decode cX12_kindFor 63 = .ok (.iload_n 2, 1) := by decide +kernel
theorem dX12_kindFor_64 : decode cX12_kindFor 64 = .ok (.iconst 1, 1) := by decide +kernel
theorem dX12_kindFor_65 : decode cX12_kindFor 65 = .ok (.invokevirtual 307, 3) := by decide +kernel
theorem dX12_kindFor_68 : decode cX12_kindFor 68 = .ok (.if_icmp .le 5, 3) := by decide +kernel
theorem dX12_kindFor_71 : decode cX12_kindFor 71 = .ok (.iload_n 3, 1) := by decide +kernel
theorem dX12_kindFor_72 : decode cX12_kindFor 72 = .ok (.istore_n 2, 1) := by decide +kernel
theorem dX12_kindFor_73 : decode cX12_kindFor 73 = .ok (.iinc 3 1, 3) := by decide +kernel
theorem dX12_kindFor_76 : decode cX12_kindFor 76 = .ok (.goto (-72), 3) := by decide +kernel
theorem dX12_kindFor_79 : decode cX12_kindFor 79 = .ok (.iload_n 2, 1) := by decide +kernel
theorem dX12_kindFor_80 : decode cX12_kindFor 80 = .ok (.ireturn, 1) := by decide +kernel
theorem dX12_laysFlourishes_0 : decode cX12_laysFlourishes 0 = .ok (.iconst 0, 1) := by decide +kernel
theorem dX12_laysFlourishes_1 : decode cX12_laysFlourishes 1 = .ok (.istore_n 1, 1) := by decide +kernel
theorem dX12_laysFlourishes_2 : decode cX12_laysFlourishes 2 = .ok (.iload_n 1, 1) := by decide +kernel
theorem dX12_laysFlourishes_3 : decode cX12_laysFlourishes 3 = .ok (.aload_n 0, 1) := by decide +kernel
theorem dX12_laysFlourishes_4 : decode cX12_laysFlourishes 4 = .ok (.getfield 20, 3) := by decide +kernel
theorem dX12_laysFlourishes_7 : decode cX12_laysFlourishes 7 = .ok (.iconst 2, 1) := by decide +kernel
theorem dX12_laysFlourishes_8 : decode cX12_laysFlourishes 8 = .ok (.iaload, 1) := by decide +kernel
theorem dX12_laysFlourishes_9 : decode cX12_laysFlourishes 9 = .ok (.if_icmp .ge 21, 3) := by decide +kernel
theorem dX12_laysFlourishes_12 : decode cX12_laysFlourishes 12 = .ok (.aload_n 0, 1) := by decide +kernel
theorem dX12_laysFlourishes_13 : decode cX12_laysFlourishes 13 = .ok (.getfield 48, 3) := by decide +kernel
theorem dX12_laysFlourishes_16 : decode cX12_laysFlourishes 16 = .ok (.iload_n 1, 1) := by decide +kernel
theorem dX12_laysFlourishes_17 : decode cX12_laysFlourishes 17 = .ok (.aload_n 0, 1) := by decide +kernel
theorem dX12_laysFlourishes_18 : decode cX12_laysFlourishes 18 = .ok (.iload_n 1, 1) := by decide +kernel
theorem dX12_laysFlourishes_19 : decode cX12_laysFlourishes 19 = .ok (.iconst 2, 1) := by decide +kernel
theorem dX12_laysFlourishes_20 : decode cX12_laysFlourishes 20 = .ok (.invokevirtual 307, 3) := by decide +kernel
theorem dX12_laysFlourishes_23 : decode cX12_laysFlourishes 23 = .ok (.iastore, 1) := by decide +kernel
theorem dX12_laysFlourishes_24 : decode cX12_laysFlourishes 24 = .ok (.iinc 1 1, 3) := by decide +kernel
theorem dX12_laysFlourishes_27 : decode cX12_laysFlourishes 27 = .ok (.goto (-25), 3) := by decide +kernel
theorem dX12_laysFlourishes_30 : decode cX12_laysFlourishes 30 = .ok (.iconst 0, 1) := by decide +kernel
theorem dX12_laysFlourishes_31 : decode cX12_laysFlourishes 31 = .ok (.istore_n 1, 1) := by decide +kernel
theorem dX12_laysFlourishes_32 : decode cX12_laysFlourishes 32 = .ok (.iload_n 1, 1) := by decide +kernel
theorem dX12_laysFlourishes_33 : decode cX12_laysFlourishes 33 = .ok (.aload_n 0, 1) := by decide +kernel
theorem dX12_laysFlourishes_34 : decode cX12_laysFlourishes 34 = .ok (.getfield 20, 3) := by decide +kernel
theorem dX12_laysFlourishes_37 : decode cX12_laysFlourishes 37 = .ok (.iconst 1, 1) := by decide +kernel
theorem dX12_laysFlourishes_38 : decode cX12_laysFlourishes 38 = .ok (.iaload, 1) := by decide +kernel
theorem dX12_laysFlourishes_39 : decode cX12_laysFlourishes 39 = .ok (.if_icmp .gt 20, 3) := by decide +kernel
theorem dX12_laysFlourishes_42 : decode cX12_laysFlourishes 42 = .ok (.aload_n 0, 1) := by decide +kernel
theorem dX12_laysFlourishes_43 : decode cX12_laysFlourishes 43 = .ok (.getfield 51, 3) := by decide +kernel
theorem dX12_laysFlourishes_46 : decode cX12_laysFlourishes 46 = .ok (.iload_n 1, 1) := by decide +kernel
theorem dX12_laysFlourishes_47 : decode cX12_laysFlourishes 47 = .ok (.aload_n 0, 1) := by decide +kernel
theorem dX12_laysFlourishes_48 : decode cX12_laysFlourishes 48 = .ok (.iload_n 1, 1) := by decide +kernel
theorem dX12_laysFlourishes_49 : decode cX12_laysFlourishes 49 = .ok (.invokevirtual 301, 3) := by decide +kernel
theorem dX12_laysFlourishes_52 : decode cX12_laysFlourishes 52 = .ok (.iastore, 1) := by decide +kernel
theorem dX12_laysFlourishes_53 : decode cX12_laysFlourishes 53 = .ok (.iinc 1 1, 3) := by decide +kernel
theorem dX12_laysFlourishes_56 : decode cX12_laysFlourishes 56 = .ok (.goto (-24), 3) := by decide +kernel
theorem dX12_laysFlourishes_59 : decode cX12_laysFlourishes 59 = .ok (.iconst 0, 1) := by decide +kernel
theorem dX12_laysFlourishes_60 : decode cX12_laysFlourishes 60 = .ok (.istore_n 1, 1) := by decide +kernel
theorem dX12_laysFlourishes_61 : decode cX12_laysFlourishes 61 = .ok (.iconst 0, 1) := by decide +kernel
theorem dX12_laysFlourishes_62 : decode cX12_laysFlourishes 62 = .ok (.istore_n 2, 1) := by decide +kernel
theorem dX12_laysFlourishes_63 : decode cX12_laysFlourishes 63 = .ok (.iload_n 2, 1) := by decide +kernel
theorem dX12_laysFlourishes_64 : decode cX12_laysFlourishes 64 = .ok (.aload_n 0, 1) := by decide +kernel
theorem dX12_laysFlourishes_65 : decode cX12_laysFlourishes 65 = .ok (.getfield 20, 3) := by decide +kernel
theorem dX12_laysFlourishes_68 : decode cX12_laysFlourishes 68 = .ok (.iconst 1, 1) := by decide +kernel
theorem dX12_laysFlourishes_69 : decode cX12_laysFlourishes 69 = .ok (.iaload, 1) := by decide +kernel
theorem dX12_laysFlourishes_70 : decode cX12_laysFlourishes 70 = .ok (.if_icmp .gt 58, 3) := by decide +kernel
theorem dX12_laysFlourishes_73 : decode cX12_laysFlourishes 73 = .ok (.aload_n 0, 1) := by decide +kernel
theorem dX12_laysFlourishes_74 : decode cX12_laysFlourishes 74 = .ok (.iload_n 1, 1) := by decide +kernel
theorem dX12_laysFlourishes_75 : decode cX12_laysFlourishes 75 = .ok (.invokevirtual 310, 3) := by decide +kernel
theorem dX12_laysFlourishes_78 : decode cX12_laysFlourishes 78 = .ok (.istore_n 3, 1) := by decide +kernel
theorem dX12_laysFlourishes_79 : decode cX12_laysFlourishes 79 = .ok (.iload_n 1, 1) := by decide +kernel
theorem dX12_laysFlourishes_80 : decode cX12_laysFlourishes 80 = .ok (.iconst 1, 1) := by decide +kernel
theorem dX12_laysFlourishes_81 : decode cX12_laysFlourishes 81 = .ok (.iload_n 3, 1) := by decide +kernel
theorem dX12_laysFlourishes_82 : decode cX12_laysFlourishes 82 = .ok (.ishl, 1) := by decide +kernel
theorem dX12_laysFlourishes_83 : decode cX12_laysFlourishes 83 = .ok (.ior, 1) := by decide +kernel
theorem dX12_laysFlourishes_84 : decode cX12_laysFlourishes 84 = .ok (.istore_n 1, 1) := by decide +kernel
theorem dX12_laysFlourishes_85 : decode cX12_laysFlourishes 85 = .ok (.aload_n 0, 1) := by decide +kernel
theorem dX12_laysFlourishes_86 : decode cX12_laysFlourishes 86 = .ok (.aload_n 0, 1) := by decide +kernel
theorem dX12_laysFlourishes_87 : decode cX12_laysFlourishes 87 = .ok (.getfield 51, 3) := by decide +kernel
theorem dX12_laysFlourishes_90 : decode cX12_laysFlourishes 90 = .ok (.iload_n 3, 1) := by decide +kernel
theorem dX12_laysFlourishes_91 : decode cX12_laysFlourishes 91 = .ok (.iaload, 1) := by decide +kernel
theorem dX12_laysFlourishes_92 : decode cX12_laysFlourishes 92 = .ok (.invokevirtual 313, 3) := by decide +kernel
theorem dX12_laysFlourishes_95 : decode cX12_laysFlourishes 95 = .ok (.istore 4, 2) := by decide +kernel
theorem dX12_laysFlourishes_97 : decode cX12_laysFlourishes 97 = .ok (.aload_n 0, 1) := by decide +kernel
theorem dX12_laysFlourishes_98 : decode cX12_laysFlourishes 98 = .ok (.getfield 45, 3) := by decide +kernel
theorem dX12_laysFlourishes_101 : decode cX12_laysFlourishes 101 = .ok (.iload_n 3, 1) := by decide +kernel
theorem dX12_laysFlourishes_102 : decode cX12_laysFlourishes 102 = .ok (.iload 4, 2) := by decide +kernel
theorem dX12_laysFlourishes_104 : decode cX12_laysFlourishes 104 = .ok (.iastore, 1) := by decide +kernel
theorem dX12_laysFlourishes_105 : decode cX12_laysFlourishes 105 = .ok (.iload 4, 2) := by decide +kernel
theorem dX12_laysFlourishes_107 : decode cX12_laysFlourishes 107 = .ok (.iconst (-1), 1) := by decide +kernel
theorem dX12_laysFlourishes_108 : decode cX12_laysFlourishes 108 = .ok (.if_icmp .eq 14, 3) := by decide +kernel
theorem dX12_laysFlourishes_111 : decode cX12_laysFlourishes 111 = .ok (.aload_n 0, 1) := by decide +kernel
theorem dX12_laysFlourishes_112 : decode cX12_laysFlourishes 112 = .ok (.getfield 48, 3) := by decide +kernel
theorem dX12_laysFlourishes_115 : decode cX12_laysFlourishes 115 = .ok (.iload 4, 2) := by decide +kernel
theorem dX12_laysFlourishes_117 : decode cX12_laysFlourishes 117 = .ok (.dup2, 1) := by decide +kernel
theorem dX12_laysFlourishes_118 : decode cX12_laysFlourishes 118 = .ok (.iaload, 1) := by decide +kernel
theorem dX12_laysFlourishes_119 : decode cX12_laysFlourishes 119 = .ok (.iconst 1, 1) := by decide +kernel
theorem dX12_laysFlourishes_120 : decode cX12_laysFlourishes 120 = .ok (.isub, 1) := by decide +kernel
theorem dX12_laysFlourishes_121 : decode cX12_laysFlourishes 121 = .ok (.iastore, 1) := by decide +kernel
theorem dX12_laysFlourishes_122 : decode cX12_laysFlourishes 122 = .ok (.iinc 2 1, 3) := by decide +kernel
theorem dX12_laysFlourishes_125 : decode cX12_laysFlourishes 125 = .ok (.goto (-62), 3) := by decide +kernel
theorem dX12_laysFlourishes_128 : decode cX12_laysFlourishes 128 = .ok (.return_, 1) := by decide +kernel
theorem dX12_spoiledBy_0 : decode cX12_spoiledBy 0 = .ok (.aload_n 0, 1) := by decide +kernel
theorem dX12_spoiledBy_1 : decode cX12_spoiledBy 1 = .ok (.iload_n 1, 1) := by decide +kernel
theorem dX12_spoiledBy_2 : decode cX12_spoiledBy 2 = .ok (.iconst 0, 1) := by decide +kernel
theorem dX12_spoiledBy_3 : decode cX12_spoiledBy 3 = .ok (.invokevirtual 316, 3) := by decide +kernel
theorem dX12_spoiledBy_6 : decode cX12_spoiledBy 6 = .ok (.iconst 1, 1) := by decide +kernel
theorem dX12_spoiledBy_7 : decode cX12_spoiledBy 7 = .ok (.iadd, 1) := by decide +kernel
theorem dX12_spoiledBy_8 : decode cX12_spoiledBy 8 = .ok (.istore_n 2, 1) := by decide +kernel
theorem dX12_spoiledBy_9 : decode cX12_spoiledBy 9 = .ok (.iload_n 2, 1) := by decide +kernel
theorem dX12_spoiledBy_10 : decode cX12_spoiledBy 10 = .ok (.aload_n 0, 1) := by decide +kernel
theorem dX12_spoiledBy_11 : decode cX12_spoiledBy 11 = .ok (.getfield 20, 3) := by decide +kernel
theorem dX12_spoiledBy_14 : decode cX12_spoiledBy 14 = .ok (.iconst 1, 1) := by decide +kernel
theorem dX12_spoiledBy_15 : decode cX12_spoiledBy 15 = .ok (.iaload, 1) := by decide +kernel
theorem dX12_spoiledBy_16 : decode cX12_spoiledBy 16 = .ok (.if_icmp .ge 21, 3) := by decide +kernel
theorem dX12_spoiledBy_19 : decode cX12_spoiledBy 19 = .ok (.aload_n 0, 1) := by decide +kernel
theorem dX12_spoiledBy_20 : decode cX12_spoiledBy 20 = .ok (.iload_n 1, 1) := by decide +kernel
theorem dX12_spoiledBy_21 : decode cX12_spoiledBy 21 = .ok (.iconst 1, 1) := by decide +kernel
theorem dX12_spoiledBy_22 : decode cX12_spoiledBy 22 = .ok (.invokevirtual 316, 3) := by decide +kernel
theorem dX12_spoiledBy_25 : decode cX12_spoiledBy 25 = .ok (.aload_n 0, 1) := by decide +kernel
theorem dX12_spoiledBy_26 : decode cX12_spoiledBy 26 = .ok (.iload_n 2, 1) := by decide +kernel
theorem dX12_spoiledBy_27 : decode cX12_spoiledBy 27 = .ok (.invokevirtual 301, 3) := by decide +kernel
theorem dX12_spoiledBy_30 : decode cX12_spoiledBy 30 = .ok (.if_icmp .le 7, 3) := by decide +kernel
theorem dX12_spoiledBy_33 : decode cX12_spoiledBy 33 = .ok (.iload_n 2, 1) := by decide +kernel
theorem dX12_spoiledBy_34 : decode cX12_spoiledBy 34 = .ok (.goto 4, 3) := by decide +kernel
theorem dX12_spoiledBy_37 : decode cX12_spoiledBy 37 = .ok (.iconst (-1), 1) := by decide +kernel
theorem dX12_spoiledBy_38 : decode cX12_spoiledBy 38 = .ok (.ireturn, 1) := by decide +kernel
theorem dX12_isSpoiled_0 : decode cX12_isSpoiled 0 = .ok (.iconst 0, 1) := by decide +kernel
theorem dX12_isSpoiled_1 : decode cX12_isSpoiled 1 = .ok (.istore_n 2, 1) := by decide +kernel
theorem dX12_isSpoiled_2 : decode cX12_isSpoiled 2 = .ok (.iconst 0, 1) := by decide +kernel
theorem dX12_isSpoiled_3 : decode cX12_isSpoiled 3 = .ok (.istore_n 3, 1) := by decide +kernel
theorem dX12_isSpoiled_4 : decode cX12_isSpoiled 4 = .ok (.iload_n 3, 1) := by decide +kernel
theorem dX12_isSpoiled_5 : decode cX12_isSpoiled 5 = .ok (.aload_n 0, 1) := by decide +kernel
theorem dX12_isSpoiled_6 : decode cX12_isSpoiled 6 = .ok (.getfield 20, 3) := by decide +kernel
theorem dX12_isSpoiled_9 : decode cX12_isSpoiled 9 = .ok (.bipush 8, 2) := by decide +kernel
theorem dX12_isSpoiled_11 : decode cX12_isSpoiled 11 = .ok (.iaload, 1) := by decide +kernel
theorem dX12_isSpoiled_12 : decode cX12_isSpoiled 12 = .ok (.if_icmp .ge 28, 3) := by decide +kernel
theorem dX12_isSpoiled_15 : decode cX12_isSpoiled 15 = .ok (.iload_n 2, 1) := by decide +kernel
theorem dX12_isSpoiled_16 : decode cX12_isSpoiled 16 = .ok (.ifCond .ne 24, 3) := by decide +kernel
theorem dX12_isSpoiled_19 : decode cX12_isSpoiled 19 = .ok (.aload_n 0, 1) := by decide +kernel
theorem dX12_isSpoiled_20 : decode cX12_isSpoiled 20 = .ok (.iload_n 3, 1) := by decide +kernel
theorem dX12_isSpoiled_21 : decode cX12_isSpoiled 21 = .ok (.invokevirtual 319, 3) := by decide +kernel
theorem dX12_isSpoiled_24 : decode cX12_isSpoiled 24 = .ok (.iload_n 1, 1) := by decide +kernel
theorem dX12_isSpoiled_25 : decode cX12_isSpoiled 25 = .ok (.if_icmp .ne 7, 3) := by decide +kernel
theorem dX12_isSpoiled_28 : decode cX12_isSpoiled 28 = .ok (.iconst 1, 1) := by decide +kernel
theorem dX12_isSpoiled_29 : decode cX12_isSpoiled 29 = .ok (.goto 4, 3) := by decide +kernel
theorem dX12_isSpoiled_32 : decode cX12_isSpoiled 32 = .ok (.iconst 0, 1) := by decide +kernel
theorem dX12_isSpoiled_33 : decode cX12_isSpoiled 33 = .ok (.istore_n 2, 1) := by decide +kernel
theorem dX12_isSpoiled_34 : decode cX12_isSpoiled 34 = .ok (.iinc 3 1, 3) := by decide +kernel
theorem dX12_isSpoiled_37 : decode cX12_isSpoiled 37 = .ok (.goto (-33), 3) := by decide +kernel
theorem dX12_isSpoiled_40 : decode cX12_isSpoiled 40 = .ok (.iload_n 2, 1) := by decide +kernel
theorem dX12_isSpoiled_41 : decode cX12_isSpoiled 41 = .ok (.ireturn, 1) := by decide +kernel
theorem dX12_scratchesOf_0 : decode cX12_scratchesOf 0 = .ok (.iconst 0, 1) := by decide +kernel
theorem dX12_scratchesOf_1 : decode cX12_scratchesOf 1 = .ok (.istore_n 2, 1) := by decide +kernel
theorem dX12_scratchesOf_2 : decode cX12_scratchesOf 2 = .ok (.iconst 0, 1) := by decide +kernel
theorem dX12_scratchesOf_3 : decode cX12_scratchesOf 3 = .ok (.istore_n 3, 1) := by decide +kernel
theorem dX12_scratchesOf_4 : decode cX12_scratchesOf 4 = .ok (.iload_n 3, 1) := by decide +kernel
theorem dX12_scratchesOf_5 : decode cX12_scratchesOf 5 = .ok (.aload_n 0, 1) := by decide +kernel
theorem dX12_scratchesOf_6 : decode cX12_scratchesOf 6 = .ok (.getfield 20, 3) := by decide +kernel
theorem dX12_scratchesOf_9 : decode cX12_scratchesOf 9 = .ok (.bipush 8, 2) := by decide +kernel
theorem dX12_scratchesOf_11 : decode cX12_scratchesOf 11 = .ok (.iaload, 1) := by decide +kernel
theorem dX12_scratchesOf_12 : decode cX12_scratchesOf 12 = .ok (.if_icmp .ge 30, 3) := by decide +kernel
theorem dX12_scratchesOf_15 : decode cX12_scratchesOf 15 = .ok (.iload_n 2, 1) := by decide +kernel
theorem dX12_scratchesOf_16 : decode cX12_scratchesOf 16 = .ok (.aload_n 0, 1) := by decide +kernel
theorem dX12_scratchesOf_17 : decode cX12_scratchesOf 17 = .ok (.iload_n 3, 1) := by decide +kernel
theorem dX12_scratchesOf_18 : decode cX12_scratchesOf 18 = .ok (.iconst 0, 1) := by decide +kernel
theorem dX12_scratchesOf_19 : decode cX12_scratchesOf 19 = .ok (.invokevirtual 316, 3) := by decide +kernel
theorem dX12_scratchesOf_22 : decode cX12_scratchesOf 22 = .ok (.iload_n 1, 1) := by decide +kernel
theorem dX12_scratchesOf_23 : decode cX12_scratchesOf 23 = .ok (.if_icmp .ne 7, 3) := by decide +kernel
theorem dX12_scratchesOf_26 : decode cX12_scratchesOf 26 = .ok (.iconst 1, 1) := by decide +kernel
theorem dX12_scratchesOf_27 : decode cX12_scratchesOf 27 = .ok (.goto 4, 3) := by decide +kernel
theorem dX12_scratchesOf_30 : decode cX12_scratchesOf 30 = .ok (.iconst 0, 1) := by decide +kernel
theorem dX12_scratchesOf_31 : decode cX12_scratchesOf 31 = .ok (.invokestatic 75, 3) := by decide +kernel
theorem dX12_scratchesOf_34 : decode cX12_scratchesOf 34 = .ok (.iadd, 1) := by decide +kernel
theorem dX12_scratchesOf_35 : decode cX12_scratchesOf 35 = .ok (.istore_n 2, 1) := by decide +kernel
theorem dX12_scratchesOf_36 : decode cX12_scratchesOf 36 = .ok (.iinc 3 1, 3) := by decide +kernel
theorem dX12_scratchesOf_39 : decode cX12_scratchesOf 39 = .ok (.goto (-35), 3) := by decide +kernel
theorem dX12_scratchesOf_42 : decode cX12_scratchesOf 42 = .ok (.iload_n 2, 1) := by decide +kernel
theorem dX12_scratchesOf_43 : decode cX12_scratchesOf 43 = .ok (.ireturn, 1) := by decide +kernel
theorem dX12_spoiledMany_0 : decode cX12_spoiledMany 0 = .ok (.iconst 0, 1) := by decide +kernel
theorem dX12_spoiledMany_1 : decode cX12_spoiledMany 1 = .ok (.istore_n 1, 1) := by decide +kernel
theorem dX12_spoiledMany_2 : decode cX12_spoiledMany 2 = .ok (.iconst 0, 1) := by decide +kernel
theorem dX12_spoiledMany_3 : decode cX12_spoiledMany 3 = .ok (.istore_n 2, 1) := by decide +kernel
theorem dX12_spoiledMany_4 : decode cX12_spoiledMany 4 = .ok (.iload_n 2, 1) := by decide +kernel
theorem dX12_spoiledMany_5 : decode cX12_spoiledMany 5 = .ok (.aload_n 0, 1) := by decide +kernel
theorem dX12_spoiledMany_6 : decode cX12_spoiledMany 6 = .ok (.getfield 20, 3) := by decide +kernel
theorem dX12_spoiledMany_9 : decode cX12_spoiledMany 9 = .ok (.iconst 1, 1) := by decide +kernel
theorem dX12_spoiledMany_10 : decode cX12_spoiledMany 10 = .ok (.iaload, 1) := by decide +kernel
theorem dX12_spoiledMany_11 : decode cX12_spoiledMany 11 = .ok (.if_icmp .ge 20, 3) := by decide +kernel
theorem dX12_spoiledMany_14 : decode cX12_spoiledMany 14 = .ok (.iload_n 1, 1) := by decide +kernel
theorem dX12_spoiledMany_15 : decode cX12_spoiledMany 15 = .ok (.aload_n 0, 1) := by decide +kernel
theorem dX12_spoiledMany_16 : decode cX12_spoiledMany 16 = .ok (.iload_n 2, 1) := by decide +kernel
theorem dX12_spoiledMany_17 : decode cX12_spoiledMany 17 = .ok (.invokevirtual 322, 3) := by decide +kernel
theorem dX12_spoiledMany_20 : decode cX12_spoiledMany 20 = .ok (.invokestatic 75, 3) := by decide +kernel
theorem dX12_spoiledMany_23 : decode cX12_spoiledMany 23 = .ok (.iadd, 1) := by decide +kernel
theorem dX12_spoiledMany_24 : decode cX12_spoiledMany 24 = .ok (.istore_n 1, 1) := by decide +kernel
theorem dX12_spoiledMany_25 : decode cX12_spoiledMany 25 = .ok (.iinc 2 1, 3) := by decide +kernel
theorem dX12_spoiledMany_28 : decode cX12_spoiledMany 28 = .ok (.goto (-24), 3) := by decide +kernel
theorem dX12_spoiledMany_31 : decode cX12_spoiledMany 31 = .ok (.iload_n 1, 1) := by decide +kernel
theorem dX12_spoiledMany_32 : decode cX12_spoiledMany 32 = .ok (.ireturn, 1) := by decide +kernel
theorem dX12_engravedMany_0 : decode cX12_engravedMany 0 = .ok (.iconst 0, 1) := by decide +kernel
theorem dX12_engravedMany_1 : decode cX12_engravedMany 1 = .ok (.istore_n 1, 1) := by decide +kernel
theorem dX12_engravedMany_2 : decode cX12_engravedMany 2 = .ok (.iconst 0, 1) := by decide +kernel
theorem dX12_engravedMany_3 : decode cX12_engravedMany 3 = .ok (.istore_n 2, 1) := by decide +kernel
theorem dX12_engravedMany_4 : decode cX12_engravedMany 4 = .ok (.iload_n 2, 1) := by decide +kernel
theorem dX12_engravedMany_5 : decode cX12_engravedMany 5 = .ok (.aload_n 0, 1) := by decide +kernel
theorem dX12_engravedMany_6 : decode cX12_engravedMany 6 = .ok (.getfield 20, 3) := by decide +kernel
theorem dX12_engravedMany_9 : decode cX12_engravedMany 9 = .ok (.iconst 1, 1) := by decide +kernel
theorem dX12_engravedMany_10 : decode cX12_engravedMany 10 = .ok (.iaload, 1) := by decide +kernel
theorem dX12_engravedMany_11 : decode cX12_engravedMany 11 = .ok (.if_icmp .ge 18, 3) := by decide +kernel
theorem dX12_engravedMany_14 : decode cX12_engravedMany 14 = .ok (.iload_n 1, 1) := by decide +kernel
theorem dX12_engravedMany_15 : decode cX12_engravedMany 15 = .ok (.aload_n 0, 1) := by decide +kernel
theorem dX12_engravedMany_16 : decode cX12_engravedMany 16 = .ok (.iload_n 2, 1) := by decide +kernel
theorem dX12_engravedMany_17 : decode cX12_engravedMany 17 = .ok (.iconst 1, 1) := by decide +kernel
theorem dX12_engravedMany_18 : decode cX12_engravedMany 18 = .ok (.invokevirtual 280, 3) := by decide +kernel
theorem dX12_engravedMany_21 : decode cX12_engravedMany 21 = .ok (.iadd, 1) := by decide +kernel
theorem dX12_engravedMany_22 : decode cX12_engravedMany 22 = .ok (.istore_n 1, 1) := by decide +kernel
theorem dX12_engravedMany_23 : decode cX12_engravedMany 23 = .ok (.iinc 2 1, 3) := by decide +kernel
theorem dX12_engravedMany_26 : decode cX12_engravedMany 26 = .ok (.goto (-22), 3) := by decide +kernel
theorem dX12_engravedMany_29 : decode cX12_engravedMany 29 = .ok (.iload_n 1, 1) := by decide +kernel
theorem dX12_engravedMany_30 : decode cX12_engravedMany 30 = .ok (.ireturn, 1) := by decide +kernel
theorem dX12_dropsScratch_0 : decode cX12_dropsScratch 0 = .ok (.aload_n 0, 1) := by decide +kernel
theorem dX12_dropsScratch_1 : decode cX12_dropsScratch 1 = .ok (.getfield 20, 3) := by decide +kernel
theorem dX12_dropsScratch_4 : decode cX12_dropsScratch 4 = .ok (.bipush 8, 2) := by decide +kernel
theorem dX12_dropsScratch_6 : decode cX12_dropsScratch 6 = .ok (.dup2, 1) := by decide +kernel
theorem dX12_dropsScratch_7 : decode cX12_dropsScratch 7 = .ok (.iaload, 1) := by decide +kernel
theorem dX12_dropsScratch_8 : decode cX12_dropsScratch 8 = .ok (.iconst 1, 1) := by decide +kernel
theorem dX12_dropsScratch_9 : decode cX12_dropsScratch 9 = .ok (.isub, 1) := by decide +kernel
theorem dX12_dropsScratch_10 : decode cX12_dropsScratch 10 = .ok (.iastore, 1) := by decide +kernel
theorem dX12_dropsScratch_11 : decode cX12_dropsScratch 11 = .ok (.iconst 2, 1) := by decide +kernel
theorem dX12_dropsScratch_12 : decode cX12_dropsScratch 12 = .ok (.iload_n 1, 1) := by decide +kernel
theorem dX12_dropsScratch_13 : decode cX12_dropsScratch 13 = .ok (.imul, 1) := by decide +kernel
theorem dX12_dropsScratch_14 : decode cX12_dropsScratch 14 = .ok (.istore_n 2, 1) := by decide +kernel
theorem dX12_dropsScratch_15 : decode cX12_dropsScratch 15 = .ok (.iload_n 2, 1) := by decide +kernel
theorem dX12_dropsScratch_16 : decode cX12_dropsScratch 16 = .ok (.iconst 2, 1) := by decide +kernel
theorem dX12_dropsScratch_17 : decode cX12_dropsScratch 17 = .ok (.aload_n 0, 1) := by decide +kernel
theorem dX12_dropsScratch_18 : decode cX12_dropsScratch 18 = .ok (.getfield 20, 3) := by decide +kernel
theorem dX12_dropsScratch_21 : decode cX12_dropsScratch 21 = .ok (.bipush 8, 2) := by decide +kernel
theorem dX12_dropsScratch_23 : decode cX12_dropsScratch 23 = .ok (.iaload, 1) := by decide +kernel
theorem dX12_dropsScratch_24 : decode cX12_dropsScratch 24 = .ok (.imul, 1) := by decide +kernel
theorem dX12_dropsScratch_25 : decode cX12_dropsScratch 25 = .ok (.if_icmp .ge 31, 3) := by decide +kernel
theorem dX12_dropsScratch_28 : decode cX12_dropsScratch 28 = .ok (.aload_n 0, 1) := by decide +kernel
theorem dX12_dropsScratch_29 : decode cX12_dropsScratch 29 = .ok (.getfield 20, 3) := by decide +kernel
theorem dX12_dropsScratch_32 : decode cX12_dropsScratch 32 = .ok (.sipush 148, 3) := by decide +kernel
theorem dX12_dropsScratch_35 : decode cX12_dropsScratch 35 = .ok (.iload_n 2, 1) := by decide +kernel
theorem dX12_dropsScratch_36 : decode cX12_dropsScratch 36 = .ok (.iadd, 1) := by decide +kernel
theorem dX12_dropsScratch_37 : decode cX12_dropsScratch 37 = .ok (.aload_n 0, 1) := by decide +kernel
theorem dX12_dropsScratch_38 : decode cX12_dropsScratch 38 = .ok (.getfield 20, 3) := by decide +kernel
theorem dX12_dropsScratch_41 : decode cX12_dropsScratch 41 = .ok (.sipush 148, 3) := by decide +kernel
theorem dX12_dropsScratch_44 : decode cX12_dropsScratch 44 = .ok (.iload_n 2, 1) := by decide +kernel
theorem dX12_dropsScratch_45 : decode cX12_dropsScratch 45 = .ok (.iadd, 1) := by decide +kernel
theorem dX12_dropsScratch_46 : decode cX12_dropsScratch 46 = .ok (.iconst 2, 1) := by decide +kernel
theorem dX12_dropsScratch_47 : decode cX12_dropsScratch 47 = .ok (.iadd, 1) := by decide +kernel
theorem dX12_dropsScratch_48 : decode cX12_dropsScratch 48 = .ok (.iaload, 1) := by decide +kernel
theorem dX12_dropsScratch_49 : decode cX12_dropsScratch 49 = .ok (.iastore, 1) := by decide +kernel
theorem dX12_dropsScratch_50 : decode cX12_dropsScratch 50 = .ok (.iinc 2 1, 3) := by decide +kernel
theorem dX12_dropsScratch_53 : decode cX12_dropsScratch 53 = .ok (.goto (-38), 3) := by decide +kernel
theorem dX12_dropsScratch_56 : decode cX12_dropsScratch 56 = .ok (.return_, 1) := by decide +kernel
theorem dX12_draws_0 : decode cX12_draws 0 = .ok (.aload_n 0, 1) := by decide +kernel
theorem dX12_draws_1 : decode cX12_draws 1 = .ok (.getfield 20, 3) := by decide +kernel
theorem dX12_draws_4 : decode cX12_draws 4 = .ok (.iconst 5, 1) := by decide +kernel
theorem dX12_draws_5 : decode cX12_draws 5 = .ok (.aload_n 0, 1) := by decide +kernel
theorem dX12_draws_6 : decode cX12_draws 6 = .ok (.getfield 20, 3) := by decide +kernel
theorem dX12_draws_9 : decode cX12_draws 9 = .ok (.iconst 5, 1) := by decide +kernel
theorem dX12_draws_10 : decode cX12_draws 10 = .ok (.iaload, 1) := by decide +kernel
theorem dX12_draws_11 : decode cX12_draws 11 = .ok (.ldc_w 325, 3) := by decide +kernel
theorem dX12_draws_14 : decode cX12_draws 14 = .ok (.imul, 1) := by decide +kernel
theorem dX12_draws_15 : decode cX12_draws 15 = .ok (.sipush 12345, 3) := by decide +kernel
theorem dX12_draws_18 : decode cX12_draws 18 = .ok (.iadd, 1) := by decide +kernel
theorem dX12_draws_19 : decode cX12_draws 19 = .ok (.iastore, 1) := by decide +kernel
theorem dX12_draws_20 : decode cX12_draws 20 = .ok (.aload_n 0, 1) := by decide +kernel
theorem dX12_draws_21 : decode cX12_draws 21 = .ok (.getfield 20, 3) := by decide +kernel
theorem dX12_draws_24 : decode cX12_draws 24 = .ok (.iconst 5, 1) := by decide +kernel
theorem dX12_draws_25 : decode cX12_draws 25 = .ok (.iaload, 1) := by decide +kernel
theorem dX12_draws_26 : decode cX12_draws 26 = .ok (.bipush 16, 2) := by decide +kernel
theorem dX12_draws_28 : decode cX12_draws 28 = .ok (.iushr, 1) := by decide +kernel
theorem dX12_draws_29 : decode cX12_draws 29 = .ok (.iload_n 1, 1) := by decide +kernel
theorem dX12_draws_30 : decode cX12_draws 30 = .ok (.irem, 1) := by decide +kernel
theorem dX12_draws_31 : decode cX12_draws 31 = .ok (.ireturn, 1) := by decide +kernel
theorem dX12_hardness_0 : decode cX12_hardness 0 = .ok (.aload_n 0, 1) := by decide +kernel
theorem dX12_hardness_1 : decode cX12_hardness 1 = .ok (.aload_n 0, 1) := by decide +kernel
theorem dX12_hardness_2 : decode cX12_hardness 2 = .ok (.iload_n 1, 1) := by decide +kernel
theorem dX12_hardness_3 : decode cX12_hardness 3 = .ok (.invokevirtual 283, 3) := by decide +kernel
theorem dX12_hardness_6 : decode cX12_hardness 6 = .ok (.invokevirtual 268, 3) := by decide +kernel
theorem dX12_hardness_9 : decode cX12_hardness 9 = .ok (.istore_n 2, 1) := by decide +kernel
theorem dX12_hardness_10 : decode cX12_hardness 10 = .ok (.iload_n 2, 1) := by decide +kernel
theorem dX12_hardness_11 : decode cX12_hardness 11 = .ok (.iconst (-1), 1) := by decide +kernel
theorem dX12_hardness_12 : decode cX12_hardness 12 = .ok (.if_icmp .ne 7, 3) := by decide +kernel
theorem dX12_hardness_15 : decode cX12_hardness 15 = .ok (.iconst 0, 1) := by decide +kernel
theorem dX12_hardness_16 : decode cX12_hardness 16 = .ok (.goto 9, 3) := by decide +kernel
theorem dX12_hardness_19 : decode cX12_hardness 19 = .ok (.aload_n 0, 1) := by decide +kernel
theorem dX12_hardness_20 : decode cX12_hardness 20 = .ok (.iload_n 2, 1) := by decide +kernel
theorem dX12_hardness_21 : decode cX12_hardness 21 = .ok (.iconst 3, 1) := by decide +kernel
theorem dX12_hardness_22 : decode cX12_hardness 22 = .ok (.invokevirtual 256, 3) := by decide +kernel
theorem dX12_hardness_25 : decode cX12_hardness 25 = .ok (.ireturn, 1) := by decide +kernel
theorem dX12_strokesOf_0 : decode cX12_strokesOf 0 = .ok (.iconst 1, 1) := by decide +kernel
theorem dX12_strokesOf_1 : decode cX12_strokesOf 1 = .ok (.aload_n 0, 1) := by decide +kernel
theorem dX12_strokesOf_2 : decode cX12_strokesOf 2 = .ok (.iload_n 1, 1) := by decide +kernel
theorem dX12_strokesOf_3 : decode cX12_strokesOf 3 = .ok (.iconst 0, 1) := by decide +kernel
theorem dX12_strokesOf_4 : decode cX12_strokesOf 4 = .ok (.invokevirtual 280, 3) := by decide +kernel
theorem dX12_strokesOf_7 : decode cX12_strokesOf 7 = .ok (.iconst 4, 1) := by decide +kernel
theorem dX12_strokesOf_8 : decode cX12_strokesOf 8 = .ok (.irem, 1) := by decide +kernel
theorem dX12_strokesOf_9 : decode cX12_strokesOf 9 = .ok (.iadd, 1) := by decide +kernel
theorem dX12_strokesOf_10 : decode cX12_strokesOf 10 = .ok (.ireturn, 1) := by decide +kernel
theorem dX12_dangerOf_0 : decode cX12_dangerOf 0 = .ok (.bipush 100, 2) := by decide +kernel
theorem dX12_dangerOf_2 : decode cX12_dangerOf 2 = .ok (.iconst 0, 1) := by decide +kernel
theorem dX12_dangerOf_3 : decode cX12_dangerOf 3 = .ok (.iconst 2, 1) := by decide +kernel
theorem dX12_dangerOf_4 : decode cX12_dangerOf 4 = .ok (.aload_n 0, 1) := by decide +kernel
theorem dX12_dangerOf_5 : decode cX12_dangerOf 5 = .ok (.iload_n 1, 1) := by decide +kernel
theorem dX12_dangerOf_6 : decode cX12_dangerOf 6 = .ok (.invokevirtual 326, 3) := by decide +kernel
theorem dX12_dangerOf_9 : decode cX12_dangerOf 9 = .ok (.aload_n 0, 1) := by decide +kernel
theorem dX12_dangerOf_10 : decode cX12_dangerOf 10 = .ok (.getfield 20, 3) := by decide +kernel
theorem dX12_dangerOf_13 : decode cX12_dangerOf 13 = .ok (.iconst 3, 1) := by decide +kernel
theorem dX12_dangerOf_14 : decode cX12_dangerOf 14 = .ok (.iaload, 1) := by decide +kernel
theorem dX12_dangerOf_15 : decode cX12_dangerOf 15 = .ok (.isub, 1) := by decide +kernel
theorem dX12_dangerOf_16 : decode cX12_dangerOf 16 = .ok (.imul, 1) := by decide +kernel
theorem dX12_dangerOf_17 : decode cX12_dangerOf 17 = .ok (.invokestatic 329, 3) := by decide +kernel
theorem dX12_dangerOf_20 : decode cX12_dangerOf 20 = .ok (.invokestatic 271, 3) := by decide +kernel
theorem dX12_dangerOf_23 : decode cX12_dangerOf 23 = .ok (.ireturn, 1) := by decide +kernel
theorem dX12_scratches_0 : decode cX12_scratches 0 = .ok (.bipush 100, 2) := by decide +kernel
theorem dX12_scratches_2 : decode cX12_scratches 2 = .ok (.iconst 1, 1) := by decide +kernel
theorem dX12_scratches_3 : decode cX12_scratches 3 = .ok (.aload_n 0, 1) := by decide +kernel
theorem dX12_scratches_4 : decode cX12_scratches 4 = .ok (.bipush 20, 2) := by decide +kernel
theorem dX12_scratches_6 : decode cX12_scratches 6 = .ok (.invokevirtual 332, 3) := by decide +kernel
theorem dX12_scratches_9 : decode cX12_scratches 9 = .ok (.iadd, 1) := by decide +kernel
theorem dX12_scratches_10 : decode cX12_scratches 10 = .ok (.imul, 1) := by decide +kernel
theorem dX12_scratches_11 : decode cX12_scratches 11 = .ok (.istore_n 2, 1) := by decide +kernel
theorem dX12_scratches_12 : decode cX12_scratches 12 = .ok (.aload_n 0, 1) := by decide +kernel
theorem dX12_scratches_13 : decode cX12_scratches 13 = .ok (.getfield 20, 3) := by decide +kernel
theorem dX12_scratches_16 : decode cX12_scratches 16 = .ok (.bipush 8, 2) := by decide +kernel
theorem dX12_scratches_18 : decode cX12_scratches 18 = .ok (.iaload, 1) := by decide +kernel
theorem dX12_scratches_19 : decode cX12_scratches 19 = .ok (.istore_n 3, 1) := by decide +kernel
theorem dX12_scratches_20 : decode cX12_scratches 20 = .ok (.aload_n 0, 1) := by decide +kernel
theorem dX12_scratches_21 : decode cX12_scratches 21 = .ok (.getfield 20, 3) := by decide +kernel
theorem dX12_scratches_24 : decode cX12_scratches 24 = .ok (.sipush 148, 3) := by decide +kernel
theorem dX12_scratches_27 : decode cX12_scratches 27 = .ok (.iconst 2, 1) := by decide +kernel
theorem dX12_scratches_28 : decode cX12_scratches 28 = .ok (.iload_n 3, 1) := by decide +kernel
theorem dX12_scratches_29 : decode cX12_scratches 29 = .ok (.imul, 1) := by decide +kernel
theorem dX12_scratches_30 : decode cX12_scratches 30 = .ok (.iadd, 1) := by decide +kernel
theorem dX12_scratches_31 : decode cX12_scratches 31 = .ok (.iconst 0, 1) := by decide +kernel
theorem dX12_scratches_32 : decode cX12_scratches 32 = .ok (.iadd, 1) := by decide +kernel
theorem dX12_scratches_33 : decode cX12_scratches 33 = .ok (.iload_n 1, 1) := by decide +kernel
theorem dX12_scratches_34 : decode cX12_scratches 34 = .ok (.iastore, 1) := by decide +kernel
theorem dX12_scratches_35 : decode cX12_scratches 35 = .ok (.aload_n 0, 1) := by decide +kernel
theorem dX12_scratches_36 : decode cX12_scratches 36 = .ok (.getfield 20, 3) := by decide +kernel
theorem dX12_scratches_39 : decode cX12_scratches 39 = .ok (.sipush 148, 3) := by decide +kernel
theorem dX12_scratches_42 : decode cX12_scratches 42 = .ok (.iconst 2, 1) := by decide +kernel
theorem dX12_scratches_43 : decode cX12_scratches 43 = .ok (.iload_n 3, 1) := by decide +kernel
theorem dX12_scratches_44 : decode cX12_scratches 44 = .ok (.imul, 1) := by decide +kernel
theorem dX12_scratches_45 : decode cX12_scratches 45 = .ok (.iadd, 1) := by decide +kernel
theorem dX12_scratches_46 : decode cX12_scratches 46 = .ok (.iconst 1, 1) := by decide +kernel
theorem dX12_scratches_47 : decode cX12_scratches 47 = .ok (.iadd, 1) := by decide +kernel
theorem dX12_scratches_48 : decode cX12_scratches 48 = .ok (.iload_n 2, 1) := by decide +kernel
theorem dX12_scratches_49 : decode cX12_scratches 49 = .ok (.iastore, 1) := by decide +kernel
theorem dX12_scratches_50 : decode cX12_scratches 50 = .ok (.aload_n 0, 1) := by decide +kernel
theorem dX12_scratches_51 : decode cX12_scratches 51 = .ok (.getfield 20, 3) := by decide +kernel
theorem dX12_scratches_54 : decode cX12_scratches 54 = .ok (.bipush 8, 2) := by decide +kernel
theorem dX12_scratches_56 : decode cX12_scratches 56 = .ok (.dup2, 1) := by decide +kernel
theorem dX12_scratches_57 : decode cX12_scratches 57 = .ok (.iaload, 1) := by decide +kernel
theorem dX12_scratches_58 : decode cX12_scratches 58 = .ok (.iconst 1, 1) := by decide +kernel
theorem dX12_scratches_59 : decode cX12_scratches 59 = .ok (.iadd, 1) := by decide +kernel
theorem dX12_scratches_60 : decode cX12_scratches 60 = .ok (.iastore, 1) := by decide +kernel
theorem dX12_scratches_61 : decode cX12_scratches 61 = .ok (.aload_n 0, 1) := by decide +kernel
theorem dX12_scratches_62 : decode cX12_scratches 62 = .ok (.getfield 20, 3) := by decide +kernel
theorem dX12_scratches_65 : decode cX12_scratches 65 = .ok (.bipush 6, 2) := by decide +kernel
theorem dX12_scratches_67 : decode cX12_scratches 67 = .ok (.dup2, 1) := by decide +kernel
theorem dX12_scratches_68 : decode cX12_scratches 68 = .ok (.iaload, 1) := by decide +kernel
theorem dX12_scratches_69 : decode cX12_scratches 69 = .ok (.iconst 1, 1) := by decide +kernel
theorem dX12_scratches_70 : decode cX12_scratches 70 = .ok (.iadd, 1) := by decide +kernel
theorem dX12_scratches_71 : decode cX12_scratches 71 = .ok (.iastore, 1) := by decide +kernel
theorem dX12_scratches_72 : decode cX12_scratches 72 = .ok (.return_, 1) := by decide +kernel
theorem dX12_strokes_0 : decode cX12_strokes 0 = .ok (.aload_n 0, 1) := by decide +kernel
theorem dX12_strokes_1 : decode cX12_strokes 1 = .ok (.iload_n 1, 1) := by decide +kernel
theorem dX12_strokes_2 : decode cX12_strokes 2 = .ok (.invokevirtual 326, 3) := by decide +kernel
theorem dX12_strokes_5 : decode cX12_strokes 5 = .ok (.aload_n 0, 1) := by decide +kernel
theorem dX12_strokes_6 : decode cX12_strokes 6 = .ok (.getfield 20, 3) := by decide +kernel
theorem dX12_strokes_9 : decode cX12_strokes 9 = .ok (.iconst 3, 1) := by decide +kernel
theorem dX12_strokes_10 : decode cX12_strokes 10 = .ok (.iaload, 1) := by decide +kernel
theorem dX12_strokes_11 : decode cX12_strokes 11 = .ok (.isub, 1) := by decide +kernel
theorem dX12_strokes_12 : decode cX12_strokes 12 = .ok (.istore_n 2, 1) := by decide +kernel
theorem dX12_strokes_13 : decode cX12_strokes 13 = .ok (.iload_n 2, 1) := by decide +kernel
theorem dX12_strokes_14 : decode cX12_strokes 14 = .ok (.ifCond .le 20, 3) := by decide +kernel
theorem dX12_strokes_17 : decode cX12_strokes 17 = .ok (.aload_n 0, 1) := by decide +kernel
theorem dX12_strokes_18 : decode cX12_strokes 18 = .ok (.bipush 100, 2) := by decide +kernel
theorem dX12_strokes_20 : decode cX12_strokes 20 = .ok (.invokevirtual 332, 3) := by decide +kernel
theorem dX12_strokes_23 : decode cX12_strokes 23 = .ok (.iconst 2, 1) := by decide +kernel
theorem dX12_strokes_24 : decode cX12_strokes 24 = .ok (.iload_n 2, 1) := by decide +kernel
theorem dX12_strokes_25 : decode cX12_strokes 25 = .ok (.imul, 1) := by decide +kernel
theorem dX12_strokes_26 : decode cX12_strokes 26 = .ok (.if_icmp .ge 8, 3) := by decide +kernel
theorem dX12_strokes_29 : decode cX12_strokes 29 = .ok (.aload_n 0, 1) := by decide +kernel
theorem dX12_strokes_30 : decode cX12_strokes 30 = .ok (.iload_n 1, 1) := by decide +kernel
theorem dX12_strokes_31 : decode cX12_strokes 31 = .ok (.invokevirtual 335, 3) := by decide +kernel
theorem dX12_strokes_34 : decode cX12_strokes 34 = .ok (.aload_n 0, 1) := by decide +kernel
theorem dX12_strokes_35 : decode cX12_strokes 35 = .ok (.getfield 20, 3) := by decide +kernel
theorem dX12_strokes_38 : decode cX12_strokes 38 = .ok (.bipush 7, 2) := by decide +kernel
theorem dX12_strokes_40 : decode cX12_strokes 40 = .ok (.dup2, 1) := by decide +kernel
theorem dX12_strokes_41 : decode cX12_strokes 41 = .ok (.iaload, 1) := by decide +kernel
theorem dX12_strokes_42 : decode cX12_strokes 42 = .ok (.iconst 1, 1) := by decide +kernel
theorem dX12_strokes_43 : decode cX12_strokes 43 = .ok (.iadd, 1) := by decide +kernel
theorem dX12_strokes_44 : decode cX12_strokes 44 = .ok (.iastore, 1) := by decide +kernel
theorem dX12_strokes_45 : decode cX12_strokes 45 = .ok (.aload_n 0, 1) := by decide +kernel
theorem dX12_strokes_46 : decode cX12_strokes 46 = .ok (.getfield 20, 3) := by decide +kernel
theorem dX12_strokes_49 : decode cX12_strokes 49 = .ok (.iconst 3, 1) := by decide +kernel
theorem dX12_strokes_50 : decode cX12_strokes 50 = .ok (.iconst 0, 1) := by decide +kernel
theorem dX12_strokes_51 : decode cX12_strokes 51 = .ok (.aload_n 0, 1) := by decide +kernel
theorem dX12_strokes_52 : decode cX12_strokes 52 = .ok (.getfield 20, 3) := by decide +kernel
theorem dX12_strokes_55 : decode cX12_strokes 55 = .ok (.iconst 3, 1) := by decide +kernel
theorem dX12_strokes_56 : decode cX12_strokes 56 = .ok (.iaload, 1) := by decide +kernel
theorem dX12_strokes_57 : decode cX12_strokes 57 = .ok (.iconst 1, 1) := by decide +kernel
theorem dX12_strokes_58 : decode cX12_strokes 58 = .ok (.isub, 1) := by decide +kernel
theorem dX12_strokes_59 : decode cX12_strokes 59 = .ok (.invokestatic 329, 3) := by decide +kernel
theorem dX12_strokes_62 : decode cX12_strokes 62 = .ok (.iastore, 1) := by decide +kernel
theorem dX12_strokes_63 : decode cX12_strokes 63 = .ok (.return_, 1) := by decide +kernel
theorem dX12_engraves_0 : decode cX12_engraves 0 = .ok (.aload_n 0, 1) := by decide +kernel
theorem dX12_engraves_1 : decode cX12_engraves 1 = .ok (.getfield 20, 3) := by decide +kernel
theorem dX12_engraves_4 : decode cX12_engraves 4 = .ok (.bipush 8, 2) := by decide +kernel
theorem dX12_engraves_6 : decode cX12_engraves 6 = .ok (.iaload, 1) := by decide +kernel
theorem dX12_engraves_7 : decode cX12_engraves 7 = .ok (.istore_n 2, 1) := by decide +kernel
theorem dX12_engraves_8 : decode cX12_engraves 8 = .ok (.iconst 0, 1) := by decide +kernel
theorem dX12_engraves_9 : decode cX12_engraves 9 = .ok (.istore_n 3, 1) := by decide +kernel
theorem dX12_engraves_10 : decode cX12_engraves 10 = .ok (.iload_n 3, 1) := by decide +kernel
theorem dX12_engraves_11 : decode cX12_engraves 11 = .ok (.aload_n 0, 1) := by decide +kernel
theorem dX12_engraves_12 : decode cX12_engraves 12 = .ok (.iload_n 1, 1) := by decide +kernel
theorem dX12_engraves_13 : decode cX12_engraves 13 = .ok (.invokevirtual 338, 3) := by decide +kernel
theorem dX12_engraves_16 : decode cX12_engraves 16 = .ok (.if_icmp .ge 14, 3) := by decide +kernel
theorem dX12_engraves_19 : decode cX12_engraves 19 = .ok (.aload_n 0, 1) := by decide +kernel
theorem dX12_engraves_20 : decode cX12_engraves 20 = .ok (.iload_n 1, 1) := by decide +kernel
theorem dX12_engraves_21 : decode cX12_engraves 21 = .ok (.invokevirtual 341, 3) := by decide +kernel
theorem dX12_engraves_24 : decode cX12_engraves 24 = .ok (.iinc 3 1, 3) := by decide +kernel
theorem dX12_engraves_27 : decode cX12_engraves 27 = .ok (.goto (-17), 3) := by decide +kernel
theorem dX12_engraves_30 : decode cX12_engraves 30 = .ok (.aload_n 0, 1) := by decide +kernel
theorem dX12_engraves_31 : decode cX12_engraves 31 = .ok (.iload_n 1, 1) := by decide +kernel
theorem dX12_engraves_32 : decode cX12_engraves 32 = .ok (.iconst 1, 1) := by decide +kernel
theorem dX12_engraves_33 : decode cX12_engraves 33 = .ok (.iconst 1, 1) := by decide +kernel
theorem dX12_engraves_34 : decode cX12_engraves 34 = .ok (.invokevirtual 189, 3) := by decide +kernel
theorem dX12_engraves_37 : decode cX12_engraves 37 = .ok (.aload_n 0, 1) := by decide +kernel
theorem dX12_engraves_38 : decode cX12_engraves 38 = .ok (.getfield 20, 3) := by decide +kernel
theorem dX12_engraves_41 : decode cX12_engraves 41 = .ok (.bipush 8, 2) := by decide +kernel
theorem dX12_engraves_43 : decode cX12_engraves 43 = .ok (.iaload, 1) := by decide +kernel
theorem dX12_engraves_44 : decode cX12_engraves 44 = .ok (.iload_n 2, 1) := by decide +kernel
theorem dX12_engraves_45 : decode cX12_engraves 45 = .ok (.isub, 1) := by decide +kernel
theorem dX12_engraves_46 : decode cX12_engraves 46 = .ok (.ireturn, 1) := by decide +kernel
theorem dX12_engravesAll_0 : decode cX12_engravesAll 0 = .ok (.iconst 0, 1) := by decide +kernel
theorem dX12_engravesAll_1 : decode cX12_engravesAll 1 = .ok (.istore_n 2, 1) := by decide +kernel
theorem dX12_engravesAll_2 : decode cX12_engravesAll 2 = .ok (.iconst 0, 1) := by decide +kernel
theorem dX12_engravesAll_3 : decode cX12_engravesAll 3 = .ok (.istore_n 3, 1) := by decide +kernel
theorem dX12_engravesAll_4 : decode cX12_engravesAll 4 = .ok (.iconst 0, 1) := by decide +kernel
theorem dX12_engravesAll_5 : decode cX12_engravesAll 5 = .ok (.istore 4, 2) := by decide +kernel
theorem dX12_engravesAll_7 : decode cX12_engravesAll 7 = .ok (.iload 4, 2) := by decide +kernel
theorem dX12_engravesAll_9 : decode cX12_engravesAll 9 = .ok (.aload_n 0, 1) := by decide +kernel
theorem dX12_engravesAll_10 : decode cX12_engravesAll 10 = .ok (.getfield 20, 3) := by decide +kernel
theorem dX12_engravesAll_13 : decode cX12_engravesAll 13 = .ok (.iconst 1, 1) := by decide +kernel
theorem dX12_engravesAll_14 : decode cX12_engravesAll 14 = .ok (.iaload, 1) := by decide +kernel
theorem dX12_engravesAll_15 : decode cX12_engravesAll 15 = .ok (.if_icmp .ge 46, 3) := by decide +kernel
theorem dX12_engravesAll_18 : decode cX12_engravesAll 18 = .ok (.aload_n 0, 1) := by decide +kernel
theorem dX12_engravesAll_19 : decode cX12_engravesAll 19 = .ok (.iload 4, 2) := by decide +kernel
theorem dX12_engravesAll_21 : decode cX12_engravesAll 21 = .ok (.iconst 1, 1) := by decide +kernel
theorem dX12_engravesAll_22 : decode cX12_engravesAll 22 = .ok (.invokevirtual 280, 3) := by decide +kernel
theorem dX12_engravesAll_25 : decode cX12_engravesAll 25 = .ok (.iconst 1, 1) := by decide +kernel
theorem dX12_engravesAll_26 : decode cX12_engravesAll 26 = .ok (.if_icmp .eq 29, 3) := by decide +kernel
theorem dX12_engravesAll_29 : decode cX12_engravesAll 29 = .ok (.aload_n 0, 1) := by decide +kernel
theorem dX12_engravesAll_30 : decode cX12_engravesAll 30 = .ok (.getfield 20, 3) := by decide +kernel
theorem dX12_engravesAll_33 : decode cX12_engravesAll 33 = .ok (.bipush 8, 2) := by decide +kernel
theorem dX12_engravesAll_35 : decode cX12_engravesAll 35 = .ok (.iaload, 1) := by decide +kernel
theorem dX12_engravesAll_36 : decode cX12_engravesAll 36 = .ok (.iload_n 1, 1) := by decide +kernel
theorem dX12_engravesAll_37 : decode cX12_engravesAll 37 = .ok (.if_icmp .le 6, 3) := by decide +kernel
theorem dX12_engravesAll_40 : decode cX12_engravesAll 40 = .ok (.goto 15, 3) := by decide +kernel
theorem dX12_engravesAll_43 : decode cX12_engravesAll 43 = .ok (.iload_n 3, 1) := by decide +kernel
theorem dX12_engravesAll_44 : decode cX12_engravesAll 44 = .ok (.aload_n 0, 1) := by decide +kernel
theorem dX12_engravesAll_45 : decode cX12_engravesAll 45 = .ok (.iload 4, 2) := by decide +kernel
theorem dX12_engravesAll_47 : decode cX12_engravesAll 47 = .ok (.invokevirtual 344, 3) := by decide +kernel
theorem dX12_engravesAll_50 : decode cX12_engravesAll 50 = .ok (.iadd, 1) := by decide +kernel
theorem dX12_engravesAll_51 : decode cX12_engravesAll 51 = .ok (.istore_n 3, 1) := by decide +kernel
theorem dX12_engravesAll_52 : decode cX12_engravesAll 52 = .ok (.iinc 2 1, 3) := by decide +kernel
theorem dX12_engravesAll_55 : decode cX12_engravesAll 55 = .ok (.iinc 4 1, 3) := by decide +kernel
theorem dX12_engravesAll_58 : decode cX12_engravesAll 58 = .ok (.goto (-51), 3) := by decide +kernel
theorem dX12_engravesAll_61 : decode cX12_engravesAll 61 = .ok (.iload_n 2, 1) := by decide +kernel
theorem dX12_engravesAll_62 : decode cX12_engravesAll 62 = .ok (.ireturn, 1) := by decide +kernel
theorem dX12_isArc_0 : decode cX12_isArc 0 = .ok (.iload_n 1, 1) := by decide +kernel
theorem dX12_isArc_1 : decode cX12_isArc 1 = .ok (.i2l, 1) := by decide +kernel
theorem dX12_isArc_2 : decode cX12_isArc 2 = .ok (.lconst 0, 1) := by decide +kernel
theorem dX12_isArc_3 : decode cX12_isArc 3 = .ok (.aload_n 0, 1) := by decide +kernel
theorem dX12_isArc_4 : decode cX12_isArc 4 = .ok (.getfield 20, 3) := by decide +kernel
theorem dX12_isArc_7 : decode cX12_isArc 7 = .ok (.iconst 0, 1) := by decide +kernel
theorem dX12_isArc_8 : decode cX12_isArc 8 = .ok (.iaload, 1) := by decide +kernel
theorem dX12_isArc_9 : decode cX12_isArc 9 = .ok (.iconst 1, 1) := by decide +kernel
theorem dX12_isArc_10 : decode cX12_isArc 10 = .ok (.isub, 1) := by decide +kernel
theorem dX12_isArc_11 : decode cX12_isArc 11 = .ok (.i2l, 1) := by decide +kernel
theorem dX12_isArc_12 : decode cX12_isArc 12 = .ok (.invokestatic 90, 3) := by decide +kernel
theorem dX12_isArc_15 : decode cX12_isArc 15 = .ok (.ireturn, 1) := by decide +kernel
theorem dX12_isLetter0_0 : decode cX12_isLetter0 0 = .ok (.iload_n 1, 1) := by decide +kernel
theorem dX12_isLetter0_1 : decode cX12_isLetter0 1 = .ok (.i2l, 1) := by decide +kernel
theorem dX12_isLetter0_2 : decode cX12_isLetter0 2 = .ok (.lconst 0, 1) := by decide +kernel
theorem dX12_isLetter0_3 : decode cX12_isLetter0 3 = .ok (.aload_n 0, 1) := by decide +kernel
theorem dX12_isLetter0_4 : decode cX12_isLetter0 4 = .ok (.getfield 20, 3) := by decide +kernel
theorem dX12_isLetter0_7 : decode cX12_isLetter0 7 = .ok (.iconst 1, 1) := by decide +kernel
theorem dX12_isLetter0_8 : decode cX12_isLetter0 8 = .ok (.iaload, 1) := by decide +kernel
theorem dX12_isLetter0_9 : decode cX12_isLetter0 9 = .ok (.iconst 1, 1) := by decide +kernel
theorem dX12_isLetter0_10 : decode cX12_isLetter0 10 = .ok (.isub, 1) := by decide +kernel
theorem dX12_isLetter0_11 : decode cX12_isLetter0 11 = .ok (.i2l, 1) := by decide +kernel
theorem dX12_isLetter0_12 : decode cX12_isLetter0 12 = .ok (.invokestatic 90, 3) := by decide +kernel
theorem dX12_isLetter0_15 : decode cX12_isLetter0 15 = .ok (.ireturn, 1) := by decide +kernel
theorem dX12_isRoom_0 : decode cX12_isRoom 0 = .ok (.iload_n 1, 1) := by decide +kernel
theorem dX12_isRoom_1 : decode cX12_isRoom 1 = .ok (.i2l, 1) := by decide +kernel
theorem dX12_isRoom_2 : decode cX12_isRoom 2 = .ok (.lconst 0, 1) := by decide +kernel
theorem dX12_isRoom_3 : decode cX12_isRoom 3 = .ok (.aload_n 0, 1) := by decide +kernel
theorem dX12_isRoom_4 : decode cX12_isRoom 4 = .ok (.getfield 20, 3) := by decide +kernel
theorem dX12_isRoom_7 : decode cX12_isRoom 7 = .ok (.iconst 1, 1) := by decide +kernel
theorem dX12_isRoom_8 : decode cX12_isRoom 8 = .ok (.iaload, 1) := by decide +kernel
theorem dX12_isRoom_9 : decode cX12_isRoom 9 = .ok (.i2l, 1) := by decide +kernel
theorem dX12_isRoom_10 : decode cX12_isRoom 10 = .ok (.invokestatic 90, 3) := by decide +kernel
theorem dX12_isRoom_13 : decode cX12_isRoom 13 = .ok (.ireturn, 1) := by decide +kernel
theorem dX12_isKind_0 : decode cX12_isKind 0 = .ok (.iload_n 1, 1) := by decide +kernel
theorem dX12_isKind_1 : decode cX12_isKind 1 = .ok (.i2l, 1) := by decide +kernel
theorem dX12_isKind_2 : decode cX12_isKind 2 = .ok (.lconst 0, 1) := by decide +kernel
theorem dX12_isKind_3 : decode cX12_isKind 3 = .ok (.aload_n 0, 1) := by decide +kernel
theorem dX12_isKind_4 : decode cX12_isKind 4 = .ok (.getfield 20, 3) := by decide +kernel
theorem dX12_isKind_7 : decode cX12_isKind 7 = .ok (.iconst 2, 1) := by decide +kernel
theorem dX12_isKind_8 : decode cX12_isKind 8 = .ok (.iaload, 1) := by decide +kernel
theorem dX12_isKind_9 : decode cX12_isKind 9 = .ok (.iconst 1, 1) := by decide +kernel
theorem dX12_isKind_10 : decode cX12_isKind 10 = .ok (.isub, 1) := by decide +kernel
theorem dX12_isKind_11 : decode cX12_isKind 11 = .ok (.i2l, 1) := by decide +kernel
theorem dX12_isKind_12 : decode cX12_isKind 12 = .ok (.invokestatic 90, 3) := by decide +kernel
theorem dX12_isKind_15 : decode cX12_isKind 15 = .ok (.ireturn, 1) := by decide +kernel
theorem dX12_isScratch_0 : decode cX12_isScratch 0 = .ok (.iload_n 1, 1) := by decide +kernel
theorem dX12_isScratch_1 : decode cX12_isScratch 1 = .ok (.i2l, 1) := by decide +kernel
theorem dX12_isScratch_2 : decode cX12_isScratch 2 = .ok (.lconst 0, 1) := by decide +kernel
theorem dX12_isScratch_3 : decode cX12_isScratch 3 = .ok (.aload_n 0, 1) := by decide +kernel
theorem dX12_isScratch_4 : decode cX12_isScratch 4 = .ok (.getfield 20, 3) := by decide +kernel
theorem dX12_isScratch_7 : decode cX12_isScratch 7 = .ok (.bipush 8, 2) := by decide +kernel
theorem dX12_isScratch_9 : decode cX12_isScratch 9 = .ok (.iaload, 1) := by decide +kernel
theorem dX12_isScratch_10 : decode cX12_isScratch 10 = .ok (.iconst 1, 1) := by decide +kernel
theorem dX12_isScratch_11 : decode cX12_isScratch 11 = .ok (.isub, 1) := by decide +kernel
theorem dX12_isScratch_12 : decode cX12_isScratch 12 = .ok (.i2l, 1) := by decide +kernel
theorem dX12_isScratch_13 : decode cX12_isScratch 13 = .ok (.invokestatic 90, 3) := by decide +kernel
theorem dX12_isScratch_16 : decode cX12_isScratch 16 = .ok (.ireturn, 1) := by decide +kernel
theorem dX12_setting_0 : decode cX12_setting 0 = .ok (.aload_n 0, 1) := by decide +kernel
theorem dX12_setting_1 : decode cX12_setting 1 = .ok (.iload_n 1, 1) := by decide +kernel
theorem dX12_setting_2 : decode cX12_setting 2 = .ok (.i2l, 1) := by decide +kernel
theorem dX12_setting_3 : decode cX12_setting 3 = .ok (.lconst 0, 1) := by decide +kernel
theorem dX12_setting_4 : decode cX12_setting 4 = .ok (.ldc2_w 347, 3) := by decide +kernel
theorem dX12_setting_7 : decode cX12_setting 7 = .ok (.invokestatic 90, 3) := by decide +kernel
theorem dX12_setting_10 : decode cX12_setting 10 = .ok (.invokevirtual 82, 3) := by decide +kernel
theorem dX12_setting_13 : decode cX12_setting 13 = .ok (.ifCond .ne 5, 3) := by decide +kernel
theorem dX12_setting_16 : decode cX12_setting 16 = .ok (.iconst 0, 1) := by decide +kernel
theorem dX12_setting_17 : decode cX12_setting 17 = .ok (.ireturn, 1) := by decide +kernel
theorem dX12_setting_18 : decode cX12_setting 18 = .ok (.iload_n 1, 1) := by decide +kernel
theorem dX12_setting_19 : decode cX12_setting 19 = .ok (.tableswitch 151 0 12 #[65, 72, 79, 86, 91, 96, 103, 110, 118, 123, 128, 135, 143], 65) := by decide +kernel
theorem dX12_setting_84 : decode cX12_setting 84 = .ok (.aload_n 0, 1) := by decide +kernel
theorem dX12_setting_85 : decode cX12_setting 85 = .ok (.getfield 20, 3) := by decide +kernel
theorem dX12_setting_88 : decode cX12_setting 88 = .ok (.iconst 0, 1) := by decide +kernel
theorem dX12_setting_89 : decode cX12_setting 89 = .ok (.iaload, 1) := by decide +kernel
theorem dX12_setting_90 : decode cX12_setting 90 = .ok (.ireturn, 1) := by decide +kernel
theorem dX12_setting_91 : decode cX12_setting 91 = .ok (.aload_n 0, 1) := by decide +kernel
theorem dX12_setting_92 : decode cX12_setting 92 = .ok (.getfield 20, 3) := by decide +kernel
theorem dX12_setting_95 : decode cX12_setting 95 = .ok (.iconst 1, 1) := by decide +kernel
theorem dX12_setting_96 : decode cX12_setting 96 = .ok (.iaload, 1) := by decide +kernel
theorem dX12_setting_97 : decode cX12_setting 97 = .ok (.ireturn, 1) := by decide +kernel
theorem dX12_setting_98 : decode cX12_setting 98 = .ok (.aload_n 0, 1) := by decide +kernel
theorem dX12_setting_99 : decode cX12_setting 99 = .ok (.getfield 20, 3) := by decide +kernel
theorem dX12_setting_102 : decode cX12_setting 102 = .ok (.iconst 2, 1) := by decide +kernel
theorem dX12_setting_103 : decode cX12_setting 103 = .ok (.iaload, 1) := by decide +kernel
theorem dX12_setting_104 : decode cX12_setting 104 = .ok (.ireturn, 1) := by decide +kernel
theorem dX12_setting_105 : decode cX12_setting 105 = .ok (.aload_n 0, 1) := by decide +kernel
theorem dX12_setting_106 : decode cX12_setting 106 = .ok (.invokevirtual 277, 3) := by decide +kernel
theorem dX12_setting_109 : decode cX12_setting 109 = .ok (.ireturn, 1) := by decide +kernel
theorem dX12_setting_110 : decode cX12_setting 110 = .ok (.aload_n 0, 1) := by decide +kernel
theorem dX12_setting_111 : decode cX12_setting 111 = .ok (.invokevirtual 295, 3) := by decide +kernel
theorem dX12_setting_114 : decode cX12_setting 114 = .ok (.ireturn, 1) := by decide +kernel
theorem dX12_setting_115 : decode cX12_setting 115 = .ok (.aload_n 0, 1) := by decide +kernel
theorem dX12_setting_116 : decode cX12_setting 116 = .ok (.getfield 20, 3) := by decide +kernel
theorem dX12_setting_119 : decode cX12_setting 119 = .ok (.iconst 3, 1) := by decide +kernel
theorem dX12_setting_120 : decode cX12_setting 120 = .ok (.iaload, 1) := by decide +kernel
theorem dX12_setting_121 : decode cX12_setting 121 = .ok (.ireturn, 1) := by decide +kernel
theorem dX12_setting_122 : decode cX12_setting 122 = .ok (.aload_n 0, 1) := by decide +kernel
theorem dX12_setting_123 : decode cX12_setting 123 = .ok (.getfield 20, 3) := by decide +kernel
theorem dX12_setting_126 : decode cX12_setting 126 = .ok (.iconst 4, 1) := by decide +kernel
theorem dX12_setting_127 : decode cX12_setting 127 = .ok (.iaload, 1) := by decide +kernel
theorem dX12_setting_128 : decode cX12_setting 128 = .ok (.ireturn, 1) := by decide +kernel
theorem dX12_setting_129 : decode cX12_setting 129 = .ok (.aload_n 0, 1) := by decide +kernel
theorem dX12_setting_130 : decode cX12_setting 130 = .ok (.getfield 20, 3) := by decide +kernel
theorem dX12_setting_133 : decode cX12_setting 133 = .ok (.bipush 8, 2) := by decide +kernel
theorem dX12_setting_135 : decode cX12_setting 135 = .ok (.iaload, 1) := by decide +kernel
theorem dX12_setting_136 : decode cX12_setting 136 = .ok (.ireturn, 1) := by decide +kernel
theorem dX12_setting_137 : decode cX12_setting 137 = .ok (.aload_n 0, 1) := by decide +kernel
theorem dX12_setting_138 : decode cX12_setting 138 = .ok (.invokevirtual 349, 3) := by decide +kernel
theorem dX12_setting_141 : decode cX12_setting 141 = .ok (.ireturn, 1) := by decide +kernel
theorem dX12_setting_142 : decode cX12_setting 142 = .ok (.aload_n 0, 1) := by decide +kernel
theorem dX12_setting_143 : decode cX12_setting 143 = .ok (.invokevirtual 352, 3) := by decide +kernel
theorem dX12_setting_146 : decode cX12_setting 146 = .ok (.ireturn, 1) := by decide +kernel
theorem dX12_setting_147 : decode cX12_setting 147 = .ok (.aload_n 0, 1) := by decide +kernel
theorem dX12_setting_148 : decode cX12_setting 148 = .ok (.getfield 20, 3) := by decide +kernel
theorem dX12_setting_151 : decode cX12_setting 151 = .ok (.iconst 5, 1) := by decide +kernel
theorem dX12_setting_152 : decode cX12_setting 152 = .ok (.iaload, 1) := by decide +kernel
theorem dX12_setting_153 : decode cX12_setting 153 = .ok (.ireturn, 1) := by decide +kernel
theorem dX12_setting_154 : decode cX12_setting 154 = .ok (.aload_n 0, 1) := by decide +kernel
theorem dX12_setting_155 : decode cX12_setting 155 = .ok (.getfield 20, 3) := by decide +kernel
theorem dX12_setting_158 : decode cX12_setting 158 = .ok (.bipush 6, 2) := by decide +kernel
theorem dX12_setting_160 : decode cX12_setting 160 = .ok (.iaload, 1) := by decide +kernel
theorem dX12_setting_161 : decode cX12_setting 161 = .ok (.ireturn, 1) := by decide +kernel
theorem dX12_setting_162 : decode cX12_setting 162 = .ok (.aload_n 0, 1) := by decide +kernel
theorem dX12_setting_163 : decode cX12_setting 163 = .ok (.getfield 20, 3) := by decide +kernel
theorem dX12_setting_166 : decode cX12_setting 166 = .ok (.bipush 7, 2) := by decide +kernel
theorem dX12_setting_168 : decode cX12_setting 168 = .ok (.iaload, 1) := by decide +kernel
theorem dX12_setting_169 : decode cX12_setting 169 = .ok (.ireturn, 1) := by decide +kernel
theorem dX12_setting_170 : decode cX12_setting 170 = .ok (.aload_n 0, 1) := by decide +kernel
theorem dX12_setting_171 : decode cX12_setting 171 = .ok (.getfield 155, 3) := by decide +kernel
theorem dX12_setting_174 : decode cX12_setting 174 = .ok (.ireturn, 1) := by decide +kernel
theorem dX12_centresOn_0 : decode cX12_centresOn 0 = .ok (.iconst 0, 1) := by decide +kernel
theorem dX12_centresOn_1 : decode cX12_centresOn 1 = .ok (.istore_n 2, 1) := by decide +kernel
theorem dX12_centresOn_2 : decode cX12_centresOn 2 = .ok (.iconst 0, 1) := by decide +kernel
theorem dX12_centresOn_3 : decode cX12_centresOn 3 = .ok (.istore_n 3, 1) := by decide +kernel
theorem dX12_centresOn_4 : decode cX12_centresOn 4 = .ok (.iload_n 3, 1) := by decide +kernel
theorem dX12_centresOn_5 : decode cX12_centresOn 5 = .ok (.aload_n 0, 1) := by decide +kernel
theorem dX12_centresOn_6 : decode cX12_centresOn 6 = .ok (.getfield 20, 3) := by decide +kernel
theorem dX12_centresOn_9 : decode cX12_centresOn 9 = .ok (.iconst 1, 1) := by decide +kernel
theorem dX12_centresOn_10 : decode cX12_centresOn 10 = .ok (.iaload, 1) := by decide +kernel
theorem dX12_centresOn_11 : decode cX12_centresOn 11 = .ok (.if_icmp .ge 33, 3) := by decide +kernel
theorem dX12_centresOn_14 : decode cX12_centresOn 14 = .ok (.iload_n 2, 1) := by decide +kernel
theorem dX12_centresOn_15 : decode cX12_centresOn 15 = .ok (.aload_n 0, 1) := by decide +kernel
theorem dX12_centresOn_16 : decode cX12_centresOn 16 = .ok (.aload_n 0, 1) := by decide +kernel
theorem dX12_centresOn_17 : decode cX12_centresOn 17 = .ok (.iload_n 3, 1) := by decide +kernel
theorem dX12_centresOn_18 : decode cX12_centresOn 18 = .ok (.invokevirtual 283, 3) := by decide +kernel
theorem dX12_centresOn_21 : decode cX12_centresOn 21 = .ok (.invokevirtual 268, 3) := by decide +kernel
theorem dX12_centresOn_24 : decode cX12_centresOn 24 = .ok (.iload_n 1, 1) := by decide +kernel
theorem dX12_centresOn_25 : decode cX12_centresOn 25 = .ok (.if_icmp .ne 7, 3) := by decide +kernel
theorem dX12_centresOn_28 : decode cX12_centresOn 28 = .ok (.iconst 1, 1) := by decide +kernel
theorem dX12_centresOn_29 : decode cX12_centresOn 29 = .ok (.goto 4, 3) := by decide +kernel
theorem dX12_centresOn_32 : decode cX12_centresOn 32 = .ok (.iconst 0, 1) := by decide +kernel
theorem dX12_centresOn_33 : decode cX12_centresOn 33 = .ok (.invokestatic 75, 3) := by decide +kernel
theorem dX12_centresOn_36 : decode cX12_centresOn 36 = .ok (.iadd, 1) := by decide +kernel
theorem dX12_centresOn_37 : decode cX12_centresOn 37 = .ok (.istore_n 2, 1) := by decide +kernel
theorem dX12_centresOn_38 : decode cX12_centresOn 38 = .ok (.iinc 3 1, 3) := by decide +kernel
theorem dX12_centresOn_41 : decode cX12_centresOn 41 = .ok (.goto (-37), 3) := by decide +kernel
theorem dX12_centresOn_44 : decode cX12_centresOn 44 = .ok (.iload_n 2, 1) := by decide +kernel
theorem dX12_centresOn_45 : decode cX12_centresOn 45 = .ok (.ireturn, 1) := by decide +kernel
theorem dX12_arc_0 : decode cX12_arc 0 = .ok (.aload_n 0, 1) := by decide +kernel
theorem dX12_arc_1 : decode cX12_arc 1 = .ok (.aload_n 0, 1) := by decide +kernel
theorem dX12_arc_2 : decode cX12_arc 2 = .ok (.iload_n 1, 1) := by decide +kernel
theorem dX12_arc_3 : decode cX12_arc 3 = .ok (.invokevirtual 355, 3) := by decide +kernel
theorem dX12_arc_6 : decode cX12_arc 6 = .ok (.iload_n 2, 1) := by decide +kernel
theorem dX12_arc_7 : decode cX12_arc 7 = .ok (.i2l, 1) := by decide +kernel
theorem dX12_arc_8 : decode cX12_arc 8 = .ok (.lconst 0, 1) := by decide +kernel
theorem dX12_arc_9 : decode cX12_arc 9 = .ok (.ldc2_w 358, 3) := by decide +kernel
theorem dX12_arc_12 : decode cX12_arc 12 = .ok (.invokestatic 90, 3) := by decide +kernel
theorem dX12_arc_15 : decode cX12_arc 15 = .ok (.invokevirtual 360, 3) := by decide +kernel
theorem dX12_arc_18 : decode cX12_arc 18 = .ok (.ifCond .ne 5, 3) := by decide +kernel
theorem dX12_arc_21 : decode cX12_arc 21 = .ok (.iconst 0, 1) := by decide +kernel
theorem dX12_arc_22 : decode cX12_arc 22 = .ok (.ireturn, 1) := by decide +kernel
theorem dX12_arc_23 : decode cX12_arc 23 = .ok (.iload_n 2, 1) := by decide +kernel
theorem dX12_arc_24 : decode cX12_arc 24 = .ok (.tableswitch 46 4 6 #[28, 34, 40], 28) := by decide +kernel
theorem dX12_arc_52 : decode cX12_arc 52 = .ok (.aload_n 0, 1) := by decide +kernel
theorem dX12_arc_53 : decode cX12_arc 53 = .ok (.iload_n 1, 1) := by decide +kernel
theorem dX12_arc_54 : decode cX12_arc 54 = .ok (.invokevirtual 262, 3) := by decide +kernel
theorem dX12_arc_57 : decode cX12_arc 57 = .ok (.ireturn, 1) := by decide +kernel
theorem dX12_arc_58 : decode cX12_arc 58 = .ok (.aload_n 0, 1) := by decide +kernel
theorem dX12_arc_59 : decode cX12_arc 59 = .ok (.iload_n 1, 1) := by decide +kernel
theorem dX12_arc_60 : decode cX12_arc 60 = .ok (.invokevirtual 265, 3) := by decide +kernel
theorem dX12_arc_63 : decode cX12_arc 63 = .ok (.ireturn, 1) := by decide +kernel
theorem dX12_arc_64 : decode cX12_arc 64 = .ok (.aload_n 0, 1) := by decide +kernel
theorem dX12_arc_65 : decode cX12_arc 65 = .ok (.iload_n 1, 1) := by decide +kernel
theorem dX12_arc_66 : decode cX12_arc 66 = .ok (.invokevirtual 364, 3) := by decide +kernel
theorem dX12_arc_69 : decode cX12_arc 69 = .ok (.ireturn, 1) := by decide +kernel
theorem dX12_arc_70 : decode cX12_arc 70 = .ok (.aload_n 0, 1) := by decide +kernel
theorem dX12_arc_71 : decode cX12_arc 71 = .ok (.iload_n 1, 1) := by decide +kernel
theorem dX12_arc_72 : decode cX12_arc 72 = .ok (.iload_n 2, 1) := by decide +kernel
theorem dX12_arc_73 : decode cX12_arc 73 = .ok (.invokevirtual 256, 3) := by decide +kernel
theorem dX12_arc_76 : decode cX12_arc 76 = .ok (.ireturn, 1) := by decide +kernel
theorem dX12_letter_0 : decode cX12_letter 0 = .ok (.aload_n 0, 1) := by decide +kernel
theorem dX12_letter_1 : decode cX12_letter 1 = .ok (.aload_n 0, 1) := by decide +kernel
theorem dX12_letter_2 : decode cX12_letter 2 = .ok (.iload_n 1, 1) := by decide +kernel
theorem dX12_letter_3 : decode cX12_letter 3 = .ok (.invokevirtual 367, 3) := by decide +kernel
theorem dX12_letter_6 : decode cX12_letter 6 = .ok (.iload_n 2, 1) := by decide +kernel
theorem dX12_letter_7 : decode cX12_letter 7 = .ok (.i2l, 1) := by decide +kernel
theorem dX12_letter_8 : decode cX12_letter 8 = .ok (.lconst 0, 1) := by decide +kernel
theorem dX12_letter_9 : decode cX12_letter 9 = .ok (.ldc2_w 370, 3) := by decide +kernel
theorem dX12_letter_12 : decode cX12_letter 12 = .ok (.invokestatic 90, 3) := by decide +kernel
theorem dX12_letter_15 : decode cX12_letter 15 = .ok (.invokevirtual 360, 3) := by decide +kernel
theorem dX12_letter_18 : decode cX12_letter 18 = .ok (.ifCond .ne 5, 3) := by decide +kernel
theorem dX12_letter_21 : decode cX12_letter 21 = .ok (.iconst 0, 1) := by decide +kernel
theorem dX12_letter_22 : decode cX12_letter 22 = .ok (.ireturn, 1) := by decide +kernel
theorem dX12_letter_23 : decode cX12_letter 23 = .ok (.iload_n 2, 1) := by decide +kernel
theorem dX12_letter_24 : decode cX12_letter 24 = .ok (.tableswitch 158 0 11 #[64, 71, 81, 87, 97, 103, 109, 119, 129, 136, 145, 151], 64) := by decide +kernel
theorem dX12_letter_88 : decode cX12_letter 88 = .ok (.aload_n 0, 1) := by decide +kernel
theorem dX12_letter_89 : decode cX12_letter 89 = .ok (.iload_n 1, 1) := by decide +kernel
theorem dX12_letter_90 : decode cX12_letter 90 = .ok (.iconst 0, 1) := by decide +kernel
theorem dX12_letter_91 : decode cX12_letter 91 = .ok (.invokevirtual 280, 3) := by decide +kernel
theorem dX12_letter_94 : decode cX12_letter 94 = .ok (.ireturn, 1) := by decide +kernel
theorem dX12_letter_95 : decode cX12_letter 95 = .ok (.sipush 1000, 3) := by decide +kernel
theorem dX12_letter_98 : decode cX12_letter 98 = .ok (.aload_n 0, 1) := by decide +kernel
theorem dX12_letter_99 : decode cX12_letter 99 = .ok (.iload_n 1, 1) := by decide +kernel
theorem dX12_letter_100 : decode cX12_letter 100 = .ok (.invokevirtual 289, 3) := by decide +kernel
theorem dX12_letter_103 : decode cX12_letter 103 = .ok (.imul, 1) := by decide +kernel
theorem dX12_letter_104 : decode cX12_letter 104 = .ok (.ireturn, 1) := by decide +kernel
theorem dX12_letter_105 : decode cX12_letter 105 = .ok (.aload_n 0, 1) := by decide +kernel
theorem dX12_letter_106 : decode cX12_letter 106 = .ok (.iload_n 1, 1) := by decide +kernel
theorem dX12_letter_107 : decode cX12_letter 107 = .ok (.invokevirtual 283, 3) := by decide +kernel
theorem dX12_letter_110 : decode cX12_letter 110 = .ok (.ireturn, 1) := by decide +kernel
theorem dX12_letter_111 : decode cX12_letter 111 = .ok (.aload_n 0, 1) := by decide +kernel
theorem dX12_letter_112 : decode cX12_letter 112 = .ok (.aload_n 0, 1) := by decide +kernel
theorem dX12_letter_113 : decode cX12_letter 113 = .ok (.iload_n 1, 1) := by decide +kernel
theorem dX12_letter_114 : decode cX12_letter 114 = .ok (.invokevirtual 283, 3) := by decide +kernel
theorem dX12_letter_117 : decode cX12_letter 117 = .ok (.invokevirtual 286, 3) := by decide +kernel
theorem dX12_letter_120 : decode cX12_letter 120 = .ok (.ireturn, 1) := by decide +kernel
theorem dX12_letter_121 : decode cX12_letter 121 = .ok (.aload_n 0, 1) := by decide +kernel
theorem dX12_letter_122 : decode cX12_letter 122 = .ok (.iload_n 1, 1) := by decide +kernel
theorem dX12_letter_123 : decode cX12_letter 123 = .ok (.invokevirtual 298, 3) := by decide +kernel
theorem dX12_letter_126 : decode cX12_letter 126 = .ok (.ireturn, 1) := by decide +kernel
theorem dX12_letter_127 : decode cX12_letter 127 = .ok (.aload_n 0, 1) := by decide +kernel
theorem dX12_letter_128 : decode cX12_letter 128 = .ok (.iload_n 1, 1) := by decide +kernel
theorem dX12_letter_129 : decode cX12_letter 129 = .ok (.invokevirtual 292, 3) := by decide +kernel
theorem dX12_letter_132 : decode cX12_letter 132 = .ok (.ireturn, 1) := by decide +kernel
theorem dX12_letter_133 : decode cX12_letter 133 = .ok (.aload_n 0, 1) := by decide +kernel
theorem dX12_letter_134 : decode cX12_letter 134 = .ok (.aload_n 0, 1) := by decide +kernel
theorem dX12_letter_135 : decode cX12_letter 135 = .ok (.iload_n 1, 1) := by decide +kernel
theorem dX12_letter_136 : decode cX12_letter 136 = .ok (.invokevirtual 283, 3) := by decide +kernel
theorem dX12_letter_139 : decode cX12_letter 139 = .ok (.invokevirtual 372, 3) := by decide +kernel
theorem dX12_letter_142 : decode cX12_letter 142 = .ok (.ireturn, 1) := by decide +kernel
theorem dX12_letter_143 : decode cX12_letter 143 = .ok (.aload_n 0, 1) := by decide +kernel
theorem dX12_letter_144 : decode cX12_letter 144 = .ok (.aload_n 0, 1) := by decide +kernel
theorem dX12_letter_145 : decode cX12_letter 145 = .ok (.iload_n 1, 1) := by decide +kernel
theorem dX12_letter_146 : decode cX12_letter 146 = .ok (.invokevirtual 283, 3) := by decide +kernel
theorem dX12_letter_149 : decode cX12_letter 149 = .ok (.invokevirtual 268, 3) := by decide +kernel
theorem dX12_letter_152 : decode cX12_letter 152 = .ok (.ireturn, 1) := by decide +kernel
theorem dX12_letter_153 : decode cX12_letter 153 = .ok (.aload_n 0, 1) := by decide +kernel
theorem dX12_letter_154 : decode cX12_letter 154 = .ok (.iload_n 1, 1) := by decide +kernel
theorem dX12_letter_155 : decode cX12_letter 155 = .ok (.iconst 1, 1) := by decide +kernel
theorem dX12_letter_156 : decode cX12_letter 156 = .ok (.invokevirtual 280, 3) := by decide +kernel
theorem dX12_letter_159 : decode cX12_letter 159 = .ok (.ireturn, 1) := by decide +kernel
theorem dX12_letter_160 : decode cX12_letter 160 = .ok (.aload_n 0, 1) := by decide +kernel
theorem dX12_letter_161 : decode cX12_letter 161 = .ok (.iload_n 1, 1) := by decide +kernel
theorem dX12_letter_162 : decode cX12_letter 162 = .ok (.invokevirtual 322, 3) := by decide +kernel
theorem dX12_letter_165 : decode cX12_letter 165 = .ok (.invokestatic 75, 3) := by decide +kernel
theorem dX12_letter_168 : decode cX12_letter 168 = .ok (.ireturn, 1) := by decide +kernel
theorem dX12_letter_169 : decode cX12_letter 169 = .ok (.aload_n 0, 1) := by decide +kernel
theorem dX12_letter_170 : decode cX12_letter 170 = .ok (.iload_n 1, 1) := by decide +kernel
theorem dX12_letter_171 : decode cX12_letter 171 = .ok (.invokevirtual 338, 3) := by decide +kernel
theorem dX12_letter_174 : decode cX12_letter 174 = .ok (.ireturn, 1) := by decide +kernel
theorem dX12_letter_175 : decode cX12_letter 175 = .ok (.aload_n 0, 1) := by decide +kernel
theorem dX12_letter_176 : decode cX12_letter 176 = .ok (.iload_n 1, 1) := by decide +kernel
theorem dX12_letter_177 : decode cX12_letter 177 = .ok (.iconst 2, 1) := by decide +kernel
theorem dX12_letter_178 : decode cX12_letter 178 = .ok (.invokevirtual 280, 3) := by decide +kernel
theorem dX12_letter_181 : decode cX12_letter 181 = .ok (.ireturn, 1) := by decide +kernel
theorem dX12_letter_182 : decode cX12_letter 182 = .ok (.aload_n 0, 1) := by decide +kernel
theorem dX12_letter_183 : decode cX12_letter 183 = .ok (.iload_n 1, 1) := by decide +kernel
theorem dX12_letter_184 : decode cX12_letter 184 = .ok (.invokevirtual 375, 3) := by decide +kernel
theorem dX12_letter_187 : decode cX12_letter 187 = .ok (.ireturn, 1) := by decide +kernel
theorem dX12_scratch_0 : decode cX12_scratch 0 = .ok (.aload_n 0, 1) := by decide +kernel
theorem dX12_scratch_1 : decode cX12_scratch 1 = .ok (.aload_n 0, 1) := by decide +kernel
theorem dX12_scratch_2 : decode cX12_scratch 2 = .ok (.iload_n 1, 1) := by decide +kernel
theorem dX12_scratch_3 : decode cX12_scratch 3 = .ok (.invokevirtual 378, 3) := by decide +kernel
theorem dX12_scratch_6 : decode cX12_scratch 6 = .ok (.iload_n 2, 1) := by decide +kernel
theorem dX12_scratch_7 : decode cX12_scratch 7 = .ok (.i2l, 1) := by decide +kernel
theorem dX12_scratch_8 : decode cX12_scratch 8 = .ok (.lconst 0, 1) := by decide +kernel
theorem dX12_scratch_9 : decode cX12_scratch 9 = .ok (.ldc2_w 381, 3) := by decide +kernel
theorem dX12_scratch_12 : decode cX12_scratch 12 = .ok (.invokestatic 90, 3) := by decide +kernel
theorem dX12_scratch_15 : decode cX12_scratch 15 = .ok (.invokevirtual 360, 3) := by decide +kernel
theorem dX12_scratch_18 : decode cX12_scratch 18 = .ok (.ifCond .ne 5, 3) := by decide +kernel
theorem dX12_scratch_21 : decode cX12_scratch 21 = .ok (.iconst 0, 1) := by decide +kernel
theorem dX12_scratch_22 : decode cX12_scratch 22 = .ok (.ireturn, 1) := by decide +kernel
theorem dX12_scratch_23 : decode cX12_scratch 23 = .ok (.iload_n 2, 1) := by decide +kernel
theorem dX12_scratch_24 : decode cX12_scratch 24 = .ok (.iconst 2, 1) := by decide +kernel
theorem dX12_scratch_25 : decode cX12_scratch 25 = .ok (.if_icmp .ne 11, 3) := by decide +kernel
theorem dX12_scratch_28 : decode cX12_scratch 28 = .ok (.aload_n 0, 1) := by decide +kernel
theorem dX12_scratch_29 : decode cX12_scratch 29 = .ok (.iload_n 1, 1) := by decide +kernel
theorem dX12_scratch_30 : decode cX12_scratch 30 = .ok (.invokevirtual 319, 3) := by decide +kernel
theorem dX12_scratch_33 : decode cX12_scratch 33 = .ok (.goto 9, 3) := by decide +kernel
theorem dX12_scratch_36 : decode cX12_scratch 36 = .ok (.aload_n 0, 1) := by decide +kernel
theorem dX12_scratch_37 : decode cX12_scratch 37 = .ok (.iload_n 1, 1) := by decide +kernel
theorem dX12_scratch_38 : decode cX12_scratch 38 = .ok (.iload_n 2, 1) := by decide +kernel
theorem dX12_scratch_39 : decode cX12_scratch 39 = .ok (.invokevirtual 316, 3) := by decide +kernel
theorem dX12_scratch_42 : decode cX12_scratch 42 = .ok (.ireturn, 1) := by decide +kernel
theorem dX12_flourishLetter_0 : decode cX12_flourishLetter 0 = .ok (.aload_n 0, 1) := by decide +kernel
theorem dX12_flourishLetter_1 : decode cX12_flourishLetter 1 = .ok (.aload_n 0, 1) := by decide +kernel
theorem dX12_flourishLetter_2 : decode cX12_flourishLetter 2 = .ok (.iload_n 1, 1) := by decide +kernel
theorem dX12_flourishLetter_3 : decode cX12_flourishLetter 3 = .ok (.invokevirtual 383, 3) := by decide +kernel
theorem dX12_flourishLetter_6 : decode cX12_flourishLetter 6 = .ok (.invokevirtual 82, 3) := by decide +kernel
theorem dX12_flourishLetter_9 : decode cX12_flourishLetter 9 = .ok (.ifCond .eq 16, 3) := by decide +kernel
theorem dX12_flourishLetter_12 : decode cX12_flourishLetter 12 = .ok (.aload_n 0, 1) := by decide +kernel
theorem dX12_flourishLetter_13 : decode cX12_flourishLetter 13 = .ok (.getfield 35, 3) := by decide +kernel
theorem dX12_flourishLetter_16 : decode cX12_flourishLetter 16 = .ok (.iload_n 1, 1) := by decide +kernel
theorem dX12_flourishLetter_17 : decode cX12_flourishLetter 17 = .ok (.laload, 1) := by decide +kernel
theorem dX12_flourishLetter_18 : decode cX12_flourishLetter 18 = .ok (.iload_n 2, 1) := by decide +kernel
theorem dX12_flourishLetter_19 : decode cX12_flourishLetter 19 = .ok (.invokestatic 193, 3) := by decide +kernel
theorem dX12_flourishLetter_22 : decode cX12_flourishLetter 22 = .ok (.goto 4, 3) := by decide +kernel
theorem dX12_flourishLetter_25 : decode cX12_flourishLetter 25 = .ok (.iconst 0, 1) := by decide +kernel
theorem dX12_flourishLetter_26 : decode cX12_flourishLetter 26 = .ok (.ireturn, 1) := by decide +kernel
theorem dX12_isTurn_0 : decode cX12_isTurn 0 = .ok (.iload_n 1, 1) := by decide +kernel
theorem dX12_isTurn_1 : decode cX12_isTurn 1 = .ok (.i2l, 1) := by decide +kernel
theorem dX12_isTurn_2 : decode cX12_isTurn 2 = .ok (.lconst 0, 1) := by decide +kernel
theorem dX12_isTurn_3 : decode cX12_isTurn 3 = .ok (.aload_n 0, 1) := by decide +kernel
theorem dX12_isTurn_4 : decode cX12_isTurn 4 = .ok (.invokevirtual 277, 3) := by decide +kernel
theorem dX12_isTurn_7 : decode cX12_isTurn 7 = .ok (.i2l, 1) := by decide +kernel
theorem dX12_isTurn_8 : decode cX12_isTurn 8 = .ok (.invokestatic 90, 3) := by decide +kernel
theorem dX12_isTurn_11 : decode cX12_isTurn 11 = .ok (.ireturn, 1) := by decide +kernel
theorem dX12_partsAt_0 : decode cX12_partsAt 0 = .ok (.aload_n 0, 1) := by decide +kernel
theorem dX12_partsAt_1 : decode cX12_partsAt 1 = .ok (.aload_n 0, 1) := by decide +kernel
theorem dX12_partsAt_2 : decode cX12_partsAt 2 = .ok (.iload_n 1, 1) := by decide +kernel
theorem dX12_partsAt_3 : decode cX12_partsAt 3 = .ok (.invokevirtual 386, 3) := by decide +kernel
theorem dX12_partsAt_6 : decode cX12_partsAt 6 = .ok (.invokevirtual 82, 3) := by decide +kernel
theorem dX12_partsAt_9 : decode cX12_partsAt 9 = .ok (.ifCond .eq 11, 3) := by decide +kernel
theorem dX12_partsAt_12 : decode cX12_partsAt 12 = .ok (.aload_n 0, 1) := by decide +kernel
theorem dX12_partsAt_13 : decode cX12_partsAt 13 = .ok (.iload_n 1, 1) := by decide +kernel
theorem dX12_partsAt_14 : decode cX12_partsAt 14 = .ok (.invokevirtual 286, 3) := by decide +kernel
theorem dX12_partsAt_17 : decode cX12_partsAt 17 = .ok (.goto 4, 3) := by decide +kernel
theorem dX12_partsAt_20 : decode cX12_partsAt 20 = .ok (.iconst 0, 1) := by decide +kernel
theorem dX12_partsAt_21 : decode cX12_partsAt 21 = .ok (.ireturn, 1) := by decide +kernel
theorem dX12_heading_0 : decode cX12_heading 0 = .ok (.aload_n 0, 1) := by decide +kernel
theorem dX12_heading_1 : decode cX12_heading 1 = .ok (.aload_n 0, 1) := by decide +kernel
theorem dX12_heading_2 : decode cX12_heading 2 = .ok (.iload_n 1, 1) := by decide +kernel
theorem dX12_heading_3 : decode cX12_heading 3 = .ok (.invokevirtual 386, 3) := by decide +kernel
theorem dX12_heading_6 : decode cX12_heading 6 = .ok (.invokevirtual 82, 3) := by decide +kernel
theorem dX12_heading_9 : decode cX12_heading 9 = .ok (.ifCond .eq 11, 3) := by decide +kernel
theorem dX12_heading_12 : decode cX12_heading 12 = .ok (.aload_n 0, 1) := by decide +kernel
theorem dX12_heading_13 : decode cX12_heading 13 = .ok (.iload_n 1, 1) := by decide +kernel
theorem dX12_heading_14 : decode cX12_heading 14 = .ok (.invokevirtual 372, 3) := by decide +kernel
theorem dX12_heading_17 : decode cX12_heading 17 = .ok (.goto 4, 3) := by decide +kernel
theorem dX12_heading_20 : decode cX12_heading 20 = .ok (.iconst 0, 1) := by decide +kernel
theorem dX12_heading_21 : decode cX12_heading 21 = .ok (.ireturn, 1) := by decide +kernel
theorem dX12_turnAt_0 : decode cX12_turnAt 0 = .ok (.aload_n 0, 1) := by decide +kernel
theorem dX12_turnAt_1 : decode cX12_turnAt 1 = .ok (.iload_n 1, 1) := by decide +kernel
theorem dX12_turnAt_2 : decode cX12_turnAt 2 = .ok (.i2l, 1) := by decide +kernel
theorem dX12_turnAt_3 : decode cX12_turnAt 3 = .ok (.lconst 0, 1) := by decide +kernel
theorem dX12_turnAt_4 : decode cX12_turnAt 4 = .ok (.aload_n 0, 1) := by decide +kernel
theorem dX12_turnAt_5 : decode cX12_turnAt 5 = .ok (.invokevirtual 295, 3) := by decide +kernel
theorem dX12_turnAt_8 : decode cX12_turnAt 8 = .ok (.i2l, 1) := by decide +kernel
theorem dX12_turnAt_9 : decode cX12_turnAt 9 = .ok (.invokestatic 90, 3) := by decide +kernel
theorem dX12_turnAt_12 : decode cX12_turnAt 12 = .ok (.invokevirtual 82, 3) := by decide +kernel
theorem dX12_turnAt_15 : decode cX12_turnAt 15 = .ok (.ifCond .ne 5, 3) := by decide +kernel
theorem dX12_turnAt_18 : decode cX12_turnAt 18 = .ok (.iconst 0, 1) := by decide +kernel
theorem dX12_turnAt_19 : decode cX12_turnAt 19 = .ok (.ireturn, 1) := by decide +kernel
theorem dX12_turnAt_20 : decode cX12_turnAt 20 = .ok (.aload_n 0, 1) := by decide +kernel
theorem dX12_turnAt_21 : decode cX12_turnAt 21 = .ok (.invokevirtual 277, 3) := by decide +kernel
theorem dX12_turnAt_24 : decode cX12_turnAt 24 = .ok (.istore_n 2, 1) := by decide +kernel
theorem dX12_turnAt_25 : decode cX12_turnAt 25 = .ok (.aload_n 0, 1) := by decide +kernel
theorem dX12_turnAt_26 : decode cX12_turnAt 26 = .ok (.iload_n 2, 1) := by decide +kernel
theorem dX12_turnAt_27 : decode cX12_turnAt 27 = .ok (.invokevirtual 286, 3) := by decide +kernel
theorem dX12_turnAt_30 : decode cX12_turnAt 30 = .ok (.iload_n 1, 1) := by decide +kernel
theorem dX12_turnAt_31 : decode cX12_turnAt 31 = .ok (.if_icmp .le 9, 3) := by decide +kernel
theorem dX12_turnAt_34 : decode cX12_turnAt 34 = .ok (.iinc 2 (-1), 3) := by decide +kernel
theorem dX12_turnAt_37 : decode cX12_turnAt 37 = .ok (.goto (-12), 3) := by decide +kernel
theorem dX12_turnAt_40 : decode cX12_turnAt 40 = .ok (.iload_n 2, 1) := by decide +kernel
theorem dX12_turnAt_41 : decode cX12_turnAt 41 = .ok (.ireturn, 1) := by decide +kernel
theorem dX12_farthestLeft_0 : decode cX12_farthestLeft 0 = .ok (.aload_n 0, 1) := by decide +kernel
theorem dX12_farthestLeft_1 : decode cX12_farthestLeft 1 = .ok (.iconst 0, 1) := by decide +kernel
theorem dX12_farthestLeft_2 : decode cX12_farthestLeft 2 = .ok (.putfield 72, 3) := by decide +kernel
theorem dX12_farthestLeft_5 : decode cX12_farthestLeft 5 = .ok (.iconst 0, 1) := by decide +kernel
theorem dX12_farthestLeft_6 : decode cX12_farthestLeft 6 = .ok (.istore_n 1, 1) := by decide +kernel
theorem dX12_farthestLeft_7 : decode cX12_farthestLeft 7 = .ok (.iconst 0, 1) := by decide +kernel
theorem dX12_farthestLeft_8 : decode cX12_farthestLeft 8 = .ok (.istore_n 2, 1) := by decide +kernel
theorem dX12_farthestLeft_9 : decode cX12_farthestLeft 9 = .ok (.iload_n 2, 1) := by decide +kernel
theorem dX12_farthestLeft_10 : decode cX12_farthestLeft 10 = .ok (.aload_n 0, 1) := by decide +kernel
theorem dX12_farthestLeft_11 : decode cX12_farthestLeft 11 = .ok (.getfield 20, 3) := by decide +kernel
theorem dX12_farthestLeft_14 : decode cX12_farthestLeft 14 = .ok (.iconst 0, 1) := by decide +kernel
theorem dX12_farthestLeft_15 : decode cX12_farthestLeft 15 = .ok (.iaload, 1) := by decide +kernel
theorem dX12_farthestLeft_16 : decode cX12_farthestLeft 16 = .ok (.if_icmp .gt 23, 3) := by decide +kernel
theorem dX12_farthestLeft_19 : decode cX12_farthestLeft 19 = .ok (.iload_n 1, 1) := by decide +kernel
theorem dX12_farthestLeft_20 : decode cX12_farthestLeft 20 = .ok (.aload_n 0, 1) := by decide +kernel
theorem dX12_farthestLeft_21 : decode cX12_farthestLeft 21 = .ok (.aload_n 0, 1) := by decide +kernel
theorem dX12_farthestLeft_22 : decode cX12_farthestLeft 22 = .ok (.iload_n 2, 1) := by decide +kernel
theorem dX12_farthestLeft_23 : decode cX12_farthestLeft 23 = .ok (.invokevirtual 262, 3) := by decide +kernel
theorem dX12_farthestLeft_26 : decode cX12_farthestLeft 26 = .ok (.invokevirtual 274, 3) := by decide +kernel
theorem dX12_farthestLeft_29 : decode cX12_farthestLeft 29 = .ok (.invokestatic 329, 3) := by decide +kernel
theorem dX12_farthestLeft_32 : decode cX12_farthestLeft 32 = .ok (.istore_n 1, 1) := by decide +kernel
theorem dX12_farthestLeft_33 : decode cX12_farthestLeft 33 = .ok (.iinc 2 1, 3) := by decide +kernel
theorem dX12_farthestLeft_36 : decode cX12_farthestLeft 36 = .ok (.goto (-27), 3) := by decide +kernel
theorem dX12_farthestLeft_39 : decode cX12_farthestLeft 39 = .ok (.iload_n 1, 1) := by decide +kernel
theorem dX12_farthestLeft_40 : decode cX12_farthestLeft 40 = .ok (.ireturn, 1) := by decide +kernel
theorem dX12_room_0 : decode cX12_room 0 = .ok (.aload_n 0, 1) := by decide +kernel
theorem dX12_room_1 : decode cX12_room 1 = .ok (.aload_n 0, 1) := by decide +kernel
theorem dX12_room_2 : decode cX12_room 2 = .ok (.iload_n 1, 1) := by decide +kernel
theorem dX12_room_3 : decode cX12_room 3 = .ok (.invokevirtual 389, 3) := by decide +kernel
theorem dX12_room_6 : decode cX12_room 6 = .ok (.invokevirtual 82, 3) := by decide +kernel
theorem dX12_room_9 : decode cX12_room 9 = .ok (.ifCond .eq 11, 3) := by decide +kernel
theorem dX12_room_12 : decode cX12_room 12 = .ok (.aload_n 0, 1) := by decide +kernel
theorem dX12_room_13 : decode cX12_room 13 = .ok (.iload_n 1, 1) := by decide +kernel
theorem dX12_room_14 : decode cX12_room 14 = .ok (.invokevirtual 301, 3) := by decide +kernel
theorem dX12_room_17 : decode cX12_room 17 = .ok (.goto 4, 3) := by decide +kernel
theorem dX12_room_20 : decode cX12_room 20 = .ok (.iconst 0, 1) := by decide +kernel
theorem dX12_room_21 : decode cX12_room 21 = .ok (.ireturn, 1) := by decide +kernel
theorem dX12_crowded_0 : decode cX12_crowded 0 = .ok (.aload_n 0, 1) := by decide +kernel
theorem dX12_crowded_1 : decode cX12_crowded 1 = .ok (.iconst 0, 1) := by decide +kernel
theorem dX12_crowded_2 : decode cX12_crowded 2 = .ok (.putfield 72, 3) := by decide +kernel
theorem dX12_crowded_5 : decode cX12_crowded 5 = .ok (.iconst 0, 1) := by decide +kernel
theorem dX12_crowded_6 : decode cX12_crowded 6 = .ok (.istore_n 1, 1) := by decide +kernel
theorem dX12_crowded_7 : decode cX12_crowded 7 = .ok (.iconst 0, 1) := by decide +kernel
theorem dX12_crowded_8 : decode cX12_crowded 8 = .ok (.istore_n 2, 1) := by decide +kernel
theorem dX12_crowded_9 : decode cX12_crowded 9 = .ok (.iload_n 2, 1) := by decide +kernel
theorem dX12_crowded_10 : decode cX12_crowded 10 = .ok (.aload_n 0, 1) := by decide +kernel
theorem dX12_crowded_11 : decode cX12_crowded 11 = .ok (.getfield 20, 3) := by decide +kernel
theorem dX12_crowded_14 : decode cX12_crowded 14 = .ok (.iconst 1, 1) := by decide +kernel
theorem dX12_crowded_15 : decode cX12_crowded 15 = .ok (.iaload, 1) := by decide +kernel
theorem dX12_crowded_16 : decode cX12_crowded 16 = .ok (.if_icmp .gt 27, 3) := by decide +kernel
theorem dX12_crowded_19 : decode cX12_crowded 19 = .ok (.iload_n 1, 1) := by decide +kernel
theorem dX12_crowded_20 : decode cX12_crowded 20 = .ok (.aload_n 0, 1) := by decide +kernel
theorem dX12_crowded_21 : decode cX12_crowded 21 = .ok (.iload_n 2, 1) := by decide +kernel
theorem dX12_crowded_22 : decode cX12_crowded 22 = .ok (.invokevirtual 304, 3) := by decide +kernel
theorem dX12_crowded_25 : decode cX12_crowded 25 = .ok (.ifCond .eq 9, 3) := by decide +kernel
theorem dX12_crowded_28 : decode cX12_crowded 28 = .ok (.iconst 1, 1) := by decide +kernel
theorem dX12_crowded_29 : decode cX12_crowded 29 = .ok (.iload_n 2, 1) := by decide +kernel
theorem dX12_crowded_30 : decode cX12_crowded 30 = .ok (.ishl, 1) := by decide +kernel
theorem dX12_crowded_31 : decode cX12_crowded 31 = .ok (.goto 4, 3) := by decide +kernel
theorem dX12_crowded_34 : decode cX12_crowded 34 = .ok (.iconst 0, 1) := by decide +kernel
theorem dX12_crowded_35 : decode cX12_crowded 35 = .ok (.ior, 1) := by decide +kernel
theorem dX12_crowded_36 : decode cX12_crowded 36 = .ok (.istore_n 1, 1) := by decide +kernel
theorem dX12_crowded_37 : decode cX12_crowded 37 = .ok (.iinc 2 1, 3) := by decide +kernel
theorem dX12_crowded_40 : decode cX12_crowded 40 = .ok (.goto (-31), 3) := by decide +kernel
theorem dX12_crowded_43 : decode cX12_crowded 43 = .ok (.iload_n 1, 1) := by decide +kernel
theorem dX12_crowded_44 : decode cX12_crowded 44 = .ok (.ireturn, 1) := by decide +kernel
theorem dX12_tightest_0 : decode cX12_tightest 0 = .ok (.aload_n 0, 1) := by decide +kernel
theorem dX12_tightest_1 : decode cX12_tightest 1 = .ok (.iconst 0, 1) := by decide +kernel
theorem dX12_tightest_2 : decode cX12_tightest 2 = .ok (.putfield 72, 3) := by decide +kernel
theorem dX12_tightest_5 : decode cX12_tightest 5 = .ok (.aload_n 0, 1) := by decide +kernel
theorem dX12_tightest_6 : decode cX12_tightest 6 = .ok (.invokevirtual 392, 3) := by decide +kernel
theorem dX12_tightest_9 : decode cX12_tightest 9 = .ok (.ireturn, 1) := by decide +kernel
theorem dX12_flourishIn_0 : decode cX12_flourishIn 0 = .ok (.aload_n 0, 1) := by decide +kernel
theorem dX12_flourishIn_1 : decode cX12_flourishIn 1 = .ok (.aload_n 0, 1) := by decide +kernel
theorem dX12_flourishIn_2 : decode cX12_flourishIn 2 = .ok (.iload_n 1, 1) := by decide +kernel
theorem dX12_flourishIn_3 : decode cX12_flourishIn 3 = .ok (.invokevirtual 389, 3) := by decide +kernel
theorem dX12_flourishIn_6 : decode cX12_flourishIn 6 = .ok (.invokevirtual 82, 3) := by decide +kernel
theorem dX12_flourishIn_9 : decode cX12_flourishIn 9 = .ok (.ifCond .ne 5, 3) := by decide +kernel
theorem dX12_flourishIn_12 : decode cX12_flourishIn 12 = .ok (.iconst 0, 1) := by decide +kernel
theorem dX12_flourishIn_13 : decode cX12_flourishIn 13 = .ok (.ireturn, 1) := by decide +kernel
theorem dX12_flourishIn_14 : decode cX12_flourishIn 14 = .ok (.aload_n 0, 1) := by decide +kernel
theorem dX12_flourishIn_15 : decode cX12_flourishIn 15 = .ok (.invokevirtual 395, 3) := by decide +kernel
theorem dX12_flourishIn_18 : decode cX12_flourishIn 18 = .ok (.aload_n 0, 1) := by decide +kernel
theorem dX12_flourishIn_19 : decode cX12_flourishIn 19 = .ok (.getfield 45, 3) := by decide +kernel
theorem dX12_flourishIn_22 : decode cX12_flourishIn 22 = .ok (.iload_n 1, 1) := by decide +kernel
theorem dX12_flourishIn_23 : decode cX12_flourishIn 23 = .ok (.iaload, 1) := by decide +kernel
theorem dX12_flourishIn_24 : decode cX12_flourishIn 24 = .ok (.ireturn, 1) := by decide +kernel
theorem dX12_stockLeft_0 : decode cX12_stockLeft 0 = .ok (.aload_n 0, 1) := by decide +kernel
theorem dX12_stockLeft_1 : decode cX12_stockLeft 1 = .ok (.aload_n 0, 1) := by decide +kernel
theorem dX12_stockLeft_2 : decode cX12_stockLeft 2 = .ok (.iload_n 1, 1) := by decide +kernel
theorem dX12_stockLeft_3 : decode cX12_stockLeft 3 = .ok (.invokevirtual 383, 3) := by decide +kernel
theorem dX12_stockLeft_6 : decode cX12_stockLeft 6 = .ok (.invokevirtual 82, 3) := by decide +kernel
theorem dX12_stockLeft_9 : decode cX12_stockLeft 9 = .ok (.ifCond .ne 5, 3) := by decide +kernel
theorem dX12_stockLeft_12 : decode cX12_stockLeft 12 = .ok (.iconst 0, 1) := by decide +kernel
theorem dX12_stockLeft_13 : decode cX12_stockLeft 13 = .ok (.ireturn, 1) := by decide +kernel
theorem dX12_stockLeft_14 : decode cX12_stockLeft 14 = .ok (.aload_n 0, 1) := by decide +kernel
theorem dX12_stockLeft_15 : decode cX12_stockLeft 15 = .ok (.invokevirtual 395, 3) := by decide +kernel
theorem dX12_stockLeft_18 : decode cX12_stockLeft 18 = .ok (.aload_n 0, 1) := by decide +kernel
theorem dX12_stockLeft_19 : decode cX12_stockLeft 19 = .ok (.getfield 48, 3) := by decide +kernel
theorem dX12_stockLeft_22 : decode cX12_stockLeft 22 = .ok (.iload_n 1, 1) := by decide +kernel
theorem dX12_stockLeft_23 : decode cX12_stockLeft 23 = .ok (.iaload, 1) := by decide +kernel
theorem dX12_stockLeft_24 : decode cX12_stockLeft 24 = .ok (.ireturn, 1) := by decide +kernel
theorem dX12_worth_0 : decode cX12_worth 0 = .ok (.aload_n 0, 1) := by decide +kernel
theorem dX12_worth_1 : decode cX12_worth 1 = .ok (.iconst 0, 1) := by decide +kernel
theorem dX12_worth_2 : decode cX12_worth 2 = .ok (.putfield 72, 3) := by decide +kernel
theorem dX12_worth_5 : decode cX12_worth 5 = .ok (.aload_n 0, 1) := by decide +kernel
theorem dX12_worth_6 : decode cX12_worth 6 = .ok (.invokevirtual 395, 3) := by decide +kernel
theorem dX12_worth_9 : decode cX12_worth 9 = .ok (.iconst 0, 1) := by decide +kernel
theorem dX12_worth_10 : decode cX12_worth 10 = .ok (.istore_n 1, 1) := by decide +kernel
theorem dX12_worth_11 : decode cX12_worth 11 = .ok (.iconst 0, 1) := by decide +kernel
theorem dX12_worth_12 : decode cX12_worth 12 = .ok (.istore_n 2, 1) := by decide +kernel
theorem dX12_worth_13 : decode cX12_worth 13 = .ok (.iload_n 2, 1) := by decide +kernel
theorem dX12_worth_14 : decode cX12_worth 14 = .ok (.aload_n 0, 1) := by decide +kernel
theorem dX12_worth_15 : decode cX12_worth 15 = .ok (.getfield 20, 3) := by decide +kernel
theorem dX12_worth_18 : decode cX12_worth 18 = .ok (.iconst 1, 1) := by decide +kernel
theorem dX12_worth_19 : decode cX12_worth 19 = .ok (.iaload, 1) := by decide +kernel
theorem dX12_worth_20 : decode cX12_worth 20 = .ok (.if_icmp .gt 37, 3) := by decide +kernel
theorem dX12_worth_23 : decode cX12_worth 23 = .ok (.iload_n 1, 1) := by decide +kernel
theorem dX12_worth_24 : decode cX12_worth 24 = .ok (.aload_n 0, 1) := by decide +kernel
theorem dX12_worth_25 : decode cX12_worth 25 = .ok (.getfield 45, 3) := by decide +kernel
theorem dX12_worth_28 : decode cX12_worth 28 = .ok (.iload_n 2, 1) := by decide +kernel
theorem dX12_worth_29 : decode cX12_worth 29 = .ok (.iaload, 1) := by decide +kernel
theorem dX12_worth_30 : decode cX12_worth 30 = .ok (.iconst (-1), 1) := by decide +kernel
theorem dX12_worth_31 : decode cX12_worth 31 = .ok (.if_icmp .ne 7, 3) := by decide +kernel
theorem dX12_worth_34 : decode cX12_worth 34 = .ok (.iconst 0, 1) := by decide +kernel
theorem dX12_worth_35 : decode cX12_worth 35 = .ok (.goto 14, 3) := by decide +kernel
theorem dX12_worth_38 : decode cX12_worth 38 = .ok (.aload_n 0, 1) := by decide +kernel
theorem dX12_worth_39 : decode cX12_worth 39 = .ok (.aload_n 0, 1) := by decide +kernel
theorem dX12_worth_40 : decode cX12_worth 40 = .ok (.getfield 45, 3) := by decide +kernel
theorem dX12_worth_43 : decode cX12_worth 43 = .ok (.iload_n 2, 1) := by decide +kernel
theorem dX12_worth_44 : decode cX12_worth 44 = .ok (.iaload, 1) := by decide +kernel
theorem dX12_worth_45 : decode cX12_worth 45 = .ok (.iconst 1, 1) := by decide +kernel
theorem dX12_worth_46 : decode cX12_worth 46 = .ok (.invokevirtual 307, 3) := by decide +kernel
theorem dX12_worth_49 : decode cX12_worth 49 = .ok (.iadd, 1) := by decide +kernel
theorem dX12_worth_50 : decode cX12_worth 50 = .ok (.istore_n 1, 1) := by decide +kernel
theorem dX12_worth_51 : decode cX12_worth 51 = .ok (.iinc 2 1, 3) := by decide +kernel
theorem dX12_worth_54 : decode cX12_worth 54 = .ok (.goto (-41), 3) := by decide +kernel
theorem dX12_worth_57 : decode cX12_worth 57 = .ok (.iload_n 1, 1) := by decide +kernel
theorem dX12_worth_58 : decode cX12_worth 58 = .ok (.ireturn, 1) := by decide +kernel
theorem dX12_meanRoom_0 : decode cX12_meanRoom 0 = .ok (.aload_n 0, 1) := by decide +kernel
theorem dX12_meanRoom_1 : decode cX12_meanRoom 1 = .ok (.iconst 0, 1) := by decide +kernel
theorem dX12_meanRoom_2 : decode cX12_meanRoom 2 = .ok (.putfield 72, 3) := by decide +kernel
theorem dX12_meanRoom_5 : decode cX12_meanRoom 5 = .ok (.iconst 0, 1) := by decide +kernel
theorem dX12_meanRoom_6 : decode cX12_meanRoom 6 = .ok (.istore_n 1, 1) := by decide +kernel
theorem dX12_meanRoom_7 : decode cX12_meanRoom 7 = .ok (.iconst 0, 1) := by decide +kernel
theorem dX12_meanRoom_8 : decode cX12_meanRoom 8 = .ok (.istore_n 2, 1) := by decide +kernel
theorem dX12_meanRoom_9 : decode cX12_meanRoom 9 = .ok (.iload_n 2, 1) := by decide +kernel
theorem dX12_meanRoom_10 : decode cX12_meanRoom 10 = .ok (.aload_n 0, 1) := by decide +kernel
theorem dX12_meanRoom_11 : decode cX12_meanRoom 11 = .ok (.getfield 20, 3) := by decide +kernel
theorem dX12_meanRoom_14 : decode cX12_meanRoom 14 = .ok (.iconst 1, 1) := by decide +kernel
theorem dX12_meanRoom_15 : decode cX12_meanRoom 15 = .ok (.iaload, 1) := by decide +kernel
theorem dX12_meanRoom_16 : decode cX12_meanRoom 16 = .ok (.if_icmp .gt 17, 3) := by decide +kernel
theorem dX12_meanRoom_19 : decode cX12_meanRoom 19 = .ok (.iload_n 1, 1) := by decide +kernel
theorem dX12_meanRoom_20 : decode cX12_meanRoom 20 = .ok (.aload_n 0, 1) := by decide +kernel
theorem dX12_meanRoom_21 : decode cX12_meanRoom 21 = .ok (.iload_n 2, 1) := by decide +kernel
theorem dX12_meanRoom_22 : decode cX12_meanRoom 22 = .ok (.invokevirtual 301, 3) := by decide +kernel
theorem dX12_meanRoom_25 : decode cX12_meanRoom 25 = .ok (.iadd, 1) := by decide +kernel
theorem dX12_meanRoom_26 : decode cX12_meanRoom 26 = .ok (.istore_n 1, 1) := by decide +kernel
theorem dX12_meanRoom_27 : decode cX12_meanRoom 27 = .ok (.iinc 2 1, 3) := by decide +kernel
theorem dX12_meanRoom_30 : decode cX12_meanRoom 30 = .ok (.goto (-21), 3) := by decide +kernel
theorem dX12_meanRoom_33 : decode cX12_meanRoom 33 = .ok (.iload_n 1, 1) := by decide +kernel
theorem dX12_meanRoom_34 : decode cX12_meanRoom 34 = .ok (.i2d, 1) := by decide +kernel
theorem dX12_meanRoom_35 : decode cX12_meanRoom 35 = .ok (.aload_n 0, 1) := by decide +kernel
theorem dX12_meanRoom_36 : decode cX12_meanRoom 36 = .ok (.getfield 20, 3) := by decide +kernel
theorem dX12_meanRoom_39 : decode cX12_meanRoom 39 = .ok (.iconst 1, 1) := by decide +kernel
theorem dX12_meanRoom_40 : decode cX12_meanRoom 40 = .ok (.iaload, 1) := by decide +kernel
theorem dX12_meanRoom_41 : decode cX12_meanRoom 41 = .ok (.iconst 1, 1) := by decide +kernel
theorem dX12_meanRoom_42 : decode cX12_meanRoom 42 = .ok (.iadd, 1) := by decide +kernel
theorem dX12_meanRoom_43 : decode cX12_meanRoom 43 = .ok (.i2d, 1) := by decide +kernel
theorem dX12_meanRoom_44 : decode cX12_meanRoom 44 = .ok (.ddiv, 1) := by decide +kernel
theorem dX12_meanRoom_45 : decode cX12_meanRoom 45 = .ok (.dreturn, 1) := by decide +kernel
theorem dX12_filled_0 : decode cX12_filled 0 = .ok (.aload_n 0, 1) := by decide +kernel
theorem dX12_filled_1 : decode cX12_filled 1 = .ok (.iconst 0, 1) := by decide +kernel
theorem dX12_filled_2 : decode cX12_filled 2 = .ok (.putfield 72, 3) := by decide +kernel
theorem dX12_filled_5 : decode cX12_filled 5 = .ok (.iconst 0, 1) := by decide +kernel
theorem dX12_filled_6 : decode cX12_filled 6 = .ok (.istore_n 1, 1) := by decide +kernel
theorem dX12_filled_7 : decode cX12_filled 7 = .ok (.iconst 0, 1) := by decide +kernel
theorem dX12_filled_8 : decode cX12_filled 8 = .ok (.istore_n 2, 1) := by decide +kernel
theorem dX12_filled_9 : decode cX12_filled 9 = .ok (.iload_n 2, 1) := by decide +kernel
theorem dX12_filled_10 : decode cX12_filled 10 = .ok (.aload_n 0, 1) := by decide +kernel
theorem dX12_filled_11 : decode cX12_filled 11 = .ok (.getfield 20, 3) := by decide +kernel
theorem dX12_filled_14 : decode cX12_filled 14 = .ok (.iconst 1, 1) := by decide +kernel
theorem dX12_filled_15 : decode cX12_filled 15 = .ok (.iaload, 1) := by decide +kernel
theorem dX12_filled_16 : decode cX12_filled 16 = .ok (.if_icmp .ge 21, 3) := by decide +kernel
theorem dX12_filled_19 : decode cX12_filled 19 = .ok (.iload_n 1, 1) := by decide +kernel
theorem dX12_filled_20 : decode cX12_filled 20 = .ok (.sipush 1000, 3) := by decide +kernel
theorem dX12_filled_23 : decode cX12_filled 23 = .ok (.aload_n 0, 1) := by decide +kernel
theorem dX12_filled_24 : decode cX12_filled 24 = .ok (.iload_n 2, 1) := by decide +kernel
theorem dX12_filled_25 : decode cX12_filled 25 = .ok (.invokevirtual 289, 3) := by decide +kernel
theorem dX12_filled_28 : decode cX12_filled 28 = .ok (.imul, 1) := by decide +kernel
theorem dX12_filled_29 : decode cX12_filled 29 = .ok (.iadd, 1) := by decide +kernel
theorem dX12_filled_30 : decode cX12_filled 30 = .ok (.istore_n 1, 1) := by decide +kernel
theorem dX12_filled_31 : decode cX12_filled 31 = .ok (.iinc 2 1, 3) := by decide +kernel
theorem dX12_filled_34 : decode cX12_filled 34 = .ok (.goto (-25), 3) := by decide +kernel
theorem dX12_filled_37 : decode cX12_filled 37 = .ok (.aload_n 0, 1) := by decide +kernel
theorem dX12_filled_38 : decode cX12_filled 38 = .ok (.getfield 20, 3) := by decide +kernel
theorem dX12_filled_41 : decode cX12_filled 41 = .ok (.iconst 0, 1) := by decide +kernel
theorem dX12_filled_42 : decode cX12_filled 42 = .ok (.iaload, 1) := by decide +kernel
theorem dX12_filled_43 : decode cX12_filled 43 = .ok (.ifCond .ne 7, 3) := by decide +kernel
theorem dX12_filled_46 : decode cX12_filled 46 = .ok (.fconst 0, 1) := by decide +kernel
theorem dX12_filled_47 : decode cX12_filled 47 = .ok (.goto 11, 3) := by decide +kernel
theorem dX12_filled_50 : decode cX12_filled 50 = .ok (.iload_n 1, 1) := by decide +kernel
theorem dX12_filled_51 : decode cX12_filled 51 = .ok (.i2f, 1) := by decide +kernel
theorem dX12_filled_52 : decode cX12_filled 52 = .ok (.aload_n 0, 1) := by decide +kernel
theorem dX12_filled_53 : decode cX12_filled 53 = .ok (.invokevirtual 295, 3) := by decide +kernel
theorem dX12_filled_56 : decode cX12_filled 56 = .ok (.i2f, 1) := by decide +kernel
theorem dX12_filled_57 : decode cX12_filled 57 = .ok (.fdiv, 1) := by decide +kernel
theorem dX12_filled_58 : decode cX12_filled 58 = .ok (.freturn, 1) := by decide +kernel
theorem dX12_leaves_0 : decode cX12_leaves 0 = .ok (.aload_n 0, 1) := by decide +kernel
theorem dX12_leaves_1 : decode cX12_leaves 1 = .ok (.getfield 20, 3) := by decide +kernel
theorem dX12_leaves_4 : decode cX12_leaves 4 = .ok (.iconst 0, 1) := by decide +kernel
theorem dX12_leaves_5 : decode cX12_leaves 5 = .ok (.aload_n 0, 1) := by decide +kernel
theorem dX12_leaves_6 : decode cX12_leaves 6 = .ok (.getfield 29, 3) := by decide +kernel
theorem dX12_leaves_9 : decode cX12_leaves 9 = .ok (.iconst 0, 1) := by decide +kernel
theorem dX12_leaves_10 : decode cX12_leaves 10 = .ok (.invokestatic 151, 3) := by decide +kernel
theorem dX12_leaves_13 : decode cX12_leaves 13 = .ok (.return_, 1) := by decide +kernel
theorem dX12_comesBack_0 : decode cX12_comesBack 0 = .ok (.aload_n 0, 1) := by decide +kernel
theorem dX12_comesBack_1 : decode cX12_comesBack 1 = .ok (.getfield 29, 3) := by decide +kernel
theorem dX12_comesBack_4 : decode cX12_comesBack 4 = .ok (.iconst 0, 1) := by decide +kernel
theorem dX12_comesBack_5 : decode cX12_comesBack 5 = .ok (.aload_n 0, 1) := by decide +kernel
theorem dX12_comesBack_6 : decode cX12_comesBack 6 = .ok (.getfield 20, 3) := by decide +kernel
theorem dX12_comesBack_9 : decode cX12_comesBack 9 = .ok (.iconst 0, 1) := by decide +kernel
theorem dX12_comesBack_10 : decode cX12_comesBack 10 = .ok (.invokestatic 151, 3) := by decide +kernel
theorem dX12_comesBack_13 : decode cX12_comesBack 13 = .ok (.iload_n 1, 1) := by decide +kernel
theorem dX12_comesBack_14 : decode cX12_comesBack 14 = .ok (.ireturn, 1) := by decide +kernel
theorem dX12_danger_0 : decode cX12_danger 0 = .ok (.aload_n 0, 1) := by decide +kernel
theorem dX12_danger_1 : decode cX12_danger 1 = .ok (.aload_n 0, 1) := by decide +kernel
theorem dX12_danger_2 : decode cX12_danger 2 = .ok (.iload_n 1, 1) := by decide +kernel
theorem dX12_danger_3 : decode cX12_danger 3 = .ok (.invokevirtual 367, 3) := by decide +kernel
theorem dX12_danger_6 : decode cX12_danger 6 = .ok (.invokevirtual 82, 3) := by decide +kernel
theorem dX12_danger_9 : decode cX12_danger 9 = .ok (.ifCond .eq 11, 3) := by decide +kernel
theorem dX12_danger_12 : decode cX12_danger 12 = .ok (.aload_n 0, 1) := by decide +kernel
theorem dX12_danger_13 : decode cX12_danger 13 = .ok (.iload_n 1, 1) := by decide +kernel
theorem dX12_danger_14 : decode cX12_danger 14 = .ok (.invokevirtual 398, 3) := by decide +kernel
theorem dX12_danger_17 : decode cX12_danger 17 = .ok (.goto 4, 3) := by decide +kernel
theorem dX12_danger_20 : decode cX12_danger 20 = .ok (.iconst 0, 1) := by decide +kernel
theorem dX12_danger_21 : decode cX12_danger 21 = .ok (.ireturn, 1) := by decide +kernel
theorem dX12_slipsBy_0 : decode cX12_slipsBy 0 = .ok (.aload_n 0, 1) := by decide +kernel
theorem dX12_slipsBy_1 : decode cX12_slipsBy 1 = .ok (.invokevirtual 401, 3) := by decide +kernel
theorem dX12_slipsBy_4 : decode cX12_slipsBy 4 = .ok (.aload_n 0, 1) := by decide +kernel
theorem dX12_slipsBy_5 : decode cX12_slipsBy 5 = .ok (.getfield 20, 3) := by decide +kernel
theorem dX12_slipsBy_8 : decode cX12_slipsBy 8 = .ok (.iconst 3, 1) := by decide +kernel
theorem dX12_slipsBy_9 : decode cX12_slipsBy 9 = .ok (.iload_n 1, 1) := by decide +kernel
theorem dX12_slipsBy_10 : decode cX12_slipsBy 10 = .ok (.iastore, 1) := by decide +kernel
theorem dX12_slipsBy_11 : decode cX12_slipsBy 11 = .ok (.aload_n 0, 1) := by decide +kernel
theorem dX12_slipsBy_12 : decode cX12_slipsBy 12 = .ok (.getfield 20, 3) := by decide +kernel
theorem dX12_slipsBy_15 : decode cX12_slipsBy 15 = .ok (.bipush 8, 2) := by decide +kernel
theorem dX12_slipsBy_17 : decode cX12_slipsBy 17 = .ok (.iaload, 1) := by decide +kernel
theorem dX12_slipsBy_18 : decode cX12_slipsBy 18 = .ok (.istore_n 2, 1) := by decide +kernel
theorem dX12_slipsBy_19 : decode cX12_slipsBy 19 = .ok (.aload_n 0, 1) := by decide +kernel
theorem dX12_slipsBy_20 : decode cX12_slipsBy 20 = .ok (.sipush 1000, 3) := by decide +kernel
theorem dX12_slipsBy_23 : decode cX12_slipsBy 23 = .ok (.invokevirtual 404, 3) := by decide +kernel
theorem dX12_slipsBy_26 : decode cX12_slipsBy 26 = .ok (.istore_n 3, 1) := by decide +kernel
theorem dX12_slipsBy_27 : decode cX12_slipsBy 27 = .ok (.aload_n 0, 1) := by decide +kernel
theorem dX12_slipsBy_28 : decode cX12_slipsBy 28 = .ok (.aload_n 0, 1) := by decide +kernel
theorem dX12_slipsBy_29 : decode cX12_slipsBy 29 = .ok (.getfield 20, 3) := by decide +kernel
theorem dX12_slipsBy_32 : decode cX12_slipsBy 32 = .ok (.bipush 8, 2) := by decide +kernel
theorem dX12_slipsBy_34 : decode cX12_slipsBy 34 = .ok (.iaload, 1) := by decide +kernel
theorem dX12_slipsBy_35 : decode cX12_slipsBy 35 = .ok (.iload_n 2, 1) := by decide +kernel
theorem dX12_slipsBy_36 : decode cX12_slipsBy 36 = .ok (.isub, 1) := by decide +kernel
theorem dX12_slipsBy_37 : decode cX12_slipsBy 37 = .ok (.invokevirtual 407, 3) := by decide +kernel
theorem dX12_slipsBy_40 : decode cX12_slipsBy 40 = .ok (.ireturn, 1) := by decide +kernel
theorem dX12_slipsIf_0 : decode cX12_slipsIf 0 = .ok (.aload_n 0, 1) := by decide +kernel
theorem dX12_slipsIf_1 : decode cX12_slipsIf 1 = .ok (.iconst 0, 1) := by decide +kernel
theorem dX12_slipsIf_2 : decode cX12_slipsIf 2 = .ok (.putfield 72, 3) := by decide +kernel
theorem dX12_slipsIf_5 : decode cX12_slipsIf 5 = .ok (.aload_n 0, 1) := by decide +kernel
theorem dX12_slipsIf_6 : decode cX12_slipsIf 6 = .ok (.aload_n 0, 1) := by decide +kernel
theorem dX12_slipsIf_7 : decode cX12_slipsIf 7 = .ok (.getfield 20, 3) := by decide +kernel
theorem dX12_slipsIf_10 : decode cX12_slipsIf 10 = .ok (.iconst 3, 1) := by decide +kernel
theorem dX12_slipsIf_11 : decode cX12_slipsIf 11 = .ok (.iaload, 1) := by decide +kernel
theorem dX12_slipsIf_12 : decode cX12_slipsIf 12 = .ok (.invokevirtual 410, 3) := by decide +kernel
theorem dX12_slipsIf_15 : decode cX12_slipsIf 15 = .ok (.ireturn, 1) := by decide +kernel
theorem dX12_leastSharp_0 : decode cX12_leastSharp 0 = .ok (.aload_n 0, 1) := by decide +kernel
theorem dX12_leastSharp_1 : decode cX12_leastSharp 1 = .ok (.iconst 0, 1) := by decide +kernel
theorem dX12_leastSharp_2 : decode cX12_leastSharp 2 = .ok (.putfield 72, 3) := by decide +kernel
theorem dX12_leastSharp_5 : decode cX12_leastSharp 5 = .ok (.iconst 1, 1) := by decide +kernel
theorem dX12_leastSharp_6 : decode cX12_leastSharp 6 = .ok (.istore_n 1, 1) := by decide +kernel
theorem dX12_leastSharp_7 : decode cX12_leastSharp 7 = .ok (.iload_n 1, 1) := by decide +kernel
theorem dX12_leastSharp_8 : decode cX12_leastSharp 8 = .ok (.bipush 100, 2) := by decide +kernel
theorem dX12_leastSharp_10 : decode cX12_leastSharp 10 = .ok (.if_icmp .ge 19, 3) := by decide +kernel
theorem dX12_leastSharp_13 : decode cX12_leastSharp 13 = .ok (.aload_n 0, 1) := by decide +kernel
theorem dX12_leastSharp_14 : decode cX12_leastSharp 14 = .ok (.iload_n 1, 1) := by decide +kernel
theorem dX12_leastSharp_15 : decode cX12_leastSharp 15 = .ok (.invokevirtual 410, 3) := by decide +kernel
theorem dX12_leastSharp_18 : decode cX12_leastSharp 18 = .ok (.ifCond .ne 5, 3) := by decide +kernel
theorem dX12_leastSharp_21 : decode cX12_leastSharp 21 = .ok (.iload_n 1, 1) := by decide +kernel
theorem dX12_leastSharp_22 : decode cX12_leastSharp 22 = .ok (.ireturn, 1) := by decide +kernel
theorem dX12_leastSharp_23 : decode cX12_leastSharp 23 = .ok (.iinc 1 1, 3) := by decide +kernel
theorem dX12_leastSharp_26 : decode cX12_leastSharp 26 = .ok (.goto (-19), 3) := by decide +kernel
theorem dX12_leastSharp_29 : decode cX12_leastSharp 29 = .ok (.iconst (-1), 1) := by decide +kernel
theorem dX12_leastSharp_30 : decode cX12_leastSharp 30 = .ok (.ireturn, 1) := by decide +kernel
theorem dX12_crowdedBy_0 : decode cX12_crowdedBy 0 = .ok (.aload_n 0, 1) := by decide +kernel
theorem dX12_crowdedBy_1 : decode cX12_crowdedBy 1 = .ok (.invokevirtual 401, 3) := by decide +kernel
theorem dX12_crowdedBy_4 : decode cX12_crowdedBy 4 = .ok (.iconst 0, 1) := by decide +kernel
theorem dX12_crowdedBy_5 : decode cX12_crowdedBy 5 = .ok (.istore_n 2, 1) := by decide +kernel
theorem dX12_crowdedBy_6 : decode cX12_crowdedBy 6 = .ok (.iload_n 2, 1) := by decide +kernel
theorem dX12_crowdedBy_7 : decode cX12_crowdedBy 7 = .ok (.aload_n 0, 1) := by decide +kernel
theorem dX12_crowdedBy_8 : decode cX12_crowdedBy 8 = .ok (.getfield 20, 3) := by decide +kernel
theorem dX12_crowdedBy_11 : decode cX12_crowdedBy 11 = .ok (.iconst 0, 1) := by decide +kernel
theorem dX12_crowdedBy_12 : decode cX12_crowdedBy 12 = .ok (.iaload, 1) := by decide +kernel
theorem dX12_crowdedBy_13 : decode cX12_crowdedBy 13 = .ok (.if_icmp .ge 26, 3) := by decide +kernel
theorem dX12_crowdedBy_16 : decode cX12_crowdedBy 16 = .ok (.aload_n 0, 1) := by decide +kernel
theorem dX12_crowdedBy_17 : decode cX12_crowdedBy 17 = .ok (.getfield 20, 3) := by decide +kernel
theorem dX12_crowdedBy_20 : decode cX12_crowdedBy 20 = .ok (.bipush 12, 2) := by decide +kernel
theorem dX12_crowdedBy_22 : decode cX12_crowdedBy 22 = .ok (.iconst 4, 1) := by decide +kernel
theorem dX12_crowdedBy_23 : decode cX12_crowdedBy 23 = .ok (.iload_n 2, 1) := by decide +kernel
theorem dX12_crowdedBy_24 : decode cX12_crowdedBy 24 = .ok (.imul, 1) := by decide +kernel
theorem dX12_crowdedBy_25 : decode cX12_crowdedBy 25 = .ok (.iadd, 1) := by decide +kernel
theorem dX12_crowdedBy_26 : decode cX12_crowdedBy 26 = .ok (.iconst 0, 1) := by decide +kernel
theorem dX12_crowdedBy_27 : decode cX12_crowdedBy 27 = .ok (.iadd, 1) := by decide +kernel
theorem dX12_crowdedBy_28 : decode cX12_crowdedBy 28 = .ok (.dup2, 1) := by decide +kernel
theorem dX12_crowdedBy_29 : decode cX12_crowdedBy 29 = .ok (.iaload, 1) := by decide +kernel
theorem dX12_crowdedBy_30 : decode cX12_crowdedBy 30 = .ok (.iload_n 1, 1) := by decide +kernel
theorem dX12_crowdedBy_31 : decode cX12_crowdedBy 31 = .ok (.iadd, 1) := by decide +kernel
theorem dX12_crowdedBy_32 : decode cX12_crowdedBy 32 = .ok (.iastore, 1) := by decide +kernel
theorem dX12_crowdedBy_33 : decode cX12_crowdedBy 33 = .ok (.iinc 2 1, 3) := by decide +kernel
theorem dX12_crowdedBy_36 : decode cX12_crowdedBy 36 = .ok (.goto (-30), 3) := by decide +kernel
theorem dX12_crowdedBy_39 : decode cX12_crowdedBy 39 = .ok (.aload_n 0, 1) := by decide +kernel
theorem dX12_crowdedBy_40 : decode cX12_crowdedBy 40 = .ok (.aload_n 0, 1) := by decide +kernel
theorem dX12_crowdedBy_41 : decode cX12_crowdedBy 41 = .ok (.invokevirtual 413, 3) := by decide +kernel
theorem dX12_crowdedBy_44 : decode cX12_crowdedBy 44 = .ok (.invokevirtual 407, 3) := by decide +kernel
theorem dX12_crowdedBy_47 : decode cX12_crowdedBy 47 = .ok (.ireturn, 1) := by decide +kernel
theorem dX12_leastGrowth_0 : decode cX12_leastGrowth 0 = .ok (.aload_n 0, 1) := by decide +kernel
theorem dX12_leastGrowth_1 : decode cX12_leastGrowth 1 = .ok (.iconst 0, 1) := by decide +kernel
theorem dX12_leastGrowth_2 : decode cX12_leastGrowth 2 = .ok (.putfield 72, 3) := by decide +kernel
theorem dX12_leastGrowth_5 : decode cX12_leastGrowth 5 = .ok (.iconst 0, 1) := by decide +kernel
theorem dX12_leastGrowth_6 : decode cX12_leastGrowth 6 = .ok (.istore_n 1, 1) := by decide +kernel
theorem dX12_leastGrowth_7 : decode cX12_leastGrowth 7 = .ok (.iload_n 1, 1) := by decide +kernel
theorem dX12_leastGrowth_8 : decode cX12_leastGrowth 8 = .ok (.bipush 100, 2) := by decide +kernel
theorem dX12_leastGrowth_10 : decode cX12_leastGrowth 10 = .ok (.if_icmp .ge 19, 3) := by decide +kernel
theorem dX12_leastGrowth_13 : decode cX12_leastGrowth 13 = .ok (.aload_n 0, 1) := by decide +kernel
theorem dX12_leastGrowth_14 : decode cX12_leastGrowth 14 = .ok (.iload_n 1, 1) := by decide +kernel
theorem dX12_leastGrowth_15 : decode cX12_leastGrowth 15 = .ok (.invokevirtual 416, 3) := by decide +kernel
theorem dX12_leastGrowth_18 : decode cX12_leastGrowth 18 = .ok (.ifCond .ne 5, 3) := by decide +kernel
theorem dX12_leastGrowth_21 : decode cX12_leastGrowth 21 = .ok (.iload_n 1, 1) := by decide +kernel
theorem dX12_leastGrowth_22 : decode cX12_leastGrowth 22 = .ok (.ireturn, 1) := by decide +kernel
theorem dX12_leastGrowth_23 : decode cX12_leastGrowth 23 = .ok (.iinc 1 1, 3) := by decide +kernel
theorem dX12_leastGrowth_26 : decode cX12_leastGrowth 26 = .ok (.goto (-19), 3) := by decide +kernel
theorem dX12_leastGrowth_29 : decode cX12_leastGrowth 29 = .ok (.iconst (-1), 1) := by decide +kernel
theorem dX12_leastGrowth_30 : decode cX12_leastGrowth 30 = .ok (.ireturn, 1) := by decide +kernel
theorem dX12_isPlace_0 : decode cX12_isPlace 0 = .ok (.iload_n 0, 1) := by decide +kernel
theorem dX12_isPlace_1 : decode cX12_isPlace 1 = .ok (.i2l, 1) := by decide +kernel
theorem dX12_isPlace_2 : decode cX12_isPlace 2 = .ok (.lconst 0, 1) := by decide +kernel
theorem dX12_isPlace_3 : decode cX12_isPlace 3 = .ok (.ldc2_w 419, 3) := by decide +kernel
theorem dX12_isPlace_6 : decode cX12_isPlace 6 = .ok (.invokestatic 90, 3) := by decide +kernel
theorem dX12_isPlace_9 : decode cX12_isPlace 9 = .ok (.ireturn, 1) := by decide +kernel
theorem dX12_isWidth_0 : decode cX12_isWidth 0 = .ok (.iload_n 0, 1) := by decide +kernel
theorem dX12_isWidth_1 : decode cX12_isWidth 1 = .ok (.i2l, 1) := by decide +kernel
theorem dX12_isWidth_2 : decode cX12_isWidth 2 = .ok (.lconst 1, 1) := by decide +kernel
theorem dX12_isWidth_3 : decode cX12_isWidth 3 = .ok (.ldc2_w 421, 3) := by decide +kernel
theorem dX12_isWidth_6 : decode cX12_isWidth 6 = .ok (.invokestatic 90, 3) := by decide +kernel
theorem dX12_isWidth_9 : decode cX12_isWidth 9 = .ok (.ireturn, 1) := by decide +kernel
theorem dX12_crowdedWith_0 : decode cX12_crowdedWith 0 = .ok (.aload_n 0, 1) := by decide +kernel
theorem dX12_crowdedWith_1 : decode cX12_crowdedWith 1 = .ok (.invokevirtual 401, 3) := by decide +kernel
theorem dX12_crowdedWith_4 : decode cX12_crowdedWith 4 = .ok (.aload_n 0, 1) := by decide +kernel
theorem dX12_crowdedWith_5 : decode cX12_crowdedWith 5 = .ok (.getfield 20, 3) := by decide +kernel
theorem dX12_crowdedWith_8 : decode cX12_crowdedWith 8 = .ok (.bipush 104, 2) := by decide +kernel
theorem dX12_crowdedWith_10 : decode cX12_crowdedWith 10 = .ok (.iload_n 1, 1) := by decide +kernel
theorem dX12_crowdedWith_11 : decode cX12_crowdedWith 11 = .ok (.iadd, 1) := by decide +kernel
theorem dX12_crowdedWith_12 : decode cX12_crowdedWith 12 = .ok (.iload_n 2, 1) := by decide +kernel
theorem dX12_crowdedWith_13 : decode cX12_crowdedWith 13 = .ok (.iastore, 1) := by decide +kernel
theorem dX12_crowdedWith_14 : decode cX12_crowdedWith 14 = .ok (.aload_n 0, 1) := by decide +kernel
theorem dX12_crowdedWith_15 : decode cX12_crowdedWith 15 = .ok (.aload_n 0, 1) := by decide +kernel
theorem dX12_crowdedWith_16 : decode cX12_crowdedWith 16 = .ok (.invokevirtual 413, 3) := by decide +kernel
theorem dX12_crowdedWith_19 : decode cX12_crowdedWith 19 = .ok (.invokevirtual 407, 3) := by decide +kernel
theorem dX12_crowdedWith_22 : decode cX12_crowdedWith 22 = .ok (.ireturn, 1) := by decide +kernel
theorem dX12_mostWidth_0 : decode cX12_mostWidth 0 = .ok (.aload_n 0, 1) := by decide +kernel
theorem dX12_mostWidth_1 : decode cX12_mostWidth 1 = .ok (.iload_n 1, 1) := by decide +kernel
theorem dX12_mostWidth_2 : decode cX12_mostWidth 2 = .ok (.invokestatic 423, 3) := by decide +kernel
theorem dX12_mostWidth_5 : decode cX12_mostWidth 5 = .ok (.invokevirtual 82, 3) := by decide +kernel
theorem dX12_mostWidth_8 : decode cX12_mostWidth 8 = .ok (.ifCond .ne 5, 3) := by decide +kernel
theorem dX12_mostWidth_11 : decode cX12_mostWidth 11 = .ok (.iconst 0, 1) := by decide +kernel
theorem dX12_mostWidth_12 : decode cX12_mostWidth 12 = .ok (.ireturn, 1) := by decide +kernel
theorem dX12_mostWidth_13 : decode cX12_mostWidth 13 = .ok (.bipush 99, 2) := by decide +kernel
theorem dX12_mostWidth_15 : decode cX12_mostWidth 15 = .ok (.istore_n 2, 1) := by decide +kernel
theorem dX12_mostWidth_16 : decode cX12_mostWidth 16 = .ok (.iload_n 2, 1) := by decide +kernel
theorem dX12_mostWidth_17 : decode cX12_mostWidth 17 = .ok (.ifCond .le 20, 3) := by decide +kernel
theorem dX12_mostWidth_20 : decode cX12_mostWidth 20 = .ok (.aload_n 0, 1) := by decide +kernel
theorem dX12_mostWidth_21 : decode cX12_mostWidth 21 = .ok (.iload_n 1, 1) := by decide +kernel
theorem dX12_mostWidth_22 : decode cX12_mostWidth 22 = .ok (.iload_n 2, 1) := by decide +kernel
theorem dX12_mostWidth_23 : decode cX12_mostWidth 23 = .ok (.invokevirtual 426, 3) := by decide +kernel
theorem dX12_mostWidth_26 : decode cX12_mostWidth 26 = .ok (.ifCond .ne 5, 3) := by decide +kernel
theorem dX12_mostWidth_29 : decode cX12_mostWidth 29 = .ok (.iload_n 2, 1) := by decide +kernel
theorem dX12_mostWidth_30 : decode cX12_mostWidth 30 = .ok (.ireturn, 1) := by decide +kernel
theorem dX12_mostWidth_31 : decode cX12_mostWidth 31 = .ok (.iinc 2 (-1), 3) := by decide +kernel
theorem dX12_mostWidth_34 : decode cX12_mostWidth 34 = .ok (.goto (-18), 3) := by decide +kernel
theorem dX12_mostWidth_37 : decode cX12_mostWidth 37 = .ok (.iconst (-1), 1) := by decide +kernel
theorem dX12_mostWidth_38 : decode cX12_mostWidth 38 = .ok (.ireturn, 1) := by decide +kernel
theorem dX12_isPlainWord_0 : decode cX12_isPlainWord 0 = .ok (.aload_n 0, 1) := by decide +kernel
theorem dX12_isPlainWord_1 : decode cX12_isPlainWord 1 = .ok (.getfield 79, 3) := by decide +kernel
theorem dX12_isPlainWord_4 : decode cX12_isPlainWord 4 = .ok (.i2l, 1) := by decide +kernel
theorem dX12_isPlainWord_5 : decode cX12_isPlainWord 5 = .ok (.lconst 1, 1) := by decide +kernel
theorem dX12_isPlainWord_6 : decode cX12_isPlainWord 6 = .ok (.ldc2_w 429, 3) := by decide +kernel
theorem dX12_isPlainWord_9 : decode cX12_isPlainWord 9 = .ok (.invokestatic 90, 3) := by decide +kernel
theorem dX12_isPlainWord_12 : decode cX12_isPlainWord 12 = .ok (.istore_n 1, 1) := by decide +kernel
theorem dX12_isPlainWord_13 : decode cX12_isPlainWord 13 = .ok (.iconst 0, 1) := by decide +kernel
theorem dX12_isPlainWord_14 : decode cX12_isPlainWord 14 = .ok (.istore_n 2, 1) := by decide +kernel
theorem dX12_isPlainWord_15 : decode cX12_isPlainWord 15 = .ok (.iload_n 2, 1) := by decide +kernel
theorem dX12_isPlainWord_16 : decode cX12_isPlainWord 16 = .ok (.aload_n 0, 1) := by decide +kernel
theorem dX12_isPlainWord_17 : decode cX12_isPlainWord 17 = .ok (.getfield 79, 3) := by decide +kernel
theorem dX12_isPlainWord_20 : decode cX12_isPlainWord 20 = .ok (.if_icmp .ge 23, 3) := by decide +kernel
theorem dX12_isPlainWord_23 : decode cX12_isPlainWord 23 = .ok (.iload_n 1, 1) := by decide +kernel
theorem dX12_isPlainWord_24 : decode cX12_isPlainWord 24 = .ok (.ifCond .eq 19, 3) := by decide +kernel
theorem dX12_isPlainWord_27 : decode cX12_isPlainWord 27 = .ok (.aload_n 0, 1) := by decide +kernel
theorem dX12_isPlainWord_28 : decode cX12_isPlainWord 28 = .ok (.getfield 7, 3) := by decide +kernel
theorem dX12_isPlainWord_31 : decode cX12_isPlainWord 31 = .ok (.iload_n 2, 1) := by decide +kernel
theorem dX12_isPlainWord_32 : decode cX12_isPlainWord 32 = .ok (.iaload, 1) := by decide +kernel
theorem dX12_isPlainWord_33 : decode cX12_isPlainWord 33 = .ok (.invokestatic 117, 3) := by decide +kernel
theorem dX12_isPlainWord_36 : decode cX12_isPlainWord 36 = .ok (.istore_n 1, 1) := by decide +kernel
theorem dX12_isPlainWord_37 : decode cX12_isPlainWord 37 = .ok (.iinc 2 1, 3) := by decide +kernel
theorem dX12_isPlainWord_40 : decode cX12_isPlainWord 40 = .ok (.goto (-25), 3) := by decide +kernel
theorem dX12_isPlainWord_43 : decode cX12_isPlainWord 43 = .ok (.iload_n 1, 1) := by decide +kernel
theorem dX12_isPlainWord_44 : decode cX12_isPlainWord 44 = .ok (.ireturn, 1) := by decide +kernel
theorem dX12_roomIf_0 : decode cX12_roomIf 0 = .ok (.aload_n 0, 1) := by decide +kernel
theorem dX12_roomIf_1 : decode cX12_roomIf 1 = .ok (.invokevirtual 401, 3) := by decide +kernel
theorem dX12_roomIf_4 : decode cX12_roomIf 4 = .ok (.aload_n 0, 1) := by decide +kernel
theorem dX12_roomIf_5 : decode cX12_roomIf 5 = .ok (.getfield 20, 3) := by decide +kernel
theorem dX12_roomIf_8 : decode cX12_roomIf 8 = .ok (.iconst 1, 1) := by decide +kernel
theorem dX12_roomIf_9 : decode cX12_roomIf 9 = .ok (.iconst 0, 1) := by decide +kernel
theorem dX12_roomIf_10 : decode cX12_roomIf 10 = .ok (.iastore, 1) := by decide +kernel
theorem dX12_roomIf_11 : decode cX12_roomIf 11 = .ok (.iconst 0, 1) := by decide +kernel
theorem dX12_roomIf_12 : decode cX12_roomIf 12 = .ok (.istore_n 2, 1) := by decide +kernel
theorem dX12_roomIf_13 : decode cX12_roomIf 13 = .ok (.iload_n 2, 1) := by decide +kernel
theorem dX12_roomIf_14 : decode cX12_roomIf 14 = .ok (.iload_n 1, 1) := by decide +kernel
theorem dX12_roomIf_15 : decode cX12_roomIf 15 = .ok (.if_icmp .ge 22, 3) := by decide +kernel
theorem dX12_roomIf_18 : decode cX12_roomIf 18 = .ok (.aload_n 0, 1) := by decide +kernel
theorem dX12_roomIf_19 : decode cX12_roomIf 19 = .ok (.aload_n 0, 1) := by decide +kernel
theorem dX12_roomIf_20 : decode cX12_roomIf 20 = .ok (.getfield 7, 3) := by decide +kernel
theorem dX12_roomIf_23 : decode cX12_roomIf 23 = .ok (.iload_n 2, 1) := by decide +kernel
theorem dX12_roomIf_24 : decode cX12_roomIf 24 = .ok (.iaload, 1) := by decide +kernel
theorem dX12_roomIf_25 : decode cX12_roomIf 25 = .ok (.bipush 97, 2) := by decide +kernel
theorem dX12_roomIf_27 : decode cX12_roomIf 27 = .ok (.isub, 1) := by decide +kernel
theorem dX12_roomIf_28 : decode cX12_roomIf 28 = .ok (.invokevirtual 197, 3) := by decide +kernel
theorem dX12_roomIf_31 : decode cX12_roomIf 31 = .ok (.iinc 2 1, 3) := by decide +kernel
theorem dX12_roomIf_34 : decode cX12_roomIf 34 = .ok (.goto (-21), 3) := by decide +kernel
theorem dX12_roomIf_37 : decode cX12_roomIf 37 = .ok (.aload_n 0, 1) := by decide +kernel
theorem dX12_roomIf_38 : decode cX12_roomIf 38 = .ok (.aload_n 0, 1) := by decide +kernel
theorem dX12_roomIf_39 : decode cX12_roomIf 39 = .ok (.aload_n 0, 1) := by decide +kernel
theorem dX12_roomIf_40 : decode cX12_roomIf 40 = .ok (.invokevirtual 392, 3) := by decide +kernel
theorem dX12_roomIf_43 : decode cX12_roomIf 43 = .ok (.invokevirtual 301, 3) := by decide +kernel
theorem dX12_roomIf_46 : decode cX12_roomIf 46 = .ok (.invokevirtual 407, 3) := by decide +kernel
theorem dX12_roomIf_49 : decode cX12_roomIf 49 = .ok (.ireturn, 1) := by decide +kernel
theorem dX12_tightestIf_0 : decode cX12_tightestIf 0 = .ok (.aload_n 0, 1) := by decide +kernel
theorem dX12_tightestIf_1 : decode cX12_tightestIf 1 = .ok (.invokevirtual 431, 3) := by decide +kernel
theorem dX12_tightestIf_4 : decode cX12_tightestIf 4 = .ok (.istore_n 1, 1) := by decide +kernel
theorem dX12_tightestIf_5 : decode cX12_tightestIf 5 = .ok (.aload_n 0, 1) := by decide +kernel
theorem dX12_tightestIf_6 : decode cX12_tightestIf 6 = .ok (.getfield 79, 3) := by decide +kernel
theorem dX12_tightestIf_9 : decode cX12_tightestIf 9 = .ok (.istore_n 2, 1) := by decide +kernel
theorem dX12_tightestIf_10 : decode cX12_tightestIf 10 = .ok (.aload_n 0, 1) := by decide +kernel
theorem dX12_tightestIf_11 : decode cX12_tightestIf 11 = .ok (.iconst 0, 1) := by decide +kernel
theorem dX12_tightestIf_12 : decode cX12_tightestIf 12 = .ok (.putfield 79, 3) := by decide +kernel
theorem dX12_tightestIf_15 : decode cX12_tightestIf 15 = .ok (.aload_n 0, 1) := by decide +kernel
theorem dX12_tightestIf_16 : decode cX12_tightestIf 16 = .ok (.iload_n 1, 1) := by decide +kernel
theorem dX12_tightestIf_17 : decode cX12_tightestIf 17 = .ok (.invokevirtual 82, 3) := by decide +kernel
theorem dX12_tightestIf_20 : decode cX12_tightestIf 20 = .ok (.ifCond .eq 11, 3) := by decide +kernel
theorem dX12_tightestIf_23 : decode cX12_tightestIf 23 = .ok (.aload_n 0, 1) := by decide +kernel
theorem dX12_tightestIf_24 : decode cX12_tightestIf 24 = .ok (.iload_n 2, 1) := by decide +kernel
theorem dX12_tightestIf_25 : decode cX12_tightestIf 25 = .ok (.invokevirtual 434, 3) := by decide +kernel
theorem dX12_tightestIf_28 : decode cX12_tightestIf 28 = .ok (.goto 4, 3) := by decide +kernel
theorem dX12_tightestIf_31 : decode cX12_tightestIf 31 = .ok (.iconst 0, 1) := by decide +kernel
theorem dX12_tightestIf_32 : decode cX12_tightestIf 32 = .ok (.ireturn, 1) := by decide +kernel
theorem dX12_dropsArc_0 : decode cX12_dropsArc 0 = .ok (.aload_n 0, 1) := by decide +kernel
theorem dX12_dropsArc_1 : decode cX12_dropsArc 1 = .ok (.getfield 20, 3) := by decide +kernel
theorem dX12_dropsArc_4 : decode cX12_dropsArc 4 = .ok (.iconst 0, 1) := by decide +kernel
theorem dX12_dropsArc_5 : decode cX12_dropsArc 5 = .ok (.dup2, 1) := by decide +kernel
theorem dX12_dropsArc_6 : decode cX12_dropsArc 6 = .ok (.iaload, 1) := by decide +kernel
theorem dX12_dropsArc_7 : decode cX12_dropsArc 7 = .ok (.iconst 1, 1) := by decide +kernel
theorem dX12_dropsArc_8 : decode cX12_dropsArc 8 = .ok (.isub, 1) := by decide +kernel
theorem dX12_dropsArc_9 : decode cX12_dropsArc 9 = .ok (.iastore, 1) := by decide +kernel
theorem dX12_dropsArc_10 : decode cX12_dropsArc 10 = .ok (.iconst 4, 1) := by decide +kernel
theorem dX12_dropsArc_11 : decode cX12_dropsArc 11 = .ok (.iload_n 1, 1) := by decide +kernel
theorem dX12_dropsArc_12 : decode cX12_dropsArc 12 = .ok (.imul, 1) := by decide +kernel
theorem dX12_dropsArc_13 : decode cX12_dropsArc 13 = .ok (.istore_n 2, 1) := by decide +kernel
theorem dX12_dropsArc_14 : decode cX12_dropsArc 14 = .ok (.iload_n 2, 1) := by decide +kernel
theorem dX12_dropsArc_15 : decode cX12_dropsArc 15 = .ok (.iconst 4, 1) := by decide +kernel
theorem dX12_dropsArc_16 : decode cX12_dropsArc 16 = .ok (.aload_n 0, 1) := by decide +kernel
theorem dX12_dropsArc_17 : decode cX12_dropsArc 17 = .ok (.getfield 20, 3) := by decide +kernel
theorem dX12_dropsArc_20 : decode cX12_dropsArc 20 = .ok (.iconst 0, 1) := by decide +kernel
theorem dX12_dropsArc_21 : decode cX12_dropsArc 21 = .ok (.iaload, 1) := by decide +kernel
theorem dX12_dropsArc_22 : decode cX12_dropsArc 22 = .ok (.imul, 1) := by decide +kernel
theorem dX12_dropsArc_23 : decode cX12_dropsArc 23 = .ok (.if_icmp .ge 29, 3) := by decide +kernel
theorem dX12_dropsArc_26 : decode cX12_dropsArc 26 = .ok (.aload_n 0, 1) := by decide +kernel
theorem dX12_dropsArc_27 : decode cX12_dropsArc 27 = .ok (.getfield 20, 3) := by decide +kernel
theorem dX12_dropsArc_30 : decode cX12_dropsArc 30 = .ok (.bipush 12, 2) := by decide +kernel
theorem dX12_dropsArc_32 : decode cX12_dropsArc 32 = .ok (.iload_n 2, 1) := by decide +kernel
theorem dX12_dropsArc_33 : decode cX12_dropsArc 33 = .ok (.iadd, 1) := by decide +kernel
theorem dX12_dropsArc_34 : decode cX12_dropsArc 34 = .ok (.aload_n 0, 1) := by decide +kernel
theorem dX12_dropsArc_35 : decode cX12_dropsArc 35 = .ok (.getfield 20, 3) := by decide +kernel
theorem dX12_dropsArc_38 : decode cX12_dropsArc 38 = .ok (.bipush 12, 2) := by decide +kernel
theorem dX12_dropsArc_40 : decode cX12_dropsArc 40 = .ok (.iload_n 2, 1) := by decide +kernel
theorem dX12_dropsArc_41 : decode cX12_dropsArc 41 = .ok (.iadd, 1) := by decide +kernel
theorem dX12_dropsArc_42 : decode cX12_dropsArc 42 = .ok (.iconst 4, 1) := by decide +kernel
theorem dX12_dropsArc_43 : decode cX12_dropsArc 43 = .ok (.iadd, 1) := by decide +kernel
theorem dX12_dropsArc_44 : decode cX12_dropsArc 44 = .ok (.iaload, 1) := by decide +kernel
theorem dX12_dropsArc_45 : decode cX12_dropsArc 45 = .ok (.iastore, 1) := by decide +kernel
theorem dX12_dropsArc_46 : decode cX12_dropsArc 46 = .ok (.iinc 2 1, 3) := by decide +kernel
theorem dX12_dropsArc_49 : decode cX12_dropsArc 49 = .ok (.goto (-35), 3) := by decide +kernel
theorem dX12_dropsArc_52 : decode cX12_dropsArc 52 = .ok (.return_, 1) := by decide +kernel
theorem dX12_crowdedWithout_0 : decode cX12_crowdedWithout 0 = .ok (.aload_n 0, 1) := by decide +kernel
theorem dX12_crowdedWithout_1 : decode cX12_crowdedWithout 1 = .ok (.invokevirtual 401, 3) := by decide +kernel
theorem dX12_crowdedWithout_4 : decode cX12_crowdedWithout 4 = .ok (.aload_n 0, 1) := by decide +kernel
theorem dX12_crowdedWithout_5 : decode cX12_crowdedWithout 5 = .ok (.iload_n 1, 1) := by decide +kernel
theorem dX12_crowdedWithout_6 : decode cX12_crowdedWithout 6 = .ok (.invokevirtual 437, 3) := by decide +kernel
theorem dX12_crowdedWithout_9 : decode cX12_crowdedWithout 9 = .ok (.aload_n 0, 1) := by decide +kernel
theorem dX12_crowdedWithout_10 : decode cX12_crowdedWithout 10 = .ok (.aload_n 0, 1) := by decide +kernel
theorem dX12_crowdedWithout_11 : decode cX12_crowdedWithout 11 = .ok (.invokevirtual 413, 3) := by decide +kernel
theorem dX12_crowdedWithout_14 : decode cX12_crowdedWithout 14 = .ok (.invokevirtual 407, 3) := by decide +kernel
theorem dX12_crowdedWithout_17 : decode cX12_crowdedWithout 17 = .ok (.ireturn, 1) := by decide +kernel
theorem dX12_spare_0 : decode cX12_spare 0 = .ok (.aload_n 0, 1) := by decide +kernel
theorem dX12_spare_1 : decode cX12_spare 1 = .ok (.iconst 0, 1) := by decide +kernel
theorem dX12_spare_2 : decode cX12_spare 2 = .ok (.putfield 72, 3) := by decide +kernel
theorem dX12_spare_5 : decode cX12_spare 5 = .ok (.iconst (-1), 1) := by decide +kernel
theorem dX12_spare_6 : decode cX12_spare 6 = .ok (.istore_n 1, 1) := by decide +kernel
theorem dX12_spare_7 : decode cX12_spare 7 = .ok (.iconst 0, 1) := by decide +kernel
theorem dX12_spare_8 : decode cX12_spare 8 = .ok (.istore_n 2, 1) := by decide +kernel
theorem dX12_spare_9 : decode cX12_spare 9 = .ok (.iconst 0, 1) := by decide +kernel
theorem dX12_spare_10 : decode cX12_spare 10 = .ok (.istore_n 3, 1) := by decide +kernel
theorem dX12_spare_11 : decode cX12_spare 11 = .ok (.iload_n 3, 1) := by decide +kernel
theorem dX12_spare_12 : decode cX12_spare 12 = .ok (.aload_n 0, 1) := by decide +kernel
theorem dX12_spare_13 : decode cX12_spare 13 = .ok (.getfield 20, 3) := by decide +kernel
theorem dX12_spare_16 : decode cX12_spare 16 = .ok (.iconst 0, 1) := by decide +kernel
theorem dX12_spare_17 : decode cX12_spare 17 = .ok (.iaload, 1) := by decide +kernel
theorem dX12_spare_18 : decode cX12_spare 18 = .ok (.if_icmp .ge 35, 3) := by decide +kernel
theorem dX12_spare_21 : decode cX12_spare 21 = .ok (.aload_n 0, 1) := by decide +kernel
theorem dX12_spare_22 : decode cX12_spare 22 = .ok (.iload_n 3, 1) := by decide +kernel
theorem dX12_spare_23 : decode cX12_spare 23 = .ok (.invokevirtual 440, 3) := by decide +kernel
theorem dX12_spare_26 : decode cX12_spare 26 = .ok (.istore 4, 2) := by decide +kernel
theorem dX12_spare_28 : decode cX12_spare 28 = .ok (.iload_n 1, 1) := by decide +kernel
theorem dX12_spare_29 : decode cX12_spare 29 = .ok (.iconst (-1), 1) := by decide +kernel
theorem dX12_spare_30 : decode cX12_spare 30 = .ok (.if_icmp .eq 12, 3) := by decide +kernel
theorem dX12_spare_33 : decode cX12_spare 33 = .ok (.iload 4, 2) := by decide +kernel
theorem dX12_spare_35 : decode cX12_spare 35 = .ok (.iload_n 2, 1) := by decide +kernel
theorem dX12_spare_36 : decode cX12_spare 36 = .ok (.if_icmp .lt 6, 3) := by decide +kernel
theorem dX12_spare_39 : decode cX12_spare 39 = .ok (.goto 8, 3) := by decide +kernel
theorem dX12_spare_42 : decode cX12_spare 42 = .ok (.iload_n 3, 1) := by decide +kernel
theorem dX12_spare_43 : decode cX12_spare 43 = .ok (.istore_n 1, 1) := by decide +kernel
theorem dX12_spare_44 : decode cX12_spare 44 = .ok (.iload 4, 2) := by decide +kernel
theorem dX12_spare_46 : decode cX12_spare 46 = .ok (.istore_n 2, 1) := by decide +kernel
theorem dX12_spare_47 : decode cX12_spare 47 = .ok (.iinc 3 1, 3) := by decide +kernel
theorem dX12_spare_50 : decode cX12_spare 50 = .ok (.goto (-39), 3) := by decide +kernel
theorem dX12_spare_53 : decode cX12_spare 53 = .ok (.iload_n 1, 1) := by decide +kernel
theorem dX12_spare_54 : decode cX12_spare 54 = .ok (.ireturn, 1) := by decide +kernel
theorem dX12_mayEngrave_0 : decode cX12_mayEngrave 0 = .ok (.aload_n 0, 1) := by decide +kernel
theorem dX12_mayEngrave_1 : decode cX12_mayEngrave 1 = .ok (.getfield 20, 3) := by decide +kernel
theorem dX12_mayEngrave_4 : decode cX12_mayEngrave 4 = .ok (.iconst 0, 1) := by decide +kernel
theorem dX12_mayEngrave_5 : decode cX12_mayEngrave 5 = .ok (.iaload, 1) := by decide +kernel
theorem dX12_mayEngrave_6 : decode cX12_mayEngrave 6 = .ok (.ifCond .le 19, 3) := by decide +kernel
theorem dX12_mayEngrave_9 : decode cX12_mayEngrave 9 = .ok (.aload_n 0, 1) := by decide +kernel
theorem dX12_mayEngrave_10 : decode cX12_mayEngrave 10 = .ok (.getfield 20, 3) := by decide +kernel
theorem dX12_mayEngrave_13 : decode cX12_mayEngrave 13 = .ok (.bipush 8, 2) := by decide +kernel
theorem dX12_mayEngrave_15 : decode cX12_mayEngrave 15 = .ok (.iaload, 1) := by decide +kernel
theorem dX12_mayEngrave_16 : decode cX12_mayEngrave 16 = .ok (.bipush 40, 2) := by decide +kernel
theorem dX12_mayEngrave_18 : decode cX12_mayEngrave 18 = .ok (.if_icmp .gt 7, 3) := by decide +kernel
theorem dX12_mayEngrave_21 : decode cX12_mayEngrave 21 = .ok (.iconst 1, 1) := by decide +kernel
theorem dX12_mayEngrave_22 : decode cX12_mayEngrave 22 = .ok (.goto 4, 3) := by decide +kernel
theorem dX12_mayEngrave_25 : decode cX12_mayEngrave 25 = .ok (.iconst 0, 1) := by decide +kernel
theorem dX12_mayEngrave_26 : decode cX12_mayEngrave 26 = .ok (.ireturn, 1) := by decide +kernel
theorem dX12_isPlanned_0 : decode cX12_isPlanned 0 = .ok (.aload_n 0, 1) := by decide +kernel
theorem dX12_isPlanned_1 : decode cX12_isPlanned 1 = .ok (.iload_n 1, 1) := by decide +kernel
theorem dX12_isPlanned_2 : decode cX12_isPlanned 2 = .ok (.iconst 1, 1) := by decide +kernel
theorem dX12_isPlanned_3 : decode cX12_isPlanned 3 = .ok (.invokevirtual 280, 3) := by decide +kernel
theorem dX12_isPlanned_6 : decode cX12_isPlanned 6 = .ok (.ifCond .ne 7, 3) := by decide +kernel
theorem dX12_isPlanned_9 : decode cX12_isPlanned 9 = .ok (.iconst 1, 1) := by decide +kernel
theorem dX12_isPlanned_10 : decode cX12_isPlanned 10 = .ok (.goto 4, 3) := by decide +kernel
theorem dX12_isPlanned_13 : decode cX12_isPlanned 13 = .ok (.iconst 0, 1) := by decide +kernel
theorem dX12_isPlanned_14 : decode cX12_isPlanned 14 = .ok (.ireturn, 1) := by decide +kernel
theorem dX12_engrave_0 : decode cX12_engrave 0 = .ok (.aload_n 0, 1) := by decide +kernel
theorem dX12_engrave_1 : decode cX12_engrave 1 = .ok (.iload_n 1, 1) := by decide +kernel
theorem dX12_engrave_2 : decode cX12_engrave 2 = .ok (.invokevirtual 367, 3) := by decide +kernel
theorem dX12_engrave_5 : decode cX12_engrave 5 = .ok (.istore_n 2, 1) := by decide +kernel
theorem dX12_engrave_6 : decode cX12_engrave 6 = .ok (.aload_n 0, 1) := by decide +kernel
theorem dX12_engrave_7 : decode cX12_engrave 7 = .ok (.iload_n 2, 1) := by decide +kernel
theorem dX12_engrave_8 : decode cX12_engrave 8 = .ok (.iload_n 2, 1) := by decide +kernel
theorem dX12_engrave_9 : decode cX12_engrave 9 = .ok (.ifCond .eq 22, 3) := by decide +kernel
theorem dX12_engrave_12 : decode cX12_engrave 12 = .ok (.aload_n 0, 1) := by decide +kernel
theorem dX12_engrave_13 : decode cX12_engrave 13 = .ok (.iload_n 1, 1) := by decide +kernel
theorem dX12_engrave_14 : decode cX12_engrave 14 = .ok (.invokevirtual 443, 3) := by decide +kernel
theorem dX12_engrave_17 : decode cX12_engrave 17 = .ok (.ifCond .eq 14, 3) := by decide +kernel
theorem dX12_engrave_20 : decode cX12_engrave 20 = .ok (.aload_n 0, 1) := by decide +kernel
theorem dX12_engrave_21 : decode cX12_engrave 21 = .ok (.invokevirtual 446, 3) := by decide +kernel
theorem dX12_engrave_24 : decode cX12_engrave 24 = .ok (.ifCond .eq 7, 3) := by decide +kernel
theorem dX12_engrave_27 : decode cX12_engrave 27 = .ok (.iconst 1, 1) := by decide +kernel
theorem dX12_engrave_28 : decode cX12_engrave 28 = .ok (.goto 4, 3) := by decide +kernel
theorem dX12_engrave_31 : decode cX12_engrave 31 = .ok (.iconst 0, 1) := by decide +kernel
theorem dX12_engrave_32 : decode cX12_engrave 32 = .ok (.invokevirtual 360, 3) := by decide +kernel
theorem dX12_engrave_35 : decode cX12_engrave 35 = .ok (.ifCond .ne 5, 3) := by decide +kernel
theorem dX12_engrave_38 : decode cX12_engrave 38 = .ok (.iconst 0, 1) := by decide +kernel
theorem dX12_engrave_39 : decode cX12_engrave 39 = .ok (.ireturn, 1) := by decide +kernel
theorem dX12_engrave_40 : decode cX12_engrave 40 = .ok (.aload_n 0, 1) := by decide +kernel
theorem dX12_engrave_41 : decode cX12_engrave 41 = .ok (.invokevirtual 247, 3) := by decide +kernel
theorem dX12_engrave_44 : decode cX12_engrave 44 = .ok (.aload_n 0, 1) := by decide +kernel
theorem dX12_engrave_45 : decode cX12_engrave 45 = .ok (.aload_n 0, 1) := by decide +kernel
theorem dX12_engrave_46 : decode cX12_engrave 46 = .ok (.iload_n 1, 1) := by decide +kernel
theorem dX12_engrave_47 : decode cX12_engrave 47 = .ok (.invokevirtual 344, 3) := by decide +kernel
theorem dX12_engrave_50 : decode cX12_engrave 50 = .ok (.invokevirtual 449, 3) := by decide +kernel
theorem dX12_engrave_53 : decode cX12_engrave 53 = .ok (.ireturn, 1) := by decide +kernel
theorem dX12_mayEngraveAll_0 : decode cX12_mayEngraveAll 0 = .ok (.aload_n 0, 1) := by decide +kernel
theorem dX12_mayEngraveAll_1 : decode cX12_mayEngraveAll 1 = .ok (.invokevirtual 349, 3) := by decide +kernel
theorem dX12_mayEngraveAll_4 : decode cX12_mayEngraveAll 4 = .ok (.aload_n 0, 1) := by decide +kernel
theorem dX12_mayEngraveAll_5 : decode cX12_mayEngraveAll 5 = .ok (.getfield 20, 3) := by decide +kernel
theorem dX12_mayEngraveAll_8 : decode cX12_mayEngraveAll 8 = .ok (.iconst 1, 1) := by decide +kernel
theorem dX12_mayEngraveAll_9 : decode cX12_mayEngraveAll 9 = .ok (.iaload, 1) := by decide +kernel
theorem dX12_mayEngraveAll_10 : decode cX12_mayEngraveAll 10 = .ok (.if_icmp .ge 14, 3) := by decide +kernel
theorem dX12_mayEngraveAll_13 : decode cX12_mayEngraveAll 13 = .ok (.aload_n 0, 1) := by decide +kernel
theorem dX12_mayEngraveAll_14 : decode cX12_mayEngraveAll 14 = .ok (.invokevirtual 446, 3) := by decide +kernel
theorem dX12_mayEngraveAll_17 : decode cX12_mayEngraveAll 17 = .ok (.ifCond .eq 7, 3) := by decide +kernel
theorem dX12_mayEngraveAll_20 : decode cX12_mayEngraveAll 20 = .ok (.iconst 1, 1) := by decide +kernel
theorem dX12_mayEngraveAll_21 : decode cX12_mayEngraveAll 21 = .ok (.goto 4, 3) := by decide +kernel
theorem dX12_mayEngraveAll_24 : decode cX12_mayEngraveAll 24 = .ok (.iconst 0, 1) := by decide +kernel
theorem dX12_mayEngraveAll_25 : decode cX12_mayEngraveAll 25 = .ok (.ireturn, 1) := by decide +kernel
theorem dX12_engraveAll_0 : decode cX12_engraveAll 0 = .ok (.aload_n 0, 1) := by decide +kernel
theorem dX12_engraveAll_1 : decode cX12_engraveAll 1 = .ok (.aload_n 0, 1) := by decide +kernel
theorem dX12_engraveAll_2 : decode cX12_engraveAll 2 = .ok (.invokevirtual 452, 3) := by decide +kernel
theorem dX12_engraveAll_5 : decode cX12_engraveAll 5 = .ok (.invokevirtual 82, 3) := by decide +kernel
theorem dX12_engraveAll_8 : decode cX12_engraveAll 8 = .ok (.ifCond .ne 5, 3) := by decide +kernel
theorem dX12_engraveAll_11 : decode cX12_engraveAll 11 = .ok (.iconst 0, 1) := by decide +kernel
theorem dX12_engraveAll_12 : decode cX12_engraveAll 12 = .ok (.ireturn, 1) := by decide +kernel
theorem dX12_engraveAll_13 : decode cX12_engraveAll 13 = .ok (.aload_n 0, 1) := by decide +kernel
theorem dX12_engraveAll_14 : decode cX12_engraveAll 14 = .ok (.invokevirtual 247, 3) := by decide +kernel
theorem dX12_engraveAll_17 : decode cX12_engraveAll 17 = .ok (.aload_n 0, 1) := by decide +kernel
theorem dX12_engraveAll_18 : decode cX12_engraveAll 18 = .ok (.aload_n 0, 1) := by decide +kernel
theorem dX12_engraveAll_19 : decode cX12_engraveAll 19 = .ok (.bipush 40, 2) := by decide +kernel
theorem dX12_engraveAll_21 : decode cX12_engraveAll 21 = .ok (.invokevirtual 404, 3) := by decide +kernel
theorem dX12_engraveAll_24 : decode cX12_engraveAll 24 = .ok (.invokevirtual 449, 3) := by decide +kernel
theorem dX12_engraveAll_27 : decode cX12_engraveAll 27 = .ok (.ireturn, 1) := by decide +kernel
theorem dX12_mayMend_0 : decode cX12_mayMend 0 = .ok (.aload_n 0, 1) := by decide +kernel
theorem dX12_mayMend_1 : decode cX12_mayMend 1 = .ok (.iload_n 1, 1) := by decide +kernel
theorem dX12_mayMend_2 : decode cX12_mayMend 2 = .ok (.iconst 2, 1) := by decide +kernel
theorem dX12_mayMend_3 : decode cX12_mayMend 3 = .ok (.invokevirtual 280, 3) := by decide +kernel
theorem dX12_mayMend_6 : decode cX12_mayMend 6 = .ok (.iconst 3, 1) := by decide +kernel
theorem dX12_mayMend_7 : decode cX12_mayMend 7 = .ok (.if_icmp .ge 7, 3) := by decide +kernel
theorem dX12_mayMend_10 : decode cX12_mayMend 10 = .ok (.iconst 1, 1) := by decide +kernel
theorem dX12_mayMend_11 : decode cX12_mayMend 11 = .ok (.goto 4, 3) := by decide +kernel
theorem dX12_mayMend_14 : decode cX12_mayMend 14 = .ok (.iconst 0, 1) := by decide +kernel
theorem dX12_mayMend_15 : decode cX12_mayMend 15 = .ok (.ireturn, 1) := by decide +kernel
theorem dX12_countsMend_0 : decode cX12_countsMend 0 = .ok (.aload_n 0, 1) := by decide +kernel
theorem dX12_countsMend_1 : decode cX12_countsMend 1 = .ok (.iload_n 1, 1) := by decide +kernel
theorem dX12_countsMend_2 : decode cX12_countsMend 2 = .ok (.iconst 2, 1) := by decide +kernel
theorem dX12_countsMend_3 : decode cX12_countsMend 3 = .ok (.aload_n 0, 1) := by decide +kernel
theorem dX12_countsMend_4 : decode cX12_countsMend 4 = .ok (.iload_n 1, 1) := by decide +kernel
theorem dX12_countsMend_5 : decode cX12_countsMend 5 = .ok (.iconst 2, 1) := by decide +kernel
theorem dX12_countsMend_6 : decode cX12_countsMend 6 = .ok (.invokevirtual 280, 3) := by decide +kernel
theorem dX12_countsMend_9 : decode cX12_countsMend 9 = .ok (.iconst 1, 1) := by decide +kernel
theorem dX12_countsMend_10 : decode cX12_countsMend 10 = .ok (.iadd, 1) := by decide +kernel
theorem dX12_countsMend_11 : decode cX12_countsMend 11 = .ok (.invokevirtual 189, 3) := by decide +kernel
theorem dX12_countsMend_14 : decode cX12_countsMend 14 = .ok (.return_, 1) := by decide +kernel
theorem dX12_mayMendScratch_0 : decode cX12_mayMendScratch 0 = .ok (.aload_n 0, 1) := by decide +kernel
theorem dX12_mayMendScratch_1 : decode cX12_mayMendScratch 1 = .ok (.aload_n 0, 1) := by decide +kernel
theorem dX12_mayMendScratch_2 : decode cX12_mayMendScratch 2 = .ok (.iload_n 1, 1) := by decide +kernel
theorem dX12_mayMendScratch_3 : decode cX12_mayMendScratch 3 = .ok (.iconst 0, 1) := by decide +kernel
theorem dX12_mayMendScratch_4 : decode cX12_mayMendScratch 4 = .ok (.invokevirtual 316, 3) := by decide +kernel
theorem dX12_mayMendScratch_7 : decode cX12_mayMendScratch 7 = .ok (.invokevirtual 455, 3) := by decide +kernel
theorem dX12_mayMendScratch_10 : decode cX12_mayMendScratch 10 = .ok (.ireturn, 1) := by decide +kernel
theorem dX12_mends_0 : decode cX12_mends 0 = .ok (.aload_n 0, 1) := by decide +kernel
theorem dX12_mends_1 : decode cX12_mends 1 = .ok (.aload_n 0, 1) := by decide +kernel
theorem dX12_mends_2 : decode cX12_mends 2 = .ok (.iload_n 1, 1) := by decide +kernel
theorem dX12_mends_3 : decode cX12_mends 3 = .ok (.iconst 0, 1) := by decide +kernel
theorem dX12_mends_4 : decode cX12_mends 4 = .ok (.invokevirtual 316, 3) := by decide +kernel
theorem dX12_mends_7 : decode cX12_mends 7 = .ok (.invokevirtual 458, 3) := by decide +kernel
theorem dX12_mends_10 : decode cX12_mends 10 = .ok (.aload_n 0, 1) := by decide +kernel
theorem dX12_mends_11 : decode cX12_mends 11 = .ok (.iload_n 1, 1) := by decide +kernel
theorem dX12_mends_12 : decode cX12_mends 12 = .ok (.invokevirtual 461, 3) := by decide +kernel
theorem dX12_mends_15 : decode cX12_mends 15 = .ok (.aload_n 0, 1) := by decide +kernel
theorem dX12_mends_16 : decode cX12_mends 16 = .ok (.getfield 20, 3) := by decide +kernel
theorem dX12_mends_19 : decode cX12_mends 19 = .ok (.bipush 8, 2) := by decide +kernel
theorem dX12_mends_21 : decode cX12_mends 21 = .ok (.iaload, 1) := by decide +kernel
theorem dX12_mends_22 : decode cX12_mends 22 = .ok (.ireturn, 1) := by decide +kernel
theorem dX12_mend_0 : decode cX12_mend 0 = .ok (.aload_n 0, 1) := by decide +kernel
theorem dX12_mend_1 : decode cX12_mend 1 = .ok (.iload_n 1, 1) := by decide +kernel
theorem dX12_mend_2 : decode cX12_mend 2 = .ok (.invokevirtual 378, 3) := by decide +kernel
theorem dX12_mend_5 : decode cX12_mend 5 = .ok (.istore_n 2, 1) := by decide +kernel
theorem dX12_mend_6 : decode cX12_mend 6 = .ok (.aload_n 0, 1) := by decide +kernel
theorem dX12_mend_7 : decode cX12_mend 7 = .ok (.iload_n 2, 1) := by decide +kernel
theorem dX12_mend_8 : decode cX12_mend 8 = .ok (.iload_n 2, 1) := by decide +kernel
theorem dX12_mend_9 : decode cX12_mend 9 = .ok (.ifCond .eq 15, 3) := by decide +kernel
theorem dX12_mend_12 : decode cX12_mend 12 = .ok (.aload_n 0, 1) := by decide +kernel
theorem dX12_mend_13 : decode cX12_mend 13 = .ok (.iload_n 1, 1) := by decide +kernel
theorem dX12_mend_14 : decode cX12_mend 14 = .ok (.invokevirtual 464, 3) := by decide +kernel
theorem dX12_mend_17 : decode cX12_mend 17 = .ok (.ifCond .eq 7, 3) := by decide +kernel
theorem dX12_mend_20 : decode cX12_mend 20 = .ok (.iconst 1, 1) := by decide +kernel
theorem dX12_mend_21 : decode cX12_mend 21 = .ok (.goto 4, 3) := by decide +kernel
theorem dX12_mend_24 : decode cX12_mend 24 = .ok (.iconst 0, 1) := by decide +kernel
theorem dX12_mend_25 : decode cX12_mend 25 = .ok (.invokevirtual 360, 3) := by decide +kernel
theorem dX12_mend_28 : decode cX12_mend 28 = .ok (.ifCond .ne 5, 3) := by decide +kernel
theorem dX12_mend_31 : decode cX12_mend 31 = .ok (.iconst 0, 1) := by decide +kernel
theorem dX12_mend_32 : decode cX12_mend 32 = .ok (.ireturn, 1) := by decide +kernel
theorem dX12_mend_33 : decode cX12_mend 33 = .ok (.aload_n 0, 1) := by decide +kernel
theorem dX12_mend_34 : decode cX12_mend 34 = .ok (.invokevirtual 247, 3) := by decide +kernel
theorem dX12_mend_37 : decode cX12_mend 37 = .ok (.aload_n 0, 1) := by decide +kernel
theorem dX12_mend_38 : decode cX12_mend 38 = .ok (.aload_n 0, 1) := by decide +kernel
theorem dX12_mend_39 : decode cX12_mend 39 = .ok (.iload_n 1, 1) := by decide +kernel
theorem dX12_mend_40 : decode cX12_mend 40 = .ok (.invokevirtual 467, 3) := by decide +kernel
theorem dX12_mend_43 : decode cX12_mend 43 = .ok (.invokevirtual 449, 3) := by decide +kernel
theorem dX12_mend_46 : decode cX12_mend 46 = .ok (.ireturn, 1) := by decide +kernel
theorem dX12_mayPolish_0 : decode cX12_mayPolish 0 = .ok (.aload_n 0, 1) := by decide +kernel
theorem dX12_mayPolish_1 : decode cX12_mayPolish 1 = .ok (.iload_n 1, 1) := by decide +kernel
theorem dX12_mayPolish_2 : decode cX12_mayPolish 2 = .ok (.invokevirtual 443, 3) := by decide +kernel
theorem dX12_mayPolish_5 : decode cX12_mayPolish 5 = .ok (.ifCond .ne 15, 3) := by decide +kernel
theorem dX12_mayPolish_8 : decode cX12_mayPolish 8 = .ok (.aload_n 0, 1) := by decide +kernel
theorem dX12_mayPolish_9 : decode cX12_mayPolish 9 = .ok (.iload_n 1, 1) := by decide +kernel
theorem dX12_mayPolish_10 : decode cX12_mayPolish 10 = .ok (.invokevirtual 455, 3) := by decide +kernel
theorem dX12_mayPolish_13 : decode cX12_mayPolish 13 = .ok (.ifCond .eq 7, 3) := by decide +kernel
theorem dX12_mayPolish_16 : decode cX12_mayPolish 16 = .ok (.iconst 1, 1) := by decide +kernel
theorem dX12_mayPolish_17 : decode cX12_mayPolish 17 = .ok (.goto 4, 3) := by decide +kernel
theorem dX12_mayPolish_20 : decode cX12_mayPolish 20 = .ok (.iconst 0, 1) := by decide +kernel
theorem dX12_mayPolish_21 : decode cX12_mayPolish 21 = .ok (.ireturn, 1) := by decide +kernel
theorem dX12_polishes_0 : decode cX12_polishes 0 = .ok (.aload_n 0, 1) := by decide +kernel
theorem dX12_polishes_1 : decode cX12_polishes 1 = .ok (.getfield 20, 3) := by decide +kernel
theorem dX12_polishes_4 : decode cX12_polishes 4 = .ok (.bipush 8, 2) := by decide +kernel
theorem dX12_polishes_6 : decode cX12_polishes 6 = .ok (.iaload, 1) := by decide +kernel
theorem dX12_polishes_7 : decode cX12_polishes 7 = .ok (.istore_n 2, 1) := by decide +kernel
theorem dX12_polishes_8 : decode cX12_polishes 8 = .ok (.iload_n 2, 1) := by decide +kernel
theorem dX12_polishes_9 : decode cX12_polishes 9 = .ok (.iconst 1, 1) := by decide +kernel
theorem dX12_polishes_10 : decode cX12_polishes 10 = .ok (.isub, 1) := by decide +kernel
theorem dX12_polishes_11 : decode cX12_polishes 11 = .ok (.istore_n 3, 1) := by decide +kernel
theorem dX12_polishes_12 : decode cX12_polishes 12 = .ok (.iload_n 3, 1) := by decide +kernel
theorem dX12_polishes_13 : decode cX12_polishes 13 = .ok (.ifCond .lt 24, 3) := by decide +kernel
theorem dX12_polishes_16 : decode cX12_polishes 16 = .ok (.aload_n 0, 1) := by decide +kernel
theorem dX12_polishes_17 : decode cX12_polishes 17 = .ok (.iload_n 3, 1) := by decide +kernel
theorem dX12_polishes_18 : decode cX12_polishes 18 = .ok (.iconst 0, 1) := by decide +kernel
theorem dX12_polishes_19 : decode cX12_polishes 19 = .ok (.invokevirtual 316, 3) := by decide +kernel
theorem dX12_polishes_22 : decode cX12_polishes 22 = .ok (.iload_n 1, 1) := by decide +kernel
theorem dX12_polishes_23 : decode cX12_polishes 23 = .ok (.if_icmp .ne 8, 3) := by decide +kernel
theorem dX12_polishes_26 : decode cX12_polishes 26 = .ok (.aload_n 0, 1) := by decide +kernel
theorem dX12_polishes_27 : decode cX12_polishes 27 = .ok (.iload_n 3, 1) := by decide +kernel
theorem dX12_polishes_28 : decode cX12_polishes 28 = .ok (.invokevirtual 461, 3) := by decide +kernel
theorem dX12_polishes_31 : decode cX12_polishes 31 = .ok (.iinc 3 (-1), 3) := by decide +kernel
theorem dX12_polishes_34 : decode cX12_polishes 34 = .ok (.goto (-22), 3) := by decide +kernel
theorem dX12_polishes_37 : decode cX12_polishes 37 = .ok (.aload_n 0, 1) := by decide +kernel
theorem dX12_polishes_38 : decode cX12_polishes 38 = .ok (.iload_n 1, 1) := by decide +kernel
theorem dX12_polishes_39 : decode cX12_polishes 39 = .ok (.iconst 1, 1) := by decide +kernel
theorem dX12_polishes_40 : decode cX12_polishes 40 = .ok (.iconst 0, 1) := by decide +kernel
theorem dX12_polishes_41 : decode cX12_polishes 41 = .ok (.invokevirtual 189, 3) := by decide +kernel
theorem dX12_polishes_44 : decode cX12_polishes 44 = .ok (.aload_n 0, 1) := by decide +kernel
theorem dX12_polishes_45 : decode cX12_polishes 45 = .ok (.iload_n 1, 1) := by decide +kernel
theorem dX12_polishes_46 : decode cX12_polishes 46 = .ok (.invokevirtual 458, 3) := by decide +kernel
theorem dX12_polishes_49 : decode cX12_polishes 49 = .ok (.iload_n 2, 1) := by decide +kernel
theorem dX12_polishes_50 : decode cX12_polishes 50 = .ok (.aload_n 0, 1) := by decide +kernel
theorem dX12_polishes_51 : decode cX12_polishes 51 = .ok (.getfield 20, 3) := by decide +kernel
theorem dX12_polishes_54 : decode cX12_polishes 54 = .ok (.bipush 8, 2) := by decide +kernel
theorem dX12_polishes_56 : decode cX12_polishes 56 = .ok (.iaload, 1) := by decide +kernel
theorem dX12_polishes_57 : decode cX12_polishes 57 = .ok (.isub, 1) := by decide +kernel
theorem dX12_polishes_58 : decode cX12_polishes 58 = .ok (.ireturn, 1) := by decide +kernel
theorem dX12_polish_0 : decode cX12_polish 0 = .ok (.aload_n 0, 1) := by decide +kernel
theorem dX12_polish_1 : decode cX12_polish 1 = .ok (.iload_n 1, 1) := by decide +kernel
theorem dX12_polish_2 : decode cX12_polish 2 = .ok (.invokevirtual 367, 3) := by decide +kernel
theorem dX12_polish_5 : decode cX12_polish 5 = .ok (.istore_n 2, 1) := by decide +kernel
theorem dX12_polish_6 : decode cX12_polish 6 = .ok (.aload_n 0, 1) := by decide +kernel
theorem dX12_polish_7 : decode cX12_polish 7 = .ok (.iload_n 2, 1) := by decide +kernel
theorem dX12_polish_8 : decode cX12_polish 8 = .ok (.iload_n 2, 1) := by decide +kernel
theorem dX12_polish_9 : decode cX12_polish 9 = .ok (.ifCond .eq 15, 3) := by decide +kernel
theorem dX12_polish_12 : decode cX12_polish 12 = .ok (.aload_n 0, 1) := by decide +kernel
theorem dX12_polish_13 : decode cX12_polish 13 = .ok (.iload_n 1, 1) := by decide +kernel
theorem dX12_polish_14 : decode cX12_polish 14 = .ok (.invokevirtual 470, 3) := by decide +kernel
theorem dX12_polish_17 : decode cX12_polish 17 = .ok (.ifCond .eq 7, 3) := by decide +kernel
theorem dX12_polish_20 : decode cX12_polish 20 = .ok (.iconst 1, 1) := by decide +kernel
theorem dX12_polish_21 : decode cX12_polish 21 = .ok (.goto 4, 3) := by decide +kernel
theorem dX12_polish_24 : decode cX12_polish 24 = .ok (.iconst 0, 1) := by decide +kernel
theorem dX12_polish_25 : decode cX12_polish 25 = .ok (.invokevirtual 360, 3) := by decide +kernel
theorem dX12_polish_28 : decode cX12_polish 28 = .ok (.ifCond .ne 5, 3) := by decide +kernel
theorem dX12_polish_31 : decode cX12_polish 31 = .ok (.iconst 0, 1) := by decide +kernel
theorem dX12_polish_32 : decode cX12_polish 32 = .ok (.ireturn, 1) := by decide +kernel
theorem dX12_polish_33 : decode cX12_polish 33 = .ok (.aload_n 0, 1) := by decide +kernel
theorem dX12_polish_34 : decode cX12_polish 34 = .ok (.invokevirtual 247, 3) := by decide +kernel
theorem dX12_polish_37 : decode cX12_polish 37 = .ok (.aload_n 0, 1) := by decide +kernel
theorem dX12_polish_38 : decode cX12_polish 38 = .ok (.aload_n 0, 1) := by decide +kernel
theorem dX12_polish_39 : decode cX12_polish 39 = .ok (.iload_n 1, 1) := by decide +kernel
theorem dX12_polish_40 : decode cX12_polish 40 = .ok (.invokevirtual 473, 3) := by decide +kernel
theorem dX12_polish_43 : decode cX12_polish 43 = .ok (.invokevirtual 449, 3) := by decide +kernel
theorem dX12_polish_46 : decode cX12_polish 46 = .ok (.ireturn, 1) := by decide +kernel
theorem dX12_sharpens_0 : decode cX12_sharpens 0 = .ok (.aload_n 0, 1) := by decide +kernel
theorem dX12_sharpens_1 : decode cX12_sharpens 1 = .ok (.getfield 20, 3) := by decide +kernel
theorem dX12_sharpens_4 : decode cX12_sharpens 4 = .ok (.iconst 3, 1) := by decide +kernel
theorem dX12_sharpens_5 : decode cX12_sharpens 5 = .ok (.bipush 99, 2) := by decide +kernel
theorem dX12_sharpens_7 : decode cX12_sharpens 7 = .ok (.aload_n 0, 1) := by decide +kernel
theorem dX12_sharpens_8 : decode cX12_sharpens 8 = .ok (.getfield 20, 3) := by decide +kernel
theorem dX12_sharpens_11 : decode cX12_sharpens 11 = .ok (.iconst 3, 1) := by decide +kernel
theorem dX12_sharpens_12 : decode cX12_sharpens 12 = .ok (.iaload, 1) := by decide +kernel
theorem dX12_sharpens_13 : decode cX12_sharpens 13 = .ok (.iload_n 1, 1) := by decide +kernel
theorem dX12_sharpens_14 : decode cX12_sharpens 14 = .ok (.iadd, 1) := by decide +kernel
theorem dX12_sharpens_15 : decode cX12_sharpens 15 = .ok (.invokestatic 271, 3) := by decide +kernel
theorem dX12_sharpens_18 : decode cX12_sharpens 18 = .ok (.iastore, 1) := by decide +kernel
theorem dX12_sharpens_19 : decode cX12_sharpens 19 = .ok (.aload_n 0, 1) := by decide +kernel
theorem dX12_sharpens_20 : decode cX12_sharpens 20 = .ok (.getfield 20, 3) := by decide +kernel
theorem dX12_sharpens_23 : decode cX12_sharpens 23 = .ok (.iconst 3, 1) := by decide +kernel
theorem dX12_sharpens_24 : decode cX12_sharpens 24 = .ok (.iaload, 1) := by decide +kernel
theorem dX12_sharpens_25 : decode cX12_sharpens 25 = .ok (.ireturn, 1) := by decide +kernel
theorem dX12_sharpen_0 : decode cX12_sharpen 0 = .ok (.aload_n 0, 1) := by decide +kernel
theorem dX12_sharpen_1 : decode cX12_sharpen 1 = .ok (.iload_n 1, 1) := by decide +kernel
theorem dX12_sharpen_2 : decode cX12_sharpen 2 = .ok (.invokestatic 476, 3) := by decide +kernel
theorem dX12_sharpen_5 : decode cX12_sharpen 5 = .ok (.invokevirtual 82, 3) := by decide +kernel
theorem dX12_sharpen_8 : decode cX12_sharpen 8 = .ok (.ifCond .ne 5, 3) := by decide +kernel
theorem dX12_sharpen_11 : decode cX12_sharpen 11 = .ok (.iconst 0, 1) := by decide +kernel
theorem dX12_sharpen_12 : decode cX12_sharpen 12 = .ok (.ireturn, 1) := by decide +kernel
theorem dX12_sharpen_13 : decode cX12_sharpen 13 = .ok (.aload_n 0, 1) := by decide +kernel
theorem dX12_sharpen_14 : decode cX12_sharpen 14 = .ok (.invokevirtual 247, 3) := by decide +kernel
theorem dX12_sharpen_17 : decode cX12_sharpen 17 = .ok (.aload_n 0, 1) := by decide +kernel
theorem dX12_sharpen_18 : decode cX12_sharpen 18 = .ok (.aload_n 0, 1) := by decide +kernel
theorem dX12_sharpen_19 : decode cX12_sharpen 19 = .ok (.iload_n 1, 1) := by decide +kernel
theorem dX12_sharpen_20 : decode cX12_sharpen 20 = .ok (.invokevirtual 479, 3) := by decide +kernel
theorem dX12_sharpen_23 : decode cX12_sharpen 23 = .ok (.invokevirtual 449, 3) := by decide +kernel
theorem dX12_sharpen_26 : decode cX12_sharpen 26 = .ok (.ireturn, 1) := by decide +kernel
theorem dX12_swapsCell_0 : decode cX12_swapsCell 0 = .ok (.aload_n 0, 1) := by decide +kernel
theorem dX12_swapsCell_1 : decode cX12_swapsCell 1 = .ok (.getfield 20, 3) := by decide +kernel
theorem dX12_swapsCell_4 : decode cX12_swapsCell 4 = .ok (.iload_n 1, 1) := by decide +kernel
theorem dX12_swapsCell_5 : decode cX12_swapsCell 5 = .ok (.iaload, 1) := by decide +kernel
theorem dX12_swapsCell_6 : decode cX12_swapsCell 6 = .ok (.istore_n 3, 1) := by decide +kernel
theorem dX12_swapsCell_7 : decode cX12_swapsCell 7 = .ok (.aload_n 0, 1) := by decide +kernel
theorem dX12_swapsCell_8 : decode cX12_swapsCell 8 = .ok (.getfield 20, 3) := by decide +kernel
theorem dX12_swapsCell_11 : decode cX12_swapsCell 11 = .ok (.iload_n 1, 1) := by decide +kernel
theorem dX12_swapsCell_12 : decode cX12_swapsCell 12 = .ok (.iload_n 2, 1) := by decide +kernel
theorem dX12_swapsCell_13 : decode cX12_swapsCell 13 = .ok (.iastore, 1) := by decide +kernel
theorem dX12_swapsCell_14 : decode cX12_swapsCell 14 = .ok (.iload_n 3, 1) := by decide +kernel
theorem dX12_swapsCell_15 : decode cX12_swapsCell 15 = .ok (.ireturn, 1) := by decide +kernel
theorem dX12_isMargin_0 : decode cX12_isMargin 0 = .ok (.iload_n 0, 1) := by decide +kernel
theorem dX12_isMargin_1 : decode cX12_isMargin 1 = .ok (.i2l, 1) := by decide +kernel
theorem dX12_isMargin_2 : decode cX12_isMargin 2 = .ok (.lconst 0, 1) := by decide +kernel
theorem dX12_isMargin_3 : decode cX12_isMargin 3 = .ok (.ldc2_w 421, 3) := by decide +kernel
theorem dX12_isMargin_6 : decode cX12_isMargin 6 = .ok (.invokestatic 90, 3) := by decide +kernel
theorem dX12_isMargin_9 : decode cX12_isMargin 9 = .ok (.ireturn, 1) := by decide +kernel
theorem dX12_setMargin_0 : decode cX12_setMargin 0 = .ok (.aload_n 0, 1) := by decide +kernel
theorem dX12_setMargin_1 : decode cX12_setMargin 1 = .ok (.iload_n 1, 1) := by decide +kernel
theorem dX12_setMargin_2 : decode cX12_setMargin 2 = .ok (.invokestatic 482, 3) := by decide +kernel
theorem dX12_setMargin_5 : decode cX12_setMargin 5 = .ok (.invokevirtual 82, 3) := by decide +kernel
theorem dX12_setMargin_8 : decode cX12_setMargin 8 = .ok (.ifCond .ne 5, 3) := by decide +kernel
theorem dX12_setMargin_11 : decode cX12_setMargin 11 = .ok (.iconst 0, 1) := by decide +kernel
theorem dX12_setMargin_12 : decode cX12_setMargin 12 = .ok (.ireturn, 1) := by decide +kernel
theorem dX12_setMargin_13 : decode cX12_setMargin 13 = .ok (.aload_n 0, 1) := by decide +kernel
theorem dX12_setMargin_14 : decode cX12_setMargin 14 = .ok (.invokevirtual 247, 3) := by decide +kernel
theorem dX12_setMargin_17 : decode cX12_setMargin 17 = .ok (.aload_n 0, 1) := by decide +kernel
theorem dX12_setMargin_18 : decode cX12_setMargin 18 = .ok (.aload_n 0, 1) := by decide +kernel
theorem dX12_setMargin_19 : decode cX12_setMargin 19 = .ok (.iconst 4, 1) := by decide +kernel
theorem dX12_setMargin_20 : decode cX12_setMargin 20 = .ok (.iload_n 1, 1) := by decide +kernel
theorem dX12_setMargin_21 : decode cX12_setMargin 21 = .ok (.invokevirtual 485, 3) := by decide +kernel
theorem dX12_setMargin_24 : decode cX12_setMargin 24 = .ok (.invokevirtual 449, 3) := by decide +kernel
theorem dX12_setMargin_27 : decode cX12_setMargin 27 = .ok (.ireturn, 1) := by decide +kernel
theorem dX12_setRadius_0 : decode cX12_setRadius 0 = .ok (.aload_n 0, 1) := by decide +kernel
theorem dX12_setRadius_1 : decode cX12_setRadius 1 = .ok (.aload_n 0, 1) := by decide +kernel
theorem dX12_setRadius_2 : decode cX12_setRadius 2 = .ok (.iload_n 1, 1) := by decide +kernel
theorem dX12_setRadius_3 : decode cX12_setRadius 3 = .ok (.invokevirtual 355, 3) := by decide +kernel
theorem dX12_setRadius_6 : decode cX12_setRadius 6 = .ok (.iload_n 2, 1) := by decide +kernel
theorem dX12_setRadius_7 : decode cX12_setRadius 7 = .ok (.invokestatic 476, 3) := by decide +kernel
theorem dX12_setRadius_10 : decode cX12_setRadius 10 = .ok (.invokevirtual 360, 3) := by decide +kernel
theorem dX12_setRadius_13 : decode cX12_setRadius 13 = .ok (.ifCond .ne 5, 3) := by decide +kernel
theorem dX12_setRadius_16 : decode cX12_setRadius 16 = .ok (.iconst 0, 1) := by decide +kernel
theorem dX12_setRadius_17 : decode cX12_setRadius 17 = .ok (.ireturn, 1) := by decide +kernel
theorem dX12_setRadius_18 : decode cX12_setRadius 18 = .ok (.aload_n 0, 1) := by decide +kernel
theorem dX12_setRadius_19 : decode cX12_setRadius 19 = .ok (.invokevirtual 247, 3) := by decide +kernel
theorem dX12_setRadius_22 : decode cX12_setRadius 22 = .ok (.aload_n 0, 1) := by decide +kernel
theorem dX12_setRadius_23 : decode cX12_setRadius 23 = .ok (.aload_n 0, 1) := by decide +kernel
theorem dX12_setRadius_24 : decode cX12_setRadius 24 = .ok (.bipush 12, 2) := by decide +kernel
theorem dX12_setRadius_26 : decode cX12_setRadius 26 = .ok (.iconst 4, 1) := by decide +kernel
theorem dX12_setRadius_27 : decode cX12_setRadius 27 = .ok (.iload_n 1, 1) := by decide +kernel
theorem dX12_setRadius_28 : decode cX12_setRadius 28 = .ok (.imul, 1) := by decide +kernel
theorem dX12_setRadius_29 : decode cX12_setRadius 29 = .ok (.iadd, 1) := by decide +kernel
theorem dX12_setRadius_30 : decode cX12_setRadius 30 = .ok (.iconst 0, 1) := by decide +kernel
theorem dX12_setRadius_31 : decode cX12_setRadius 31 = .ok (.iadd, 1) := by decide +kernel
theorem dX12_setRadius_32 : decode cX12_setRadius 32 = .ok (.iload_n 2, 1) := by decide +kernel
theorem dX12_setRadius_33 : decode cX12_setRadius 33 = .ok (.invokevirtual 485, 3) := by decide +kernel
theorem dX12_setRadius_36 : decode cX12_setRadius 36 = .ok (.invokevirtual 449, 3) := by decide +kernel
theorem dX12_setRadius_39 : decode cX12_setRadius 39 = .ok (.ireturn, 1) := by decide +kernel
theorem dX12_setWidth_0 : decode cX12_setWidth 0 = .ok (.aload_n 0, 1) := by decide +kernel
theorem dX12_setWidth_1 : decode cX12_setWidth 1 = .ok (.iload_n 1, 1) := by decide +kernel
theorem dX12_setWidth_2 : decode cX12_setWidth 2 = .ok (.invokestatic 423, 3) := by decide +kernel
theorem dX12_setWidth_5 : decode cX12_setWidth 5 = .ok (.ifCond .eq 14, 3) := by decide +kernel
theorem dX12_setWidth_8 : decode cX12_setWidth 8 = .ok (.iload_n 2, 1) := by decide +kernel
theorem dX12_setWidth_9 : decode cX12_setWidth 9 = .ok (.invokestatic 476, 3) := by decide +kernel
theorem dX12_setWidth_12 : decode cX12_setWidth 12 = .ok (.ifCond .eq 7, 3) := by decide +kernel
theorem dX12_setWidth_15 : decode cX12_setWidth 15 = .ok (.iconst 1, 1) := by decide +kernel
theorem dX12_setWidth_16 : decode cX12_setWidth 16 = .ok (.goto 4, 3) := by decide +kernel
theorem dX12_setWidth_19 : decode cX12_setWidth 19 = .ok (.iconst 0, 1) := by decide +kernel
theorem dX12_setWidth_20 : decode cX12_setWidth 20 = .ok (.invokevirtual 82, 3) := by decide +kernel
theorem dX12_setWidth_23 : decode cX12_setWidth 23 = .ok (.ifCond .ne 5, 3) := by decide +kernel
theorem dX12_setWidth_26 : decode cX12_setWidth 26 = .ok (.iconst 0, 1) := by decide +kernel
theorem dX12_setWidth_27 : decode cX12_setWidth 27 = .ok (.ireturn, 1) := by decide +kernel
theorem dX12_setWidth_28 : decode cX12_setWidth 28 = .ok (.aload_n 0, 1) := by decide +kernel
theorem dX12_setWidth_29 : decode cX12_setWidth 29 = .ok (.invokevirtual 247, 3) := by decide +kernel
theorem dX12_setWidth_32 : decode cX12_setWidth 32 = .ok (.aload_n 0, 1) := by decide +kernel
theorem dX12_setWidth_33 : decode cX12_setWidth 33 = .ok (.aload_n 0, 1) := by decide +kernel
theorem dX12_setWidth_34 : decode cX12_setWidth 34 = .ok (.bipush 104, 2) := by decide +kernel
theorem dX12_setWidth_36 : decode cX12_setWidth 36 = .ok (.iload_n 1, 1) := by decide +kernel
theorem dX12_setWidth_37 : decode cX12_setWidth 37 = .ok (.iadd, 1) := by decide +kernel
theorem dX12_setWidth_38 : decode cX12_setWidth 38 = .ok (.iload_n 2, 1) := by decide +kernel
theorem dX12_setWidth_39 : decode cX12_setWidth 39 = .ok (.invokevirtual 485, 3) := by decide +kernel
theorem dX12_setWidth_42 : decode cX12_setWidth 42 = .ok (.invokevirtual 449, 3) := by decide +kernel
theorem dX12_setWidth_45 : decode cX12_setWidth 45 = .ok (.ireturn, 1) := by decide +kernel
theorem dX12_commandHere_0 : decode cX12_commandHere 0 = .ok (.aload_n 0, 1) := by decide +kernel
theorem dX12_commandHere_1 : decode cX12_commandHere 1 = .ok (.ldc2_w 488, 3) := by decide +kernel
theorem dX12_commandHere_4 : decode cX12_commandHere 4 = .ok (.invokevirtual 140, 3) := by decide +kernel
theorem dX12_commandHere_7 : decode cX12_commandHere 7 = .ok (.ifCond .eq 5, 3) := by decide +kernel
theorem dX12_commandHere_10 : decode cX12_commandHere 10 = .ok (.iconst 0, 1) := by decide +kernel
theorem dX12_commandHere_11 : decode cX12_commandHere 11 = .ok (.ireturn, 1) := by decide +kernel
theorem dX12_commandHere_12 : decode cX12_commandHere 12 = .ok (.aload_n 0, 1) := by decide +kernel
theorem dX12_commandHere_13 : decode cX12_commandHere 13 = .ok (.ldc2_w 490, 3) := by decide +kernel
theorem dX12_commandHere_16 : decode cX12_commandHere 16 = .ok (.invokevirtual 140, 3) := by decide +kernel
theorem dX12_commandHere_19 : decode cX12_commandHere 19 = .ok (.ifCond .eq 5, 3) := by decide +kernel
theorem dX12_commandHere_22 : decode cX12_commandHere 22 = .ok (.iconst 1, 1) := by decide +kernel
theorem dX12_commandHere_23 : decode cX12_commandHere 23 = .ok (.ireturn, 1) := by decide +kernel
theorem dX12_commandHere_24 : decode cX12_commandHere 24 = .ok (.aload_n 0, 1) := by decide +kernel
theorem dX12_commandHere_25 : decode cX12_commandHere 25 = .ok (.ldc2_w 492, 3) := by decide +kernel
theorem dX12_commandHere_28 : decode cX12_commandHere 28 = .ok (.invokevirtual 140, 3) := by decide +kernel
theorem dX12_commandHere_31 : decode cX12_commandHere 31 = .ok (.ifCond .eq 5, 3) := by decide +kernel
theorem dX12_commandHere_34 : decode cX12_commandHere 34 = .ok (.iconst 2, 1) := by decide +kernel
theorem dX12_commandHere_35 : decode cX12_commandHere 35 = .ok (.ireturn, 1) := by decide +kernel
theorem dX12_commandHere_36 : decode cX12_commandHere 36 = .ok (.aload_n 0, 1) := by decide +kernel
theorem dX12_commandHere_37 : decode cX12_commandHere 37 = .ok (.ldc2_w 494, 3) := by decide +kernel
theorem dX12_commandHere_40 : decode cX12_commandHere 40 = .ok (.invokevirtual 140, 3) := by decide +kernel
theorem dX12_commandHere_43 : decode cX12_commandHere 43 = .ok (.ifCond .eq 5, 3) := by decide +kernel
theorem dX12_commandHere_46 : decode cX12_commandHere 46 = .ok (.iconst 3, 1) := by decide +kernel
theorem dX12_commandHere_47 : decode cX12_commandHere 47 = .ok (.ireturn, 1) := by decide +kernel
theorem dX12_commandHere_48 : decode cX12_commandHere 48 = .ok (.aload_n 0, 1) := by decide +kernel
theorem dX12_commandHere_49 : decode cX12_commandHere 49 = .ok (.ldc2_w 496, 3) := by decide +kernel
theorem dX12_commandHere_52 : decode cX12_commandHere 52 = .ok (.invokevirtual 140, 3) := by decide +kernel
theorem dX12_commandHere_55 : decode cX12_commandHere 55 = .ok (.ifCond .eq 5, 3) := by decide +kernel
theorem dX12_commandHere_58 : decode cX12_commandHere 58 = .ok (.iconst 4, 1) := by decide +kernel
theorem dX12_commandHere_59 : decode cX12_commandHere 59 = .ok (.ireturn, 1) := by decide +kernel
theorem dX12_commandHere_60 : decode cX12_commandHere 60 = .ok (.aload_n 0, 1) := by decide +kernel
theorem dX12_commandHere_61 : decode cX12_commandHere 61 = .ok (.ldc2_w 239, 3) := by decide +kernel
theorem dX12_commandHere_64 : decode cX12_commandHere 64 = .ok (.invokevirtual 140, 3) := by decide +kernel
theorem dX12_commandHere_67 : decode cX12_commandHere 67 = .ok (.ifCond .eq 5, 3) := by decide +kernel
theorem dX12_commandHere_70 : decode cX12_commandHere 70 = .ok (.iconst 5, 1) := by decide +kernel
theorem dX12_commandHere_71 : decode cX12_commandHere 71 = .ok (.ireturn, 1) := by decide +kernel
theorem dX12_commandHere_72 : decode cX12_commandHere 72 = .ok (.aload_n 0, 1) := by decide +kernel
theorem dX12_commandHere_73 : decode cX12_commandHere 73 = .ok (.ldc2_w 498, 3) := by decide +kernel
theorem dX12_commandHere_76 : decode cX12_commandHere 76 = .ok (.invokevirtual 140, 3) := by decide +kernel
theorem dX12_commandHere_79 : decode cX12_commandHere 79 = .ok (.ifCond .eq 8, 3) := by decide +kernel
theorem dX12_commandHere_82 : decode cX12_commandHere 82 = .ok (.bipush 6, 2) := by decide +kernel
theorem dX12_commandHere_84 : decode cX12_commandHere 84 = .ok (.goto 4, 3) := by decide +kernel
theorem dX12_commandHere_87 : decode cX12_commandHere 87 = .ok (.iconst (-1), 1) := by decide +kernel
theorem dX12_commandHere_88 : decode cX12_commandHere 88 = .ok (.ireturn, 1) := by decide +kernel
theorem dX12_command_0 : decode cX12_command 0 = .ok (.aload_n 0, 1) := by decide +kernel
theorem dX12_command_1 : decode cX12_command 1 = .ok (.invokevirtual 500, 3) := by decide +kernel
theorem dX12_command_4 : decode cX12_command 4 = .ok (.istore_n 1, 1) := by decide +kernel
theorem dX12_command_5 : decode cX12_command 5 = .ok (.iload_n 1, 1) := by decide +kernel
theorem dX12_command_6 : decode cX12_command 6 = .ok (.iconst (-1), 1) := by decide +kernel
theorem dX12_command_7 : decode cX12_command 7 = .ok (.if_icmp .ne 8, 3) := by decide +kernel
theorem dX12_command_10 : decode cX12_command 10 = .ok (.aload_n 0, 1) := by decide +kernel
theorem dX12_command_11 : decode cX12_command 11 = .ok (.iconst 1, 1) := by decide +kernel
theorem dX12_command_12 : decode cX12_command 12 = .ok (.invokevirtual 134, 3) := by decide +kernel
theorem dX12_command_15 : decode cX12_command 15 = .ok (.iload_n 1, 1) := by decide +kernel
theorem dX12_command_16 : decode cX12_command 16 = .ok (.bipush 6, 2) := by decide +kernel
theorem dX12_command_18 : decode cX12_command 18 = .ok (.if_icmp .ne 16, 3) := by decide +kernel
theorem dX12_command_21 : decode cX12_command 21 = .ok (.aload_n 0, 1) := by decide +kernel
theorem dX12_command_22 : decode cX12_command 22 = .ok (.getfield 503, 3) := by decide +kernel
theorem dX12_command_25 : decode cX12_command 25 = .ok (.iconst 2, 1) := by decide +kernel
theorem dX12_command_26 : decode cX12_command 26 = .ok (.if_icmp .ne 8, 3) := by decide +kernel
theorem dX12_command_29 : decode cX12_command 29 = .ok (.aload_n 0, 1) := by decide +kernel
theorem dX12_command_30 : decode cX12_command 30 = .ok (.iconst 3, 1) := by decide +kernel
theorem dX12_command_31 : decode cX12_command 31 = .ok (.invokevirtual 134, 3) := by decide +kernel
theorem dX12_command_34 : decode cX12_command 34 = .ok (.aload_n 0, 1) := by decide +kernel
theorem dX12_command_35 : decode cX12_command 35 = .ok (.getfield 506, 3) := by decide +kernel
theorem dX12_command_38 : decode cX12_command 38 = .ok (.bipush 30, 2) := by decide +kernel
theorem dX12_command_40 : decode cX12_command 40 = .ok (.if_icmp .ne 8, 3) := by decide +kernel
theorem dX12_command_43 : decode cX12_command 43 = .ok (.aload_n 0, 1) := by decide +kernel
theorem dX12_command_44 : decode cX12_command 44 = .ok (.iconst 5, 1) := by decide +kernel
theorem dX12_command_45 : decode cX12_command 45 = .ok (.invokevirtual 134, 3) := by decide +kernel
theorem dX12_command_48 : decode cX12_command 48 = .ok (.aload_n 0, 1) := by decide +kernel
theorem dX12_command_49 : decode cX12_command 49 = .ok (.invokevirtual 127, 3) := by decide +kernel
theorem dX12_command_52 : decode cX12_command 52 = .ok (.ifCond .ne 4, 3) := by decide +kernel
theorem dX12_command_55 : decode cX12_command 55 = .ok (.return_, 1) := by decide +kernel
theorem dX12_command_56 : decode cX12_command 56 = .ok (.aload_n 0, 1) := by decide +kernel
theorem dX12_command_57 : decode cX12_command 57 = .ok (.dup, 1) := by decide +kernel
theorem dX12_command_58 : decode cX12_command 58 = .ok (.getfield 506, 3) := by decide +kernel
theorem dX12_command_61 : decode cX12_command 61 = .ok (.iconst 1, 1) := by decide +kernel
theorem dX12_command_62 : decode cX12_command 62 = .ok (.iadd, 1) := by decide +kernel
theorem dX12_command_63 : decode cX12_command 63 = .ok (.putfield 506, 3) := by decide +kernel
theorem dX12_command_66 : decode cX12_command 66 = .ok (.aload_n 0, 1) := by decide +kernel
theorem dX12_command_67 : decode cX12_command 67 = .ok (.invokevirtual 137, 3) := by decide +kernel
theorem dX12_command_70 : decode cX12_command 70 = .ok (.aload_n 0, 1) := by decide +kernel
theorem dX12_command_71 : decode cX12_command 71 = .ok (.getfield 509, 3) := by decide +kernel
theorem dX12_command_74 : decode cX12_command 74 = .ok (.istore_n 2, 1) := by decide +kernel
theorem dX12_command_75 : decode cX12_command 75 = .ok (.aload_n 0, 1) := by decide +kernel
theorem dX12_command_76 : decode cX12_command 76 = .ok (.getfield 54, 3) := by decide +kernel
theorem dX12_command_79 : decode cX12_command 79 = .ok (.iload_n 2, 1) := by decide +kernel
theorem dX12_command_80 : decode cX12_command 80 = .ok (.iload_n 1, 1) := by decide +kernel
theorem dX12_command_81 : decode cX12_command 81 = .ok (.iastore, 1) := by decide +kernel
theorem dX12_command_82 : decode cX12_command 82 = .ok (.iload_n 1, 1) := by decide +kernel
theorem dX12_command_83 : decode cX12_command 83 = .ok (.bipush 6, 2) := by decide +kernel
theorem dX12_command_85 : decode cX12_command 85 = .ok (.if_icmp .ne 19, 3) := by decide +kernel
theorem dX12_command_88 : decode cX12_command 88 = .ok (.aload_n 0, 1) := by decide +kernel
theorem dX12_command_89 : decode cX12_command 89 = .ok (.getfield 57, 3) := by decide +kernel
theorem dX12_command_92 : decode cX12_command 92 = .ok (.iload_n 2, 1) := by decide +kernel
theorem dX12_command_93 : decode cX12_command 93 = .ok (.aload_n 0, 1) := by decide +kernel
theorem dX12_command_94 : decode cX12_command 94 = .ok (.iconst 1, 1) := by decide +kernel
theorem dX12_command_95 : decode cX12_command 95 = .ok (.bipush 20, 2) := by decide +kernel
theorem dX12_command_97 : decode cX12_command 97 = .ok (.invokevirtual 182, 3) := by decide +kernel
theorem dX12_command_100 : decode cX12_command 100 = .ok (.iastore, 1) := by decide +kernel
theorem dX12_command_101 : decode cX12_command 101 = .ok (.goto 22, 3) := by decide +kernel
theorem dX12_command_104 : decode cX12_command 104 = .ok (.iload_n 1, 1) := by decide +kernel
theorem dX12_command_105 : decode cX12_command 105 = .ok (.iconst 1, 1) := by decide +kernel
theorem dX12_command_106 : decode cX12_command 106 = .ok (.if_icmp .eq 17, 3) := by decide +kernel
theorem dX12_command_109 : decode cX12_command 109 = .ok (.aload_n 0, 1) := by decide +kernel
theorem dX12_command_110 : decode cX12_command 110 = .ok (.getfield 57, 3) := by decide +kernel
theorem dX12_command_113 : decode cX12_command 113 = .ok (.iload_n 2, 1) := by decide +kernel
theorem dX12_command_114 : decode cX12_command 114 = .ok (.aload_n 0, 1) := by decide +kernel
theorem dX12_command_115 : decode cX12_command 115 = .ok (.iconst 0, 1) := by decide +kernel
theorem dX12_command_116 : decode cX12_command 116 = .ok (.sipush 999, 3) := by decide +kernel
theorem dX12_command_119 : decode cX12_command 119 = .ok (.invokevirtual 182, 3) := by decide +kernel
theorem dX12_command_122 : decode cX12_command 122 = .ok (.iastore, 1) := by decide +kernel
theorem dX12_command_123 : decode cX12_command 123 = .ok (.iload_n 1, 1) := by decide +kernel
theorem dX12_command_124 : decode cX12_command 124 = .ok (.bipush 6, 2) := by decide +kernel
theorem dX12_command_126 : decode cX12_command 126 = .ok (.if_icmp .ne 9, 3) := by decide +kernel
theorem dX12_command_129 : decode cX12_command 129 = .ok (.aload_n 0, 1) := by decide +kernel
theorem dX12_command_130 : decode cX12_command 130 = .ok (.bipush 40, 2) := by decide +kernel
theorem dX12_command_132 : decode cX12_command 132 = .ok (.invokevirtual 241, 3) := by decide +kernel
theorem dX12_command_135 : decode cX12_command 135 = .ok (.aload_n 0, 1) := by decide +kernel
theorem dX12_command_136 : decode cX12_command 136 = .ok (.invokevirtual 127, 3) := by decide +kernel
theorem dX12_command_139 : decode cX12_command 139 = .ok (.ifCond .ne 4, 3) := by decide +kernel
theorem dX12_command_142 : decode cX12_command 142 = .ok (.return_, 1) := by decide +kernel
theorem dX12_command_143 : decode cX12_command 143 = .ok (.aload_n 0, 1) := by decide +kernel
theorem dX12_command_144 : decode cX12_command 144 = .ok (.dup, 1) := by decide +kernel
theorem dX12_command_145 : decode cX12_command 145 = .ok (.getfield 509, 3) := by decide +kernel
theorem dX12_command_148 : decode cX12_command 148 = .ok (.iconst 1, 1) := by decide +kernel
theorem dX12_command_149 : decode cX12_command 149 = .ok (.iadd, 1) := by decide +kernel
theorem dX12_command_150 : decode cX12_command 150 = .ok (.putfield 509, 3) := by decide +kernel
theorem dX12_command_153 : decode cX12_command 153 = .ok (.aload_n 0, 1) := by decide +kernel
theorem dX12_command_154 : decode cX12_command 154 = .ok (.dup, 1) := by decide +kernel
theorem dX12_command_155 : decode cX12_command 155 = .ok (.getfield 503, 3) := by decide +kernel
theorem dX12_command_158 : decode cX12_command 158 = .ok (.iload_n 1, 1) := by decide +kernel
theorem dX12_command_159 : decode cX12_command 159 = .ok (.bipush 6, 2) := by decide +kernel
theorem dX12_command_161 : decode cX12_command 161 = .ok (.if_icmp .ne 7, 3) := by decide +kernel
theorem dX12_command_164 : decode cX12_command 164 = .ok (.iconst 1, 1) := by decide +kernel
theorem dX12_command_165 : decode cX12_command 165 = .ok (.goto 4, 3) := by decide +kernel
theorem dX12_command_168 : decode cX12_command 168 = .ok (.iconst 0, 1) := by decide +kernel
theorem dX12_command_169 : decode cX12_command 169 = .ok (.invokestatic 75, 3) := by decide +kernel
theorem dX12_command_172 : decode cX12_command 172 = .ok (.iadd, 1) := by decide +kernel
theorem dX12_command_173 : decode cX12_command 173 = .ok (.putfield 503, 3) := by decide +kernel
theorem dX12_command_176 : decode cX12_command 176 = .ok (.return_, 1) := by decide +kernel
theorem dX12_closes_0 : decode cX12_closes 0 = .ok (.aload_n 0, 1) := by decide +kernel
theorem dX12_closes_1 : decode cX12_closes 1 = .ok (.getfield 503, 3) := by decide +kernel
theorem dX12_closes_4 : decode cX12_closes 4 = .ok (.ifCond .le 56, 3) := by decide +kernel
theorem dX12_closes_7 : decode cX12_closes 7 = .ok (.aload_n 0, 1) := by decide +kernel
theorem dX12_closes_8 : decode cX12_closes 8 = .ok (.bipush 41, 2) := by decide +kernel
theorem dX12_closes_10 : decode cX12_closes 10 = .ok (.invokevirtual 131, 3) := by decide +kernel
theorem dX12_closes_13 : decode cX12_closes 13 = .ok (.ifCond .eq 47, 3) := by decide +kernel
theorem dX12_closes_16 : decode cX12_closes 16 = .ok (.aload_n 0, 1) := by decide +kernel
theorem dX12_closes_17 : decode cX12_closes 17 = .ok (.dup, 1) := by decide +kernel
theorem dX12_closes_18 : decode cX12_closes 18 = .ok (.getfield 503, 3) := by decide +kernel
theorem dX12_closes_21 : decode cX12_closes 21 = .ok (.iconst 1, 1) := by decide +kernel
theorem dX12_closes_22 : decode cX12_closes 22 = .ok (.isub, 1) := by decide +kernel
theorem dX12_closes_23 : decode cX12_closes 23 = .ok (.putfield 503, 3) := by decide +kernel
theorem dX12_closes_26 : decode cX12_closes 26 = .ok (.aload_n 0, 1) := by decide +kernel
theorem dX12_closes_27 : decode cX12_closes 27 = .ok (.getfield 54, 3) := by decide +kernel
theorem dX12_closes_30 : decode cX12_closes 30 = .ok (.aload_n 0, 1) := by decide +kernel
theorem dX12_closes_31 : decode cX12_closes 31 = .ok (.getfield 509, 3) := by decide +kernel
theorem dX12_closes_34 : decode cX12_closes 34 = .ok (.bipush 7, 2) := by decide +kernel
theorem dX12_closes_36 : decode cX12_closes 36 = .ok (.iastore, 1) := by decide +kernel
theorem dX12_closes_37 : decode cX12_closes 37 = .ok (.aload_n 0, 1) := by decide +kernel
theorem dX12_closes_38 : decode cX12_closes 38 = .ok (.dup, 1) := by decide +kernel
theorem dX12_closes_39 : decode cX12_closes 39 = .ok (.getfield 509, 3) := by decide +kernel
theorem dX12_closes_42 : decode cX12_closes 42 = .ok (.iconst 1, 1) := by decide +kernel
theorem dX12_closes_43 : decode cX12_closes 43 = .ok (.iadd, 1) := by decide +kernel
theorem dX12_closes_44 : decode cX12_closes 44 = .ok (.putfield 509, 3) := by decide +kernel
theorem dX12_closes_47 : decode cX12_closes 47 = .ok (.aload_n 0, 1) := by decide +kernel
theorem dX12_closes_48 : decode cX12_closes 48 = .ok (.invokevirtual 137, 3) := by decide +kernel
theorem dX12_closes_51 : decode cX12_closes 51 = .ok (.aload_n 0, 1) := by decide +kernel
theorem dX12_closes_52 : decode cX12_closes 52 = .ok (.bipush 59, 2) := by decide +kernel
theorem dX12_closes_54 : decode cX12_closes 54 = .ok (.invokevirtual 241, 3) := by decide +kernel
theorem dX12_closes_57 : decode cX12_closes 57 = .ok (.goto (-57), 3) := by decide +kernel
theorem dX12_closes_60 : decode cX12_closes 60 = .ok (.return_, 1) := by decide +kernel
theorem dX12_may_0 : decode cX12_may 0 = .ok (.aload_n 0, 1) := by decide +kernel
theorem dX12_may_1 : decode cX12_may 1 = .ok (.getfield 57, 3) := by decide +kernel
theorem dX12_may_4 : decode cX12_may 4 = .ok (.iload_n 1, 1) := by decide +kernel
theorem dX12_may_5 : decode cX12_may 5 = .ok (.iaload, 1) := by decide +kernel
theorem dX12_may_6 : decode cX12_may 6 = .ok (.istore_n 2, 1) := by decide +kernel
theorem dX12_may_7 : decode cX12_may 7 = .ok (.aload_n 0, 1) := by decide +kernel
theorem dX12_may_8 : decode cX12_may 8 = .ok (.getfield 54, 3) := by decide +kernel
theorem dX12_may_11 : decode cX12_may 11 = .ok (.iload_n 1, 1) := by decide +kernel
theorem dX12_may_12 : decode cX12_may 12 = .ok (.iaload, 1) := by decide +kernel
theorem dX12_may_13 : decode cX12_may 13 = .ok (.tableswitch 118 0 4 #[35, 64, 69, 91, 113], 35) := by decide +kernel
theorem dX12_may_48 : decode cX12_may 48 = .ok (.aload_n 0, 1) := by decide +kernel
theorem dX12_may_49 : decode cX12_may 49 = .ok (.iload_n 2, 1) := by decide +kernel
theorem dX12_may_50 : decode cX12_may 50 = .ok (.invokevirtual 367, 3) := by decide +kernel
theorem dX12_may_53 : decode cX12_may 53 = .ok (.ifCond .eq 22, 3) := by decide +kernel
theorem dX12_may_56 : decode cX12_may 56 = .ok (.aload_n 0, 1) := by decide +kernel
theorem dX12_may_57 : decode cX12_may 57 = .ok (.iload_n 2, 1) := by decide +kernel
theorem dX12_may_58 : decode cX12_may 58 = .ok (.invokevirtual 443, 3) := by decide +kernel
theorem dX12_may_61 : decode cX12_may 61 = .ok (.ifCond .eq 14, 3) := by decide +kernel
theorem dX12_may_64 : decode cX12_may 64 = .ok (.aload_n 0, 1) := by decide +kernel
theorem dX12_may_65 : decode cX12_may 65 = .ok (.invokevirtual 446, 3) := by decide +kernel
theorem dX12_may_68 : decode cX12_may 68 = .ok (.ifCond .eq 7, 3) := by decide +kernel
theorem dX12_may_71 : decode cX12_may 71 = .ok (.iconst 1, 1) := by decide +kernel
theorem dX12_may_72 : decode cX12_may 72 = .ok (.goto 4, 3) := by decide +kernel
theorem dX12_may_75 : decode cX12_may 75 = .ok (.iconst 0, 1) := by decide +kernel
theorem dX12_may_76 : decode cX12_may 76 = .ok (.ireturn, 1) := by decide +kernel
theorem dX12_may_77 : decode cX12_may 77 = .ok (.aload_n 0, 1) := by decide +kernel
theorem dX12_may_78 : decode cX12_may 78 = .ok (.invokevirtual 452, 3) := by decide +kernel
theorem dX12_may_81 : decode cX12_may 81 = .ok (.ireturn, 1) := by decide +kernel
theorem dX12_may_82 : decode cX12_may 82 = .ok (.aload_n 0, 1) := by decide +kernel
theorem dX12_may_83 : decode cX12_may 83 = .ok (.iload_n 2, 1) := by decide +kernel
theorem dX12_may_84 : decode cX12_may 84 = .ok (.invokevirtual 378, 3) := by decide +kernel
theorem dX12_may_87 : decode cX12_may 87 = .ok (.ifCond .eq 15, 3) := by decide +kernel
theorem dX12_may_90 : decode cX12_may 90 = .ok (.aload_n 0, 1) := by decide +kernel
theorem dX12_may_91 : decode cX12_may 91 = .ok (.iload_n 2, 1) := by decide +kernel
theorem dX12_may_92 : decode cX12_may 92 = .ok (.invokevirtual 464, 3) := by decide +kernel
theorem dX12_may_95 : decode cX12_may 95 = .ok (.ifCond .eq 7, 3) := by decide +kernel
theorem dX12_may_98 : decode cX12_may 98 = .ok (.iconst 1, 1) := by decide +kernel
theorem dX12_may_99 : decode cX12_may 99 = .ok (.goto 4, 3) := by decide +kernel
theorem dX12_may_102 : decode cX12_may 102 = .ok (.iconst 0, 1) := by decide +kernel
theorem dX12_may_103 : decode cX12_may 103 = .ok (.ireturn, 1) := by decide +kernel
theorem dX12_may_104 : decode cX12_may 104 = .ok (.aload_n 0, 1) := by decide +kernel
theorem dX12_may_105 : decode cX12_may 105 = .ok (.iload_n 2, 1) := by decide +kernel
theorem dX12_may_106 : decode cX12_may 106 = .ok (.invokevirtual 367, 3) := by decide +kernel
theorem dX12_may_109 : decode cX12_may 109 = .ok (.ifCond .eq 15, 3) := by decide +kernel
theorem dX12_may_112 : decode cX12_may 112 = .ok (.aload_n 0, 1) := by decide +kernel
theorem dX12_may_113 : decode cX12_may 113 = .ok (.iload_n 2, 1) := by decide +kernel
theorem dX12_may_114 : decode cX12_may 114 = .ok (.invokevirtual 470, 3) := by decide +kernel
theorem dX12_may_117 : decode cX12_may 117 = .ok (.ifCond .eq 7, 3) := by decide +kernel
theorem dX12_may_120 : decode cX12_may 120 = .ok (.iconst 1, 1) := by decide +kernel
theorem dX12_may_121 : decode cX12_may 121 = .ok (.goto 4, 3) := by decide +kernel
theorem dX12_may_124 : decode cX12_may 124 = .ok (.iconst 0, 1) := by decide +kernel
theorem dX12_may_125 : decode cX12_may 125 = .ok (.ireturn, 1) := by decide +kernel
theorem dX12_may_126 : decode cX12_may 126 = .ok (.iload_n 2, 1) := by decide +kernel
theorem dX12_may_127 : decode cX12_may 127 = .ok (.invokestatic 476, 3) := by decide +kernel
theorem dX12_may_130 : decode cX12_may 130 = .ok (.ireturn, 1) := by decide +kernel
theorem dX12_may_131 : decode cX12_may 131 = .ok (.iload_n 2, 1) := by decide +kernel
theorem dX12_may_132 : decode cX12_may 132 = .ok (.invokestatic 482, 3) := by decide +kernel
theorem dX12_may_135 : decode cX12_may 135 = .ok (.ireturn, 1) := by decide +kernel
theorem dX12_does_0 : decode cX12_does 0 = .ok (.aload_n 0, 1) := by decide +kernel
theorem dX12_does_1 : decode cX12_does 1 = .ok (.getfield 57, 3) := by decide +kernel
theorem dX12_does_4 : decode cX12_does 4 = .ok (.iload_n 1, 1) := by decide +kernel
theorem dX12_does_5 : decode cX12_does 5 = .ok (.iaload, 1) := by decide +kernel
theorem dX12_does_6 : decode cX12_does 6 = .ok (.istore_n 2, 1) := by decide +kernel
theorem dX12_does_7 : decode cX12_does 7 = .ok (.aload_n 0, 1) := by decide +kernel
theorem dX12_does_8 : decode cX12_does 8 = .ok (.getfield 54, 3) := by decide +kernel
theorem dX12_does_11 : decode cX12_does 11 = .ok (.iload_n 1, 1) := by decide +kernel
theorem dX12_does_12 : decode cX12_does 12 = .ok (.iaload, 1) := by decide +kernel
theorem dX12_does_13 : decode cX12_does 13 = .ok (.tableswitch 66 0 4 #[35, 41, 48, 54, 60], 35) := by decide +kernel
theorem dX12_does_48 : decode cX12_does 48 = .ok (.aload_n 0, 1) := by decide +kernel
theorem dX12_does_49 : decode cX12_does 49 = .ok (.iload_n 2, 1) := by decide +kernel
theorem dX12_does_50 : decode cX12_does 50 = .ok (.invokevirtual 344, 3) := by decide +kernel
theorem dX12_does_53 : decode cX12_does 53 = .ok (.ireturn, 1) := by decide +kernel
theorem dX12_does_54 : decode cX12_does 54 = .ok (.aload_n 0, 1) := by decide +kernel
theorem dX12_does_55 : decode cX12_does 55 = .ok (.bipush 40, 2) := by decide +kernel
theorem dX12_does_57 : decode cX12_does 57 = .ok (.invokevirtual 404, 3) := by decide +kernel
theorem dX12_does_60 : decode cX12_does 60 = .ok (.ireturn, 1) := by decide +kernel
theorem dX12_does_61 : decode cX12_does 61 = .ok (.aload_n 0, 1) := by decide +kernel
theorem dX12_does_62 : decode cX12_does 62 = .ok (.iload_n 2, 1) := by decide +kernel
theorem dX12_does_63 : decode cX12_does 63 = .ok (.invokevirtual 467, 3) := by decide +kernel
theorem dX12_does_66 : decode cX12_does 66 = .ok (.ireturn, 1) := by decide +kernel
theorem dX12_does_67 : decode cX12_does 67 = .ok (.aload_n 0, 1) := by decide +kernel
theorem dX12_does_68 : decode cX12_does 68 = .ok (.iload_n 2, 1) := by decide +kernel
theorem dX12_does_69 : decode cX12_does 69 = .ok (.invokevirtual 473, 3) := by decide +kernel
theorem dX12_does_72 : decode cX12_does 72 = .ok (.ireturn, 1) := by decide +kernel
theorem dX12_does_73 : decode cX12_does 73 = .ok (.aload_n 0, 1) := by decide +kernel
theorem dX12_does_74 : decode cX12_does 74 = .ok (.iload_n 2, 1) := by decide +kernel
theorem dX12_does_75 : decode cX12_does 75 = .ok (.invokevirtual 479, 3) := by decide +kernel
theorem dX12_does_78 : decode cX12_does 78 = .ok (.ireturn, 1) := by decide +kernel
theorem dX12_does_79 : decode cX12_does 79 = .ok (.aload_n 0, 1) := by decide +kernel
theorem dX12_does_80 : decode cX12_does 80 = .ok (.iconst 4, 1) := by decide +kernel
theorem dX12_does_81 : decode cX12_does 81 = .ok (.iload_n 2, 1) := by decide +kernel
theorem dX12_does_82 : decode cX12_does 82 = .ok (.invokevirtual 485, 3) := by decide +kernel
theorem dX12_does_85 : decode cX12_does 85 = .ok (.ireturn, 1) := by decide +kernel
theorem dX12_runScript_0 : decode cX12_runScript 0 = .ok (.aload_n 0, 1) := by decide +kernel
theorem dX12_runScript_1 : decode cX12_runScript 1 = .ok (.invokevirtual 244, 3) := by decide +kernel
theorem dX12_runScript_4 : decode cX12_runScript 4 = .ok (.aload_n 0, 1) := by decide +kernel
theorem dX12_runScript_5 : decode cX12_runScript 5 = .ok (.iconst 0, 1) := by decide +kernel
theorem dX12_runScript_6 : decode cX12_runScript 6 = .ok (.putfield 509, 3) := by decide +kernel
theorem dX12_runScript_9 : decode cX12_runScript 9 = .ok (.aload_n 0, 1) := by decide +kernel
theorem dX12_runScript_10 : decode cX12_runScript 10 = .ok (.iconst 0, 1) := by decide +kernel
theorem dX12_runScript_11 : decode cX12_runScript 11 = .ok (.putfield 506, 3) := by decide +kernel
theorem dX12_runScript_14 : decode cX12_runScript 14 = .ok (.aload_n 0, 1) := by decide +kernel
theorem dX12_runScript_15 : decode cX12_runScript 15 = .ok (.iconst 0, 1) := by decide +kernel
theorem dX12_runScript_16 : decode cX12_runScript 16 = .ok (.putfield 503, 3) := by decide +kernel
theorem dX12_runScript_19 : decode cX12_runScript 19 = .ok (.aload_n 0, 1) := by decide +kernel
theorem dX12_runScript_20 : decode cX12_runScript 20 = .ok (.invokevirtual 127, 3) := by decide +kernel
theorem dX12_runScript_23 : decode cX12_runScript 23 = .ok (.ifCond .eq 40, 3) := by decide +kernel
theorem dX12_runScript_26 : decode cX12_runScript 26 = .ok (.aload_n 0, 1) := by decide +kernel
theorem dX12_runScript_27 : decode cX12_runScript 27 = .ok (.getfield 114, 3) := by decide +kernel
theorem dX12_runScript_30 : decode cX12_runScript 30 = .ok (.ifCond .eq 33, 3) := by decide +kernel
theorem dX12_runScript_33 : decode cX12_runScript 33 = .ok (.aload_n 0, 1) := by decide +kernel
theorem dX12_runScript_34 : decode cX12_runScript 34 = .ok (.getfield 503, 3) := by decide +kernel
theorem dX12_runScript_37 : decode cX12_runScript 37 = .ok (.istore_n 1, 1) := by decide +kernel
theorem dX12_runScript_38 : decode cX12_runScript 38 = .ok (.aload_n 0, 1) := by decide +kernel
theorem dX12_runScript_39 : decode cX12_runScript 39 = .ok (.invokevirtual 512, 3) := by decide +kernel
theorem dX12_runScript_42 : decode cX12_runScript 42 = .ok (.aload_n 0, 1) := by decide +kernel
theorem dX12_runScript_43 : decode cX12_runScript 43 = .ok (.getfield 503, 3) := by decide +kernel
theorem dX12_runScript_46 : decode cX12_runScript 46 = .ok (.iload_n 1, 1) := by decide +kernel
theorem dX12_runScript_47 : decode cX12_runScript 47 = .ok (.if_icmp .ne 9, 3) := by decide +kernel
theorem dX12_runScript_50 : decode cX12_runScript 50 = .ok (.aload_n 0, 1) := by decide +kernel
theorem dX12_runScript_51 : decode cX12_runScript 51 = .ok (.bipush 59, 2) := by decide +kernel
theorem dX12_runScript_53 : decode cX12_runScript 53 = .ok (.invokevirtual 241, 3) := by decide +kernel
theorem dX12_runScript_56 : decode cX12_runScript 56 = .ok (.aload_n 0, 1) := by decide +kernel
theorem dX12_runScript_57 : decode cX12_runScript 57 = .ok (.invokevirtual 515, 3) := by decide +kernel
theorem dX12_runScript_60 : decode cX12_runScript 60 = .ok (.goto (-41), 3) := by decide +kernel
theorem dX12_runScript_63 : decode cX12_runScript 63 = .ok (.aload_n 0, 1) := by decide +kernel
theorem dX12_runScript_64 : decode cX12_runScript 64 = .ok (.invokevirtual 127, 3) := by decide +kernel
theorem dX12_runScript_67 : decode cX12_runScript 67 = .ok (.ifCond .eq 15, 3) := by decide +kernel
theorem dX12_runScript_70 : decode cX12_runScript 70 = .ok (.aload_n 0, 1) := by decide +kernel
theorem dX12_runScript_71 : decode cX12_runScript 71 = .ok (.getfield 503, 3) := by decide +kernel
theorem dX12_runScript_74 : decode cX12_runScript 74 = .ok (.ifCond .le 8, 3) := by decide +kernel
theorem dX12_runScript_77 : decode cX12_runScript 77 = .ok (.aload_n 0, 1) := by decide +kernel
theorem dX12_runScript_78 : decode cX12_runScript 78 = .ok (.iconst 1, 1) := by decide +kernel
theorem dX12_runScript_79 : decode cX12_runScript 79 = .ok (.invokevirtual 134, 3) := by decide +kernel
theorem dX12_runScript_82 : decode cX12_runScript 82 = .ok (.aload_n 0, 1) := by decide +kernel
theorem dX12_runScript_83 : decode cX12_runScript 83 = .ok (.invokevirtual 253, 3) := by decide +kernel
theorem dX12_runScript_86 : decode cX12_runScript 86 = .ok (.ifCond .ne 5, 3) := by decide +kernel
theorem dX12_runScript_89 : decode cX12_runScript 89 = .ok (.iconst 0, 1) := by decide +kernel
theorem dX12_runScript_90 : decode cX12_runScript 90 = .ok (.ireturn, 1) := by decide +kernel
theorem dX12_runScript_91 : decode cX12_runScript 91 = .ok (.aload_n 0, 1) := by decide +kernel
theorem dX12_runScript_92 : decode cX12_runScript 92 = .ok (.invokevirtual 247, 3) := by decide +kernel
theorem dX12_runScript_95 : decode cX12_runScript 95 = .ok (.aload_n 0, 1) := by decide +kernel
theorem dX12_runScript_96 : decode cX12_runScript 96 = .ok (.invokevirtual 518, 3) := by decide +kernel
theorem dX12_runScript_99 : decode cX12_runScript 99 = .ok (.istore_n 1, 1) := by decide +kernel
theorem dX12_runScript_100 : decode cX12_runScript 100 = .ok (.aload_n 0, 1) := by decide +kernel
theorem dX12_runScript_101 : decode cX12_runScript 101 = .ok (.invokevirtual 158, 3) := by decide +kernel
theorem dX12_runScript_104 : decode cX12_runScript 104 = .ok (.iload_n 1, 1) := by decide +kernel
theorem dX12_runScript_105 : decode cX12_runScript 105 = .ok (.ireturn, 1) := by decide +kernel
theorem dX12_doesAll_0 : decode cX12_doesAll 0 = .ok (.iconst 0, 1) := by decide +kernel
theorem dX12_doesAll_1 : decode cX12_doesAll 1 = .ok (.istore_n 1, 1) := by decide +kernel
theorem dX12_doesAll_2 : decode cX12_doesAll 2 = .ok (.iconst 0, 1) := by decide +kernel
theorem dX12_doesAll_3 : decode cX12_doesAll 3 = .ok (.istore_n 2, 1) := by decide +kernel
theorem dX12_doesAll_4 : decode cX12_doesAll 4 = .ok (.iconst 0, 1) := by decide +kernel
theorem dX12_doesAll_5 : decode cX12_doesAll 5 = .ok (.istore_n 3, 1) := by decide +kernel
theorem dX12_doesAll_6 : decode cX12_doesAll 6 = .ok (.iconst 1, 1) := by decide +kernel
theorem dX12_doesAll_7 : decode cX12_doesAll 7 = .ok (.istore 4, 2) := by decide +kernel
theorem dX12_doesAll_9 : decode cX12_doesAll 9 = .ok (.iload 4, 2) := by decide +kernel
theorem dX12_doesAll_11 : decode cX12_doesAll 11 = .ok (.ifCond .eq 175, 3) := by decide +kernel
theorem dX12_doesAll_14 : decode cX12_doesAll 14 = .ok (.iload_n 3, 1) := by decide +kernel
theorem dX12_doesAll_15 : decode cX12_doesAll 15 = .ok (.aload_n 0, 1) := by decide +kernel
theorem dX12_doesAll_16 : decode cX12_doesAll 16 = .ok (.getfield 509, 3) := by decide +kernel
theorem dX12_doesAll_19 : decode cX12_doesAll 19 = .ok (.if_icmp .ge 167, 3) := by decide +kernel
theorem dX12_doesAll_22 : decode cX12_doesAll 22 = .ok (.iload_n 1, 1) := by decide +kernel
theorem dX12_doesAll_23 : decode cX12_doesAll 23 = .ok (.bipush 40, 2) := by decide +kernel
theorem dX12_doesAll_25 : decode cX12_doesAll 25 = .ok (.if_icmp .ge 161, 3) := by decide +kernel
theorem dX12_doesAll_28 : decode cX12_doesAll 28 = .ok (.aload_n 0, 1) := by decide +kernel
theorem dX12_doesAll_29 : decode cX12_doesAll 29 = .ok (.getfield 54, 3) := by decide +kernel
theorem dX12_doesAll_32 : decode cX12_doesAll 32 = .ok (.iload_n 3, 1) := by decide +kernel
theorem dX12_doesAll_33 : decode cX12_doesAll 33 = .ok (.iaload, 1) := by decide +kernel
theorem dX12_doesAll_34 : decode cX12_doesAll 34 = .ok (.bipush 6, 2) := by decide +kernel
theorem dX12_doesAll_36 : decode cX12_doesAll 36 = .ok (.if_icmp .ne 31, 3) := by decide +kernel
theorem dX12_doesAll_39 : decode cX12_doesAll 39 = .ok (.aload_n 0, 1) := by decide +kernel
theorem dX12_doesAll_40 : decode cX12_doesAll 40 = .ok (.getfield 60, 3) := by decide +kernel
theorem dX12_doesAll_43 : decode cX12_doesAll 43 = .ok (.iload_n 2, 1) := by decide +kernel
theorem dX12_doesAll_44 : decode cX12_doesAll 44 = .ok (.iload_n 3, 1) := by decide +kernel
theorem dX12_doesAll_45 : decode cX12_doesAll 45 = .ok (.iastore, 1) := by decide +kernel
theorem dX12_doesAll_46 : decode cX12_doesAll 46 = .ok (.aload_n 0, 1) := by decide +kernel
theorem dX12_doesAll_47 : decode cX12_doesAll 47 = .ok (.getfield 63, 3) := by decide +kernel
theorem dX12_doesAll_50 : decode cX12_doesAll 50 = .ok (.iload_n 2, 1) := by decide +kernel
theorem dX12_doesAll_51 : decode cX12_doesAll 51 = .ok (.aload_n 0, 1) := by decide +kernel
theorem dX12_doesAll_52 : decode cX12_doesAll 52 = .ok (.getfield 57, 3) := by decide +kernel
theorem dX12_doesAll_55 : decode cX12_doesAll 55 = .ok (.iload_n 3, 1) := by decide +kernel
theorem dX12_doesAll_56 : decode cX12_doesAll 56 = .ok (.iaload, 1) := by decide +kernel
theorem dX12_doesAll_57 : decode cX12_doesAll 57 = .ok (.iastore, 1) := by decide +kernel
theorem dX12_doesAll_58 : decode cX12_doesAll 58 = .ok (.iinc 2 1, 3) := by decide +kernel
theorem dX12_doesAll_61 : decode cX12_doesAll 61 = .ok (.iinc 3 1, 3) := by decide +kernel
theorem dX12_doesAll_64 : decode cX12_doesAll 64 = .ok (.goto (-55), 3) := by decide +kernel
theorem dX12_doesAll_67 : decode cX12_doesAll 67 = .ok (.aload_n 0, 1) := by decide +kernel
theorem dX12_doesAll_68 : decode cX12_doesAll 68 = .ok (.getfield 54, 3) := by decide +kernel
theorem dX12_doesAll_71 : decode cX12_doesAll 71 = .ok (.iload_n 3, 1) := by decide +kernel
theorem dX12_doesAll_72 : decode cX12_doesAll 72 = .ok (.iaload, 1) := by decide +kernel
theorem dX12_doesAll_73 : decode cX12_doesAll 73 = .ok (.bipush 7, 2) := by decide +kernel
theorem dX12_doesAll_75 : decode cX12_doesAll 75 = .ok (.if_icmp .ne 74, 3) := by decide +kernel
theorem dX12_doesAll_78 : decode cX12_doesAll 78 = .ok (.aload_n 0, 1) := by decide +kernel
theorem dX12_doesAll_79 : decode cX12_doesAll 79 = .ok (.getfield 63, 3) := by decide +kernel
theorem dX12_doesAll_82 : decode cX12_doesAll 82 = .ok (.iload_n 2, 1) := by decide +kernel
theorem dX12_doesAll_83 : decode cX12_doesAll 83 = .ok (.iconst 1, 1) := by decide +kernel
theorem dX12_doesAll_84 : decode cX12_doesAll 84 = .ok (.isub, 1) := by decide +kernel
theorem dX12_doesAll_85 : decode cX12_doesAll 85 = .ok (.dup2, 1) := by decide +kernel
theorem dX12_doesAll_86 : decode cX12_doesAll 86 = .ok (.iaload, 1) := by decide +kernel
theorem dX12_doesAll_87 : decode cX12_doesAll 87 = .ok (.iconst 1, 1) := by decide +kernel
theorem dX12_doesAll_88 : decode cX12_doesAll 88 = .ok (.isub, 1) := by decide +kernel
theorem dX12_doesAll_89 : decode cX12_doesAll 89 = .ok (.iastore, 1) := by decide +kernel
theorem dX12_doesAll_90 : decode cX12_doesAll 90 = .ok (.aload_n 0, 1) := by decide +kernel
theorem dX12_doesAll_91 : decode cX12_doesAll 91 = .ok (.getfield 63, 3) := by decide +kernel
theorem dX12_doesAll_94 : decode cX12_doesAll 94 = .ok (.iload_n 2, 1) := by decide +kernel
theorem dX12_doesAll_95 : decode cX12_doesAll 95 = .ok (.iconst 1, 1) := by decide +kernel
theorem dX12_doesAll_96 : decode cX12_doesAll 96 = .ok (.isub, 1) := by decide +kernel
theorem dX12_doesAll_97 : decode cX12_doesAll 97 = .ok (.iaload, 1) := by decide +kernel
theorem dX12_doesAll_98 : decode cX12_doesAll 98 = .ok (.ifCond .le 7, 3) := by decide +kernel
theorem dX12_doesAll_101 : decode cX12_doesAll 101 = .ok (.iconst 1, 1) := by decide +kernel
theorem dX12_doesAll_102 : decode cX12_doesAll 102 = .ok (.goto 4, 3) := by decide +kernel
theorem dX12_doesAll_105 : decode cX12_doesAll 105 = .ok (.iconst 0, 1) := by decide +kernel
theorem dX12_doesAll_106 : decode cX12_doesAll 106 = .ok (.istore 5, 2) := by decide +kernel
theorem dX12_doesAll_108 : decode cX12_doesAll 108 = .ok (.iload 5, 2) := by decide +kernel
theorem dX12_doesAll_110 : decode cX12_doesAll 110 = .ok (.ifCond .eq 16, 3) := by decide +kernel
theorem dX12_doesAll_113 : decode cX12_doesAll 113 = .ok (.aload_n 0, 1) := by decide +kernel
theorem dX12_doesAll_114 : decode cX12_doesAll 114 = .ok (.getfield 60, 3) := by decide +kernel
theorem dX12_doesAll_117 : decode cX12_doesAll 117 = .ok (.iload_n 2, 1) := by decide +kernel
theorem dX12_doesAll_118 : decode cX12_doesAll 118 = .ok (.iconst 1, 1) := by decide +kernel
theorem dX12_doesAll_119 : decode cX12_doesAll 119 = .ok (.isub, 1) := by decide +kernel
theorem dX12_doesAll_120 : decode cX12_doesAll 120 = .ok (.iaload, 1) := by decide +kernel
theorem dX12_doesAll_121 : decode cX12_doesAll 121 = .ok (.iconst 1, 1) := by decide +kernel
theorem dX12_doesAll_122 : decode cX12_doesAll 122 = .ok (.iadd, 1) := by decide +kernel
theorem dX12_doesAll_123 : decode cX12_doesAll 123 = .ok (.goto 6, 3) := by decide +kernel
theorem dX12_doesAll_126 : decode cX12_doesAll 126 = .ok (.iload_n 3, 1) := by decide +kernel
theorem dX12_doesAll_127 : decode cX12_doesAll 127 = .ok (.iconst 1, 1) := by decide +kernel
theorem dX12_doesAll_128 : decode cX12_doesAll 128 = .ok (.iadd, 1) := by decide +kernel
theorem dX12_doesAll_129 : decode cX12_doesAll 129 = .ok (.istore_n 3, 1) := by decide +kernel
theorem dX12_doesAll_130 : decode cX12_doesAll 130 = .ok (.iload_n 2, 1) := by decide +kernel
theorem dX12_doesAll_131 : decode cX12_doesAll 131 = .ok (.iload 5, 2) := by decide +kernel
theorem dX12_doesAll_133 : decode cX12_doesAll 133 = .ok (.ifCond .ne 7, 3) := by decide +kernel
theorem dX12_doesAll_136 : decode cX12_doesAll 136 = .ok (.iconst 1, 1) := by decide +kernel
theorem dX12_doesAll_137 : decode cX12_doesAll 137 = .ok (.goto 4, 3) := by decide +kernel
theorem dX12_doesAll_140 : decode cX12_doesAll 140 = .ok (.iconst 0, 1) := by decide +kernel
theorem dX12_doesAll_141 : decode cX12_doesAll 141 = .ok (.invokestatic 75, 3) := by decide +kernel
theorem dX12_doesAll_144 : decode cX12_doesAll 144 = .ok (.isub, 1) := by decide +kernel
theorem dX12_doesAll_145 : decode cX12_doesAll 145 = .ok (.istore_n 2, 1) := by decide +kernel
theorem dX12_doesAll_146 : decode cX12_doesAll 146 = .ok (.goto (-137), 3) := by decide +kernel
theorem dX12_doesAll_149 : decode cX12_doesAll 149 = .ok (.aload_n 0, 1) := by decide +kernel
theorem dX12_doesAll_150 : decode cX12_doesAll 150 = .ok (.iload_n 3, 1) := by decide +kernel
theorem dX12_doesAll_151 : decode cX12_doesAll 151 = .ok (.invokevirtual 521, 3) := by decide +kernel
theorem dX12_doesAll_154 : decode cX12_doesAll 154 = .ok (.istore 4, 2) := by decide +kernel
theorem dX12_doesAll_156 : decode cX12_doesAll 156 = .ok (.iload 4, 2) := by decide +kernel
theorem dX12_doesAll_158 : decode cX12_doesAll 158 = .ok (.ifCond .eq 11, 3) := by decide +kernel
theorem dX12_doesAll_161 : decode cX12_doesAll 161 = .ok (.aload_n 0, 1) := by decide +kernel
theorem dX12_doesAll_162 : decode cX12_doesAll 162 = .ok (.iload_n 3, 1) := by decide +kernel
theorem dX12_doesAll_163 : decode cX12_doesAll 163 = .ok (.invokevirtual 524, 3) := by decide +kernel
theorem dX12_doesAll_166 : decode cX12_doesAll 166 = .ok (.goto 4, 3) := by decide +kernel
theorem dX12_doesAll_169 : decode cX12_doesAll 169 = .ok (.iconst 0, 1) := by decide +kernel
theorem dX12_doesAll_170 : decode cX12_doesAll 170 = .ok (.istore 5, 2) := by decide +kernel
theorem dX12_doesAll_172 : decode cX12_doesAll 172 = .ok (.iload_n 1, 1) := by decide +kernel
theorem dX12_doesAll_173 : decode cX12_doesAll 173 = .ok (.iload 4, 2) := by decide +kernel
theorem dX12_doesAll_175 : decode cX12_doesAll 175 = .ok (.invokestatic 75, 3) := by decide +kernel
theorem dX12_doesAll_178 : decode cX12_doesAll 178 = .ok (.iadd, 1) := by decide +kernel
theorem dX12_doesAll_179 : decode cX12_doesAll 179 = .ok (.istore_n 1, 1) := by decide +kernel
theorem dX12_doesAll_180 : decode cX12_doesAll 180 = .ok (.iinc 3 1, 3) := by decide +kernel
theorem dX12_doesAll_183 : decode cX12_doesAll 183 = .ok (.goto (-174), 3) := by decide +kernel
theorem dX12_doesAll_186 : decode cX12_doesAll 186 = .ok (.iload_n 1, 1) := by decide +kernel
theorem dX12_doesAll_187 : decode cX12_doesAll 187 = .ok (.ireturn, 1) := by decide +kernel
theorem dX12_tell_0 : decode cX12_tell 0 = .ok (.aload_n 0, 1) := by decide +kernel
theorem dX12_tell_1 : decode cX12_tell 1 = .ok (.getfield 66, 3) := by decide +kernel
theorem dX12_tell_4 : decode cX12_tell 4 = .ok (.aload_n 0, 1) := by decide +kernel
theorem dX12_tell_5 : decode cX12_tell 5 = .ok (.getfield 527, 3) := by decide +kernel
theorem dX12_tell_8 : decode cX12_tell 8 = .ok (.iload_n 1, 1) := by decide +kernel
theorem dX12_tell_9 : decode cX12_tell 9 = .ok (.iastore, 1) := by decide +kernel
theorem dX12_tell_10 : decode cX12_tell 10 = .ok (.aload_n 0, 1) := by decide +kernel
theorem dX12_tell_11 : decode cX12_tell 11 = .ok (.dup, 1) := by decide +kernel
theorem dX12_tell_12 : decode cX12_tell 12 = .ok (.getfield 527, 3) := by decide +kernel
theorem dX12_tell_15 : decode cX12_tell 15 = .ok (.iconst 1, 1) := by decide +kernel
theorem dX12_tell_16 : decode cX12_tell 16 = .ok (.iadd, 1) := by decide +kernel
theorem dX12_tell_17 : decode cX12_tell 17 = .ok (.putfield 527, 3) := by decide +kernel
theorem dX12_tell_20 : decode cX12_tell 20 = .ok (.return_, 1) := by decide +kernel
theorem dX12_tellFlourish_0 : decode cX12_tellFlourish 0 = .ok (.aload_n 0, 1) := by decide +kernel
theorem dX12_tellFlourish_1 : decode cX12_tellFlourish 1 = .ok (.bipush 40, 2) := by decide +kernel
theorem dX12_tellFlourish_3 : decode cX12_tellFlourish 3 = .ok (.invokevirtual 530, 3) := by decide +kernel
theorem dX12_tellFlourish_6 : decode cX12_tellFlourish 6 = .ok (.iconst 0, 1) := by decide +kernel
theorem dX12_tellFlourish_7 : decode cX12_tellFlourish 7 = .ok (.istore_n 2, 1) := by decide +kernel
theorem dX12_tellFlourish_8 : decode cX12_tellFlourish 8 = .ok (.iload_n 2, 1) := by decide +kernel
theorem dX12_tellFlourish_9 : decode cX12_tellFlourish 9 = .ok (.aload_n 0, 1) := by decide +kernel
theorem dX12_tellFlourish_10 : decode cX12_tellFlourish 10 = .ok (.getfield 35, 3) := by decide +kernel
theorem dX12_tellFlourish_13 : decode cX12_tellFlourish 13 = .ok (.iload_n 1, 1) := by decide +kernel
theorem dX12_tellFlourish_14 : decode cX12_tellFlourish 14 = .ok (.laload, 1) := by decide +kernel
theorem dX12_tellFlourish_15 : decode cX12_tellFlourish 15 = .ok (.invokestatic 169, 3) := by decide +kernel
theorem dX12_tellFlourish_18 : decode cX12_tellFlourish 18 = .ok (.if_icmp .ge 23, 3) := by decide +kernel
theorem dX12_tellFlourish_21 : decode cX12_tellFlourish 21 = .ok (.aload_n 0, 1) := by decide +kernel
theorem dX12_tellFlourish_22 : decode cX12_tellFlourish 22 = .ok (.aload_n 0, 1) := by decide +kernel
theorem dX12_tellFlourish_23 : decode cX12_tellFlourish 23 = .ok (.getfield 35, 3) := by decide +kernel
theorem dX12_tellFlourish_26 : decode cX12_tellFlourish 26 = .ok (.iload_n 1, 1) := by decide +kernel
theorem dX12_tellFlourish_27 : decode cX12_tellFlourish 27 = .ok (.laload, 1) := by decide +kernel
theorem dX12_tellFlourish_28 : decode cX12_tellFlourish 28 = .ok (.iload_n 2, 1) := by decide +kernel
theorem dX12_tellFlourish_29 : decode cX12_tellFlourish 29 = .ok (.invokestatic 193, 3) := by decide +kernel
theorem dX12_tellFlourish_32 : decode cX12_tellFlourish 32 = .ok (.invokevirtual 530, 3) := by decide +kernel
theorem dX12_tellFlourish_35 : decode cX12_tellFlourish 35 = .ok (.iinc 2 1, 3) := by decide +kernel
theorem dX12_tellFlourish_38 : decode cX12_tellFlourish 38 = .ok (.goto (-30), 3) := by decide +kernel
theorem dX12_tellFlourish_41 : decode cX12_tellFlourish 41 = .ok (.aload_n 0, 1) := by decide +kernel
theorem dX12_tellFlourish_42 : decode cX12_tellFlourish 42 = .ok (.bipush 41, 2) := by decide +kernel
theorem dX12_tellFlourish_44 : decode cX12_tellFlourish 44 = .ok (.invokevirtual 530, 3) := by decide +kernel
theorem dX12_tellFlourish_47 : decode cX12_tellFlourish 47 = .ok (.return_, 1) := by decide +kernel
theorem dX12_tellLetter_0 : decode cX12_tellLetter 0 = .ok (.aload_n 0, 1) := by decide +kernel
theorem dX12_tellLetter_1 : decode cX12_tellLetter 1 = .ok (.aload_n 0, 1) := by decide +kernel
theorem dX12_tellLetter_2 : decode cX12_tellLetter 2 = .ok (.iload_n 1, 1) := by decide +kernel
theorem dX12_tellLetter_3 : decode cX12_tellLetter 3 = .ok (.iconst 0, 1) := by decide +kernel
theorem dX12_tellLetter_4 : decode cX12_tellLetter 4 = .ok (.invokevirtual 280, 3) := by decide +kernel
theorem dX12_tellLetter_7 : decode cX12_tellLetter 7 = .ok (.aload_n 0, 1) := by decide +kernel
theorem dX12_tellLetter_8 : decode cX12_tellLetter 8 = .ok (.iload_n 1, 1) := by decide +kernel
theorem dX12_tellLetter_9 : decode cX12_tellLetter 9 = .ok (.invokevirtual 443, 3) := by decide +kernel
theorem dX12_tellLetter_12 : decode cX12_tellLetter 12 = .ok (.ifCond .eq 8, 3) := by decide +kernel
theorem dX12_tellLetter_15 : decode cX12_tellLetter 15 = .ok (.bipush 97, 2) := by decide +kernel
theorem dX12_tellLetter_17 : decode cX12_tellLetter 17 = .ok (.goto 5, 3) := by decide +kernel
theorem dX12_tellLetter_20 : decode cX12_tellLetter 20 = .ok (.bipush 65, 2) := by decide +kernel
theorem dX12_tellLetter_22 : decode cX12_tellLetter 22 = .ok (.iadd, 1) := by decide +kernel
theorem dX12_tellLetter_23 : decode cX12_tellLetter 23 = .ok (.invokevirtual 530, 3) := by decide +kernel
theorem dX12_tellLetter_26 : decode cX12_tellLetter 26 = .ok (.aload_n 0, 1) := by decide +kernel
theorem dX12_tellLetter_27 : decode cX12_tellLetter 27 = .ok (.iload_n 1, 1) := by decide +kernel
theorem dX12_tellLetter_28 : decode cX12_tellLetter 28 = .ok (.invokevirtual 322, 3) := by decide +kernel
theorem dX12_tellLetter_31 : decode cX12_tellLetter 31 = .ok (.ifCond .eq 9, 3) := by decide +kernel
theorem dX12_tellLetter_34 : decode cX12_tellLetter 34 = .ok (.aload_n 0, 1) := by decide +kernel
theorem dX12_tellLetter_35 : decode cX12_tellLetter 35 = .ok (.bipush 33, 2) := by decide +kernel
theorem dX12_tellLetter_37 : decode cX12_tellLetter 37 = .ok (.invokevirtual 530, 3) := by decide +kernel
theorem dX12_tellLetter_40 : decode cX12_tellLetter 40 = .ok (.iconst 0, 1) := by decide +kernel
theorem dX12_tellLetter_41 : decode cX12_tellLetter 41 = .ok (.istore_n 2, 1) := by decide +kernel
theorem dX12_tellLetter_42 : decode cX12_tellLetter 42 = .ok (.iload_n 2, 1) := by decide +kernel
theorem dX12_tellLetter_43 : decode cX12_tellLetter 43 = .ok (.aload_n 0, 1) := by decide +kernel
theorem dX12_tellLetter_44 : decode cX12_tellLetter 44 = .ok (.iload_n 1, 1) := by decide +kernel
theorem dX12_tellLetter_45 : decode cX12_tellLetter 45 = .ok (.invokevirtual 375, 3) := by decide +kernel
theorem dX12_tellLetter_48 : decode cX12_tellLetter 48 = .ok (.if_icmp .ge 15, 3) := by decide +kernel
theorem dX12_tellLetter_51 : decode cX12_tellLetter 51 = .ok (.aload_n 0, 1) := by decide +kernel
theorem dX12_tellLetter_52 : decode cX12_tellLetter 52 = .ok (.bipush 42, 2) := by decide +kernel
theorem dX12_tellLetter_54 : decode cX12_tellLetter 54 = .ok (.invokevirtual 530, 3) := by decide +kernel
theorem dX12_tellLetter_57 : decode cX12_tellLetter 57 = .ok (.iinc 2 1, 3) := by decide +kernel
theorem dX12_tellLetter_60 : decode cX12_tellLetter 60 = .ok (.goto (-18), 3) := by decide +kernel
theorem dX12_tellLetter_63 : decode cX12_tellLetter 63 = .ok (.return_, 1) := by decide +kernel
theorem dX12_report_0 : decode cX12_report 0 = .ok (.aload_n 0, 1) := by decide +kernel
theorem dX12_report_1 : decode cX12_report 1 = .ok (.iconst 0, 1) := by decide +kernel
theorem dX12_report_2 : decode cX12_report 2 = .ok (.putfield 72, 3) := by decide +kernel
theorem dX12_report_5 : decode cX12_report 5 = .ok (.aload_n 0, 1) := by decide +kernel
theorem dX12_report_6 : decode cX12_report 6 = .ok (.iconst 0, 1) := by decide +kernel
theorem dX12_report_7 : decode cX12_report 7 = .ok (.putfield 527, 3) := by decide +kernel
theorem dX12_report_10 : decode cX12_report 10 = .ok (.aload_n 0, 1) := by decide +kernel
theorem dX12_report_11 : decode cX12_report 11 = .ok (.iconst 1, 1) := by decide +kernel
theorem dX12_report_12 : decode cX12_report 12 = .ok (.putfield 533, 3) := by decide +kernel
theorem dX12_report_15 : decode cX12_report 15 = .ok (.aload_n 0, 1) := by decide +kernel
theorem dX12_report_16 : decode cX12_report 16 = .ok (.invokevirtual 395, 3) := by decide +kernel
theorem dX12_report_19 : decode cX12_report 19 = .ok (.iconst 0, 1) := by decide +kernel
theorem dX12_report_20 : decode cX12_report 20 = .ok (.istore_n 1, 1) := by decide +kernel
theorem dX12_report_21 : decode cX12_report 21 = .ok (.iload_n 1, 1) := by decide +kernel
theorem dX12_report_22 : decode cX12_report 22 = .ok (.aload_n 0, 1) := by decide +kernel
theorem dX12_report_23 : decode cX12_report 23 = .ok (.getfield 20, 3) := by decide +kernel
theorem dX12_report_26 : decode cX12_report 26 = .ok (.iconst 1, 1) := by decide +kernel
theorem dX12_report_27 : decode cX12_report 27 = .ok (.iaload, 1) := by decide +kernel
theorem dX12_report_28 : decode cX12_report 28 = .ok (.if_icmp .gt 44, 3) := by decide +kernel
theorem dX12_report_31 : decode cX12_report 31 = .ok (.aload_n 0, 1) := by decide +kernel
theorem dX12_report_32 : decode cX12_report 32 = .ok (.getfield 45, 3) := by decide +kernel
theorem dX12_report_35 : decode cX12_report 35 = .ok (.iload_n 1, 1) := by decide +kernel
theorem dX12_report_36 : decode cX12_report 36 = .ok (.iaload, 1) := by decide +kernel
theorem dX12_report_37 : decode cX12_report 37 = .ok (.iconst (-1), 1) := by decide +kernel
theorem dX12_report_38 : decode cX12_report 38 = .ok (.if_icmp .eq 13, 3) := by decide +kernel
theorem dX12_report_41 : decode cX12_report 41 = .ok (.aload_n 0, 1) := by decide +kernel
theorem dX12_report_42 : decode cX12_report 42 = .ok (.aload_n 0, 1) := by decide +kernel
theorem dX12_report_43 : decode cX12_report 43 = .ok (.getfield 45, 3) := by decide +kernel
theorem dX12_report_46 : decode cX12_report 46 = .ok (.iload_n 1, 1) := by decide +kernel
theorem dX12_report_47 : decode cX12_report 47 = .ok (.iaload, 1) := by decide +kernel
theorem dX12_report_48 : decode cX12_report 48 = .ok (.invokevirtual 536, 3) := by decide +kernel
theorem dX12_report_51 : decode cX12_report 51 = .ok (.iload_n 1, 1) := by decide +kernel
theorem dX12_report_52 : decode cX12_report 52 = .ok (.aload_n 0, 1) := by decide +kernel
theorem dX12_report_53 : decode cX12_report 53 = .ok (.getfield 20, 3) := by decide +kernel
theorem dX12_report_56 : decode cX12_report 56 = .ok (.iconst 1, 1) := by decide +kernel
theorem dX12_report_57 : decode cX12_report 57 = .ok (.iaload, 1) := by decide +kernel
theorem dX12_report_58 : decode cX12_report 58 = .ok (.if_icmp .ge 8, 3) := by decide +kernel
theorem dX12_report_61 : decode cX12_report 61 = .ok (.aload_n 0, 1) := by decide +kernel
theorem dX12_report_62 : decode cX12_report 62 = .ok (.iload_n 1, 1) := by decide +kernel
theorem dX12_report_63 : decode cX12_report 63 = .ok (.invokevirtual 539, 3) := by decide +kernel
theorem dX12_report_66 : decode cX12_report 66 = .ok (.iinc 1 1, 3) := by decide +kernel
theorem dX12_report_69 : decode cX12_report 69 = .ok (.goto (-48), 3) := by decide +kernel
theorem dX12_report_72 : decode cX12_report 72 = .ok (.aload_n 0, 1) := by decide +kernel
theorem dX12_report_73 : decode cX12_report 73 = .ok (.getfield 527, 3) := by decide +kernel
theorem dX12_report_76 : decode cX12_report 76 = .ok (.ireturn, 1) := by decide +kernel
theorem dX12_reportByte_0 : decode cX12_reportByte 0 = .ok (.aload_n 0, 1) := by decide +kernel
theorem dX12_reportByte_1 : decode cX12_reportByte 1 = .ok (.aload_n 0, 1) := by decide +kernel
theorem dX12_reportByte_2 : decode cX12_reportByte 2 = .ok (.getfield 533, 3) := by decide +kernel
theorem dX12_reportByte_5 : decode cX12_reportByte 5 = .ok (.ifCond .eq 23, 3) := by decide +kernel
theorem dX12_reportByte_8 : decode cX12_reportByte 8 = .ok (.iload_n 1, 1) := by decide +kernel
theorem dX12_reportByte_9 : decode cX12_reportByte 9 = .ok (.i2l, 1) := by decide +kernel
theorem dX12_reportByte_10 : decode cX12_reportByte 10 = .ok (.lconst 0, 1) := by decide +kernel
theorem dX12_reportByte_11 : decode cX12_reportByte 11 = .ok (.aload_n 0, 1) := by decide +kernel
theorem dX12_reportByte_12 : decode cX12_reportByte 12 = .ok (.getfield 527, 3) := by decide +kernel
theorem dX12_reportByte_15 : decode cX12_reportByte 15 = .ok (.iconst 1, 1) := by decide +kernel
theorem dX12_reportByte_16 : decode cX12_reportByte 16 = .ok (.isub, 1) := by decide +kernel
theorem dX12_reportByte_17 : decode cX12_reportByte 17 = .ok (.i2l, 1) := by decide +kernel
theorem dX12_reportByte_18 : decode cX12_reportByte 18 = .ok (.invokestatic 90, 3) := by decide +kernel
theorem dX12_reportByte_21 : decode cX12_reportByte 21 = .ok (.ifCond .eq 7, 3) := by decide +kernel
theorem dX12_reportByte_24 : decode cX12_reportByte 24 = .ok (.iconst 1, 1) := by decide +kernel
theorem dX12_reportByte_25 : decode cX12_reportByte 25 = .ok (.goto 4, 3) := by decide +kernel
theorem dX12_reportByte_28 : decode cX12_reportByte 28 = .ok (.iconst 0, 1) := by decide +kernel
theorem dX12_reportByte_29 : decode cX12_reportByte 29 = .ok (.invokevirtual 82, 3) := by decide +kernel
theorem dX12_reportByte_32 : decode cX12_reportByte 32 = .ok (.ifCond .eq 12, 3) := by decide +kernel
theorem dX12_reportByte_35 : decode cX12_reportByte 35 = .ok (.aload_n 0, 1) := by decide +kernel
theorem dX12_reportByte_36 : decode cX12_reportByte 36 = .ok (.getfield 66, 3) := by decide +kernel
theorem dX12_reportByte_39 : decode cX12_reportByte 39 = .ok (.iload_n 1, 1) := by decide +kernel
theorem dX12_reportByte_40 : decode cX12_reportByte 40 = .ok (.iaload, 1) := by decide +kernel
theorem dX12_reportByte_41 : decode cX12_reportByte 41 = .ok (.goto 4, 3) := by decide +kernel
theorem dX12_reportByte_44 : decode cX12_reportByte 44 = .ok (.iconst 0, 1) := by decide +kernel
theorem dX12_reportByte_45 : decode cX12_reportByte 45 = .ok (.ireturn, 1) := by decide +kernel
