theorem dX12_init_0 : decode cX12_init 0 = .ok (.aload_n 0, 1) := by decide +kernel
theorem dX12_init_1 : decode cX12_init 1 = .ok (.invokespecial 5, 3) := by decide +kernel
theorem dX12_init_4 : decode cX12_init 4 = .ok (.aload_n 0, 1) := by decide +kernel
theorem dX12_init_5 : decode cX12_init 5 = .ok (.sipush 160, 3) := by decide +kernel
theorem dX12_init_8 : decode cX12_init 8 = .ok (.newarray .byte, 2) := by decide +kernel
theorem dX12_init_10 : decode cX12_init 10 = .ok (.putfield 13, 3) := by decide +kernel
theorem dX12_init_13 : decode cX12_init 13 = .ok (.aload_n 0, 1) := by decide +kernel
theorem dX12_init_14 : decode cX12_init 14 = .ok (.sipush 256, 3) := by decide +kernel
theorem dX12_init_17 : decode cX12_init 17 = .ok (.newarray .boolean, 2) := by decide +kernel
theorem dX12_init_19 : decode cX12_init 19 = .ok (.putfield 17, 3) := by decide +kernel
theorem dX12_init_22 : decode cX12_init 22 = .ok (.aload_n 0, 1) := by decide +kernel
theorem dX12_init_23 : decode cX12_init 23 = .ok (.bipush 60, 2) := by decide +kernel
theorem dX12_init_25 : decode cX12_init 25 = .ok (.newarray .int, 2) := by decide +kernel
theorem dX12_init_27 : decode cX12_init 27 = .ok (.putfield 21, 3) := by decide +kernel
theorem dX12_init_30 : decode cX12_init 30 = .ok (.aload_n 0, 1) := by decide +kernel
theorem dX12_init_31 : decode cX12_init 31 = .ok (.sipush 256, 3) := by decide +kernel
theorem dX12_init_34 : decode cX12_init 34 = .ok (.newarray .int, 2) := by decide +kernel
theorem dX12_init_36 : decode cX12_init 36 = .ok (.putfield 25, 3) := by decide +kernel
theorem dX12_init_39 : decode cX12_init 39 = .ok (.aload_n 0, 1) := by decide +kernel
theorem dX12_init_40 : decode cX12_init 40 = .ok (.bipush 60, 2) := by decide +kernel
theorem dX12_init_42 : decode cX12_init 42 = .ok (.newarray .int, 2) := by decide +kernel
theorem dX12_init_44 : decode cX12_init 44 = .ok (.putfield 28, 3) := by decide +kernel
theorem dX12_init_47 : decode cX12_init 47 = .ok (.aload_n 0, 1) := by decide +kernel
theorem dX12_init_48 : decode cX12_init 48 = .ok (.bipush 60, 2) := by decide +kernel
theorem dX12_init_50 : decode cX12_init 50 = .ok (.newarray .boolean, 2) := by decide +kernel
theorem dX12_init_52 : decode cX12_init 52 = .ok (.putfield 31, 3) := by decide +kernel
theorem dX12_init_55 : decode cX12_init 55 = .ok (.aload_n 0, 1) := by decide +kernel
theorem dX12_init_56 : decode cX12_init 56 = .ok (.bipush 60, 2) := by decide +kernel
theorem dX12_init_58 : decode cX12_init 58 = .ok (.newarray .int, 2) := by decide +kernel
theorem dX12_init_60 : decode cX12_init 60 = .ok (.putfield 34, 3) := by decide +kernel
theorem dX12_init_63 : decode cX12_init 63 = .ok (.aload_n 0, 1) := by decide +kernel
theorem dX12_init_64 : decode cX12_init 64 = .ok (.bipush 60, 2) := by decide +kernel
theorem dX12_init_66 : decode cX12_init 66 = .ok (.newarray .int, 2) := by decide +kernel
theorem dX12_init_68 : decode cX12_init 68 = .ok (.putfield 37, 3) := by decide +kernel
theorem dX12_init_71 : decode cX12_init 71 = .ok (.aload_n 0, 1) := by decide +kernel
theorem dX12_init_72 : decode cX12_init 72 = .ok (.sipush 1920, 3) := by decide +kernel
theorem dX12_init_75 : decode cX12_init 75 = .ok (.newarray .int, 2) := by decide +kernel
theorem dX12_init_77 : decode cX12_init 77 = .ok (.putfield 40, 3) := by decide +kernel
theorem dX12_init_80 : decode cX12_init 80 = .ok (.aload_n 0, 1) := by decide +kernel
theorem dX12_init_81 : decode cX12_init 81 = .ok (.bipush 60, 2) := by decide +kernel
theorem dX12_init_83 : decode cX12_init 83 = .ok (.newarray .boolean, 2) := by decide +kernel
theorem dX12_init_85 : decode cX12_init 85 = .ok (.putfield 43, 3) := by decide +kernel
theorem dX12_init_88 : decode cX12_init 88 = .ok (.aload_n 0, 1) := by decide +kernel
theorem dX12_init_89 : decode cX12_init 89 = .ok (.bipush 60, 2) := by decide +kernel
theorem dX12_init_91 : decode cX12_init 91 = .ok (.newarray .long, 2) := by decide +kernel
theorem dX12_init_93 : decode cX12_init 93 = .ok (.putfield 46, 3) := by decide +kernel
theorem dX12_init_96 : decode cX12_init 96 = .ok (.aload_n 0, 1) := by decide +kernel
theorem dX12_init_97 : decode cX12_init 97 = .ok (.bipush 60, 2) := by decide +kernel
theorem dX12_init_99 : decode cX12_init 99 = .ok (.newarray .long, 2) := by decide +kernel
theorem dX12_init_101 : decode cX12_init 101 = .ok (.putfield 50, 3) := by decide +kernel
theorem dX12_init_104 : decode cX12_init 104 = .ok (.aload_n 0, 1) := by decide +kernel
theorem dX12_init_105 : decode cX12_init 105 = .ok (.bipush 122, 2) := by decide +kernel
theorem dX12_init_107 : decode cX12_init 107 = .ok (.newarray .int, 2) := by decide +kernel
theorem dX12_init_109 : decode cX12_init 109 = .ok (.putfield 53, 3) := by decide +kernel
theorem dX12_init_112 : decode cX12_init 112 = .ok (.aload_n 0, 1) := by decide +kernel
theorem dX12_init_113 : decode cX12_init 113 = .ok (.bipush 60, 2) := by decide +kernel
theorem dX12_init_115 : decode cX12_init 115 = .ok (.newarray .long, 2) := by decide +kernel
theorem dX12_init_117 : decode cX12_init 117 = .ok (.putfield 56, 3) := by decide +kernel
theorem dX12_init_120 : decode cX12_init 120 = .ok (.aload_n 0, 1) := by decide +kernel
theorem dX12_init_121 : decode cX12_init 121 = .ok (.bipush 60, 2) := by decide +kernel
theorem dX12_init_123 : decode cX12_init 123 = .ok (.newarray .long, 2) := by decide +kernel
theorem dX12_init_125 : decode cX12_init 125 = .ok (.putfield 59, 3) := by decide +kernel
theorem dX12_init_128 : decode cX12_init 128 = .ok (.aload_n 0, 1) := by decide +kernel
theorem dX12_init_129 : decode cX12_init 129 = .ok (.bipush 60, 2) := by decide +kernel
theorem dX12_init_131 : decode cX12_init 131 = .ok (.newarray .boolean, 2) := by decide +kernel
theorem dX12_init_133 : decode cX12_init 133 = .ok (.putfield 62, 3) := by decide +kernel
theorem dX12_init_136 : decode cX12_init 136 = .ok (.aload_n 0, 1) := by decide +kernel
theorem dX12_init_137 : decode cX12_init 137 = .ok (.sipush 3600, 3) := by decide +kernel
theorem dX12_init_140 : decode cX12_init 140 = .ok (.newarray .long, 2) := by decide +kernel
theorem dX12_init_142 : decode cX12_init 142 = .ok (.putfield 65, 3) := by decide +kernel
theorem dX12_init_145 : decode cX12_init 145 = .ok (.aload_n 0, 1) := by decide +kernel
theorem dX12_init_146 : decode cX12_init 146 = .ok (.bipush 60, 2) := by decide +kernel
theorem dX12_init_148 : decode cX12_init 148 = .ok (.newarray .long, 2) := by decide +kernel
theorem dX12_init_150 : decode cX12_init 150 = .ok (.putfield 68, 3) := by decide +kernel
theorem dX12_init_153 : decode cX12_init 153 = .ok (.aload_n 0, 1) := by decide +kernel
theorem dX12_init_154 : decode cX12_init 154 = .ok (.bipush 60, 2) := by decide +kernel
theorem dX12_init_156 : decode cX12_init 156 = .ok (.newarray .int, 2) := by decide +kernel
theorem dX12_init_158 : decode cX12_init 158 = .ok (.putfield 71, 3) := by decide +kernel
theorem dX12_init_161 : decode cX12_init 161 = .ok (.aload_n 0, 1) := by decide +kernel
theorem dX12_init_162 : decode cX12_init 162 = .ok (.bipush 60, 2) := by decide +kernel
theorem dX12_init_164 : decode cX12_init 164 = .ok (.newarray .int, 2) := by decide +kernel
theorem dX12_init_166 : decode cX12_init 166 = .ok (.putfield 74, 3) := by decide +kernel
theorem dX12_init_169 : decode cX12_init 169 = .ok (.aload_n 0, 1) := by decide +kernel
theorem dX12_init_170 : decode cX12_init 170 = .ok (.iconst 3, 1) := by decide +kernel
theorem dX12_init_171 : decode cX12_init 171 = .ok (.newarray .boolean, 2) := by decide +kernel
theorem dX12_init_173 : decode cX12_init 173 = .ok (.putfield 77, 3) := by decide +kernel
theorem dX12_init_176 : decode cX12_init 176 = .ok (.aload_n 0, 1) := by decide +kernel
theorem dX12_init_177 : decode cX12_init 177 = .ok (.sipush 180, 3) := by decide +kernel
theorem dX12_init_180 : decode cX12_init 180 = .ok (.newarray .int, 2) := by decide +kernel
theorem dX12_init_182 : decode cX12_init 182 = .ok (.putfield 80, 3) := by decide +kernel
theorem dX12_init_185 : decode cX12_init 185 = .ok (.return_, 1) := by decide +kernel
theorem dX12_in_0 : decode cX12_in 0 = .ok (.iload_n 0, 1) := by decide +kernel
theorem dX12_in_1 : decode cX12_in 1 = .ok (.iload_n 1, 1) := by decide +kernel
theorem dX12_in_2 : decode cX12_in 2 = .ok (.if_icmp .lt 12, 3) := by decide +kernel
theorem dX12_in_5 : decode cX12_in 5 = .ok (.iload_n 0, 1) := by decide +kernel
theorem dX12_in_6 : decode cX12_in 6 = .ok (.iload_n 2, 1) := by decide +kernel
theorem dX12_in_7 : decode cX12_in 7 = .ok (.if_icmp .gt 7, 3) := by decide +kernel
theorem dX12_in_10 : decode cX12_in 10 = .ok (.iconst 1, 1) := by decide +kernel
theorem dX12_in_11 : decode cX12_in 11 = .ok (.goto 4, 3) := by decide +kernel
theorem dX12_in_14 : decode cX12_in 14 = .ok (.iconst 0, 1) := by decide +kernel
theorem dX12_in_15 : decode cX12_in 15 = .ok (.ireturn, 1) := by decide +kernel
theorem dX12_truth_0 : decode cX12_truth 0 = .ok (.iload_n 0, 1) := by decide +kernel
theorem dX12_truth_1 : decode cX12_truth 1 = .ok (.ifCond .eq 7, 3) := by decide +kernel
theorem dX12_truth_8 : decode cX12_truth 8 = .ok (.iconst 0, 1) := by decide +kernel
theorem dX12_truth_9 : decode cX12_truth 9 = .ok (.ireturn, 1) := by decide +kernel
theorem dX12_feed_0 : decode cX12_feed 0 = .ok (.aload_n 0, 1) := by decide +kernel
theorem dX12_feed_1 : decode cX12_feed 1 = .ok (.getfield 83, 3) := by decide +kernel
theorem dX12_feed_4 : decode cX12_feed 4 = .ok (.bipush 20, 2) := by decide +kernel
theorem dX12_feed_6 : decode cX12_feed 6 = .ok (.iadd, 1) := by decide +kernel
theorem dX12_feed_7 : decode cX12_feed 7 = .ok (.sipush 160, 3) := by decide +kernel
theorem dX12_feed_10 : decode cX12_feed 10 = .ok (.if_icmp .le 5, 3) := by decide +kernel
theorem dX12_feed_15 : decode cX12_feed 15 = .ok (.aload_n 0, 1) := by decide +kernel
theorem dX12_feed_16 : decode cX12_feed 16 = .ok (.iload_n 1, 1) := by decide +kernel
theorem dX12_feed_17 : decode cX12_feed 17 = .ok (.invokevirtual 87, 3) := by decide +kernel
theorem dX12_feed_20 : decode cX12_feed 20 = .ok (.aload_n 0, 1) := by decide +kernel
theorem dX12_feed_21 : decode cX12_feed 21 = .ok (.iload_n 2, 1) := by decide +kernel
theorem dX12_feed_22 : decode cX12_feed 22 = .ok (.invokevirtual 87, 3) := by decide +kernel
theorem dX12_feed_25 : decode cX12_feed 25 = .ok (.aload_n 0, 1) := by decide +kernel
theorem dX12_feed_26 : decode cX12_feed 26 = .ok (.iload_n 3, 1) := by decide +kernel
theorem dX12_feed_27 : decode cX12_feed 27 = .ok (.invokevirtual 87, 3) := by decide +kernel
theorem dX12_feed_30 : decode cX12_feed 30 = .ok (.aload_n 0, 1) := by decide +kernel
theorem dX12_feed_31 : decode cX12_feed 31 = .ok (.iload 4, 2) := by decide +kernel
theorem dX12_feed_33 : decode cX12_feed 33 = .ok (.invokevirtual 87, 3) := by decide +kernel
theorem dX12_feed_36 : decode cX12_feed 36 = .ok (.aload_n 0, 1) := by decide +kernel
theorem dX12_feed_37 : decode cX12_feed 37 = .ok (.iload 5, 2) := by decide +kernel
theorem dX12_feed_39 : decode cX12_feed 39 = .ok (.invokevirtual 87, 3) := by decide +kernel
theorem dX12_feed_42 : decode cX12_feed 42 = .ok (.aload_n 0, 1) := by decide +kernel
theorem dX12_feed_43 : decode cX12_feed 43 = .ok (.getfield 83, 3) := by decide +kernel
theorem dX12_feed_46 : decode cX12_feed 46 = .ok (.ireturn, 1) := by decide +kernel
theorem dX12_puts_0 : decode cX12_puts 0 = .ok (.bipush 24, 2) := by decide +kernel
theorem dX12_puts_2 : decode cX12_puts 2 = .ok (.istore_n 2, 1) := by decide +kernel
theorem dX12_puts_3 : decode cX12_puts 3 = .ok (.iload_n 2, 1) := by decide +kernel
theorem dX12_puts_4 : decode cX12_puts 4 = .ok (.ifCond .lt 32, 3) := by decide +kernel
theorem dX12_puts_7 : decode cX12_puts 7 = .ok (.aload_n 0, 1) := by decide +kernel
theorem dX12_puts_8 : decode cX12_puts 8 = .ok (.getfield 13, 3) := by decide +kernel
theorem dX12_puts_11 : decode cX12_puts 11 = .ok (.aload_n 0, 1) := by decide +kernel
theorem dX12_puts_12 : decode cX12_puts 12 = .ok (.getfield 83, 3) := by decide +kernel
theorem dX12_puts_15 : decode cX12_puts 15 = .ok (.iload_n 1, 1) := by decide +kernel
theorem dX12_puts_16 : decode cX12_puts 16 = .ok (.iload_n 2, 1) := by decide +kernel
theorem dX12_puts_17 : decode cX12_puts 17 = .ok (.ishr, 1) := by decide +kernel
theorem dX12_puts_18 : decode cX12_puts 18 = .ok (.i2b, 1) := by decide +kernel
theorem dX12_puts_19 : decode cX12_puts 19 = .ok (.bastore, 1) := by decide +kernel
theorem dX12_puts_20 : decode cX12_puts 20 = .ok (.aload_n 0, 1) := by decide +kernel
theorem dX12_puts_21 : decode cX12_puts 21 = .ok (.dup, 1) := by decide +kernel
theorem dX12_puts_22 : decode cX12_puts 22 = .ok (.getfield 83, 3) := by decide +kernel
theorem dX12_puts_25 : decode cX12_puts 25 = .ok (.iconst 1, 1) := by decide +kernel
theorem dX12_puts_26 : decode cX12_puts 26 = .ok (.iadd, 1) := by decide +kernel
theorem dX12_puts_27 : decode cX12_puts 27 = .ok (.putfield 83, 3) := by decide +kernel
theorem dX12_puts_30 : decode cX12_puts 30 = .ok (.iinc 2 (-8), 3) := by decide +kernel
theorem dX12_puts_33 : decode cX12_puts 33 = .ok (.goto (-30), 3) := by decide +kernel
theorem dX12_puts_36 : decode cX12_puts 36 = .ok (.return_, 1) := by decide +kernel
theorem dX12_end_0 : decode cX12_end 0 = .ok (.iload_n 1, 1) := by decide +kernel
theorem dX12_end_1 : decode cX12_end 1 = .ok (.ifCond .lt 11, 3) := by decide +kernel
theorem dX12_end_4 : decode cX12_end 4 = .ok (.iload_n 1, 1) := by decide +kernel
theorem dX12_end_5 : decode cX12_end 5 = .ok (.aload_n 0, 1) := by decide +kernel
theorem dX12_end_6 : decode cX12_end 6 = .ok (.getfield 83, 3) := by decide +kernel
theorem dX12_end_9 : decode cX12_end 9 = .ok (.if_icmp .le 5, 3) := by decide +kernel
theorem dX12_end_12 : decode cX12_end 12 = .ok (.iconst (-1), 1) := by decide +kernel
theorem dX12_end_13 : decode cX12_end 13 = .ok (.ireturn, 1) := by decide +kernel
theorem dX12_end_14 : decode cX12_end 14 = .ok (.aload_n 0, 1) := by decide +kernel
theorem dX12_end_15 : decode cX12_end 15 = .ok (.iload_n 1, 1) := by decide +kernel
theorem dX12_end_16 : decode cX12_end 16 = .ok (.putfield 83, 3) := by decide +kernel
theorem dX12_end_19 : decode cX12_end 19 = .ok (.iload_n 1, 1) := by decide +kernel
theorem dX12_end_20 : decode cX12_end 20 = .ok (.ireturn, 1) := by decide +kernel
theorem dX12_byteNow_0 : decode cX12_byteNow 0 = .ok (.aload_n 0, 1) := by decide +kernel
theorem dX12_byteNow_1 : decode cX12_byteNow 1 = .ok (.getfield 91, 3) := by decide +kernel
theorem dX12_byteNow_4 : decode cX12_byteNow 4 = .ok (.aload_n 0, 1) := by decide +kernel
theorem dX12_byteNow_5 : decode cX12_byteNow 5 = .ok (.getfield 83, 3) := by decide +kernel
theorem dX12_byteNow_8 : decode cX12_byteNow 8 = .ok (.if_icmp .ge 19, 3) := by decide +kernel
theorem dX12_byteNow_27 : decode cX12_byteNow 27 = .ok (.iconst (-1), 1) := by decide +kernel
theorem dX12_byteNow_28 : decode cX12_byteNow 28 = .ok (.ireturn, 1) := by decide +kernel
theorem dX12_blanks_0 : decode cX12_blanks 0 = .ok (.aload_n 0, 1) := by decide +kernel
theorem dX12_blanks_1 : decode cX12_blanks 1 = .ok (.invokevirtual 94, 3) := by decide +kernel
theorem dX12_blanks_4 : decode cX12_blanks 4 = .ok (.bipush 32, 2) := by decide +kernel
theorem dX12_blanks_6 : decode cX12_blanks 6 = .ok (.if_icmp .ne 16, 3) := by decide +kernel
theorem dX12_blanks_22 : decode cX12_blanks 22 = .ok (.return_, 1) := by decide +kernel
theorem dX12_fails_0 : decode cX12_fails 0 = .ok (.aload_n 0, 1) := by decide +kernel
theorem dX12_fails_1 : decode cX12_fails 1 = .ok (.getfield 98, 3) := by decide +kernel
theorem dX12_fails_4 : decode cX12_fails 4 = .ok (.iconst (-1), 1) := by decide +kernel
theorem dX12_fails_5 : decode cX12_fails 5 = .ok (.if_icmp .ne 13, 3) := by decide +kernel
theorem dX12_fails_8 : decode cX12_fails 8 = .ok (.aload_n 0, 1) := by decide +kernel
theorem dX12_fails_9 : decode cX12_fails 9 = .ok (.bipush 8, 2) := by decide +kernel
theorem dX12_fails_11 : decode cX12_fails 11 = .ok (.iload_n 2, 1) := by decide +kernel
theorem dX12_fails_12 : decode cX12_fails 12 = .ok (.imul, 1) := by decide +kernel
theorem dX12_fails_13 : decode cX12_fails 13 = .ok (.iload_n 1, 1) := by decide +kernel
theorem dX12_fails_14 : decode cX12_fails 14 = .ok (.iadd, 1) := by decide +kernel
theorem dX12_fails_15 : decode cX12_fails 15 = .ok (.putfield 98, 3) := by decide +kernel
theorem dX12_fails_18 : decode cX12_fails 18 = .ok (.return_, 1) := by decide +kernel
theorem dX12_isRight_0 : decode cX12_isRight 0 = .ok (.aload_n 0, 1) := by decide +kernel
theorem dX12_isRight_1 : decode cX12_isRight 1 = .ok (.getfield 98, 3) := by decide +kernel
theorem dX12_isRight_4 : decode cX12_isRight 4 = .ok (.iconst (-1), 1) := by decide +kernel
theorem dX12_isRight_5 : decode cX12_isRight 5 = .ok (.if_icmp .ne 7, 3) := by decide +kernel
theorem dX12_isRight_12 : decode cX12_isRight 12 = .ok (.iconst 0, 1) := by decide +kernel
theorem dX12_isRight_13 : decode cX12_isRight 13 = .ok (.ireturn, 1) := by decide +kernel
theorem dX12_isLetter_0 : decode cX12_isLetter 0 = .ok (.aload_n 0, 1) := by decide +kernel
theorem dX12_isLetter_1 : decode cX12_isLetter 1 = .ok (.invokevirtual 94, 3) := by decide +kernel
theorem dX12_isLetter_4 : decode cX12_isLetter 4 = .ok (.bipush 97, 2) := by decide +kernel
theorem dX12_isLetter_6 : decode cX12_isLetter 6 = .ok (.bipush 104, 2) := by decide +kernel
theorem dX12_isLetter_8 : decode cX12_isLetter 8 = .ok (.invokestatic 101, 3) := by decide +kernel
theorem dX12_isLetter_11 : decode cX12_isLetter 11 = .ok (.ireturn, 1) := by decide +kernel
theorem dX12_readsFacet_0 : decode cX12_readsFacet 0 = .ok (.aload_n 0, 1) := by decide +kernel
theorem dX12_readsFacet_1 : decode cX12_readsFacet 1 = .ok (.invokevirtual 109, 3) := by decide +kernel
theorem dX12_readsFacet_4 : decode cX12_readsFacet 4 = .ok (.aload_n 0, 1) := by decide +kernel
theorem dX12_readsFacet_5 : decode cX12_readsFacet 5 = .ok (.getfield 91, 3) := by decide +kernel
theorem dX12_readsFacet_8 : decode cX12_readsFacet 8 = .ok (.istore_n 2, 1) := by decide +kernel
theorem dX12_readsFacet_9 : decode cX12_readsFacet 9 = .ok (.iconst 0, 1) := by decide +kernel
theorem dX12_readsFacet_10 : decode cX12_readsFacet 10 = .ok (.istore_n 3, 1) := by decide +kernel
theorem dX12_readsFacet_11 : decode cX12_readsFacet 11 = .ok (.aload_n 0, 1) := by decide +kernel
theorem dX12_readsFacet_12 : decode cX12_readsFacet 12 = .ok (.invokevirtual 112, 3) := by decide +kernel
theorem dX12_readsFacet_15 : decode cX12_readsFacet 15 = .ok (.ifCond .ne 12, 3) := by decide +kernel
theorem dX12_readsFacet_18 : decode cX12_readsFacet 18 = .ok (.aload_n 0, 1) := by decide +kernel
theorem dX12_readsFacet_19 : decode cX12_readsFacet 19 = .ok (.iconst 1, 1) := by decide +kernel
theorem dX12_readsFacet_20 : decode cX12_readsFacet 20 = .ok (.aload_n 0, 1) := by decide +kernel
theorem dX12_readsFacet_21 : decode cX12_readsFacet 21 = .ok (.getfield 91, 3) := by decide +kernel
theorem dX12_readsFacet_24 : decode cX12_readsFacet 24 = .ok (.invokevirtual 116, 3) := by decide +kernel
theorem dX12_readsFacet_27 : decode cX12_readsFacet 27 = .ok (.iload_n 1, 1) := by decide +kernel
theorem dX12_readsFacet_28 : decode cX12_readsFacet 28 = .ok (.bipush 24, 2) := by decide +kernel
theorem dX12_readsFacet_30 : decode cX12_readsFacet 30 = .ok (.if_icmp .ne 12, 3) := by decide +kernel
theorem dX12_readsFacet_42 : decode cX12_readsFacet 42 = .ok (.aload_n 0, 1) := by decide +kernel
theorem dX12_readsFacet_43 : decode cX12_readsFacet 43 = .ok (.invokevirtual 120, 3) := by decide +kernel
theorem dX12_readsFacet_46 : decode cX12_readsFacet 46 = .ok (.ifCond .eq 72, 3) := by decide +kernel
theorem dX12_readsFacet_118 : decode cX12_readsFacet 118 = .ok (.aload_n 0, 1) := by decide +kernel
theorem dX12_readsFacet_119 : decode cX12_readsFacet 119 = .ok (.invokevirtual 120, 3) := by decide +kernel
theorem dX12_readsFacet_122 : decode cX12_readsFacet 122 = .ok (.ifCond .eq 23, 3) := by decide +kernel
theorem dX12_readsFacet_145 : decode cX12_readsFacet 145 = .ok (.aload_n 0, 1) := by decide +kernel
theorem dX12_readsFacet_146 : decode cX12_readsFacet 146 = .ok (.invokevirtual 109, 3) := by decide +kernel
theorem dX12_readsFacet_149 : decode cX12_readsFacet 149 = .ok (.return_, 1) := by decide +kernel
theorem dX12_complex_0 : decode cX12_complex 0 = .ok (.aload_n 0, 1) := by decide +kernel
theorem dX12_complex_1 : decode cX12_complex 1 = .ok (.iconst 0, 1) := by decide +kernel
theorem dX12_complex_2 : decode cX12_complex 2 = .ok (.putfield 91, 3) := by decide +kernel
theorem dX12_complex_5 : decode cX12_complex 5 = .ok (.aload_n 0, 1) := by decide +kernel
theorem dX12_complex_6 : decode cX12_complex 6 = .ok (.iconst (-1), 1) := by decide +kernel
theorem dX12_complex_7 : decode cX12_complex 7 = .ok (.putfield 98, 3) := by decide +kernel
theorem dX12_complex_10 : decode cX12_complex 10 = .ok (.iconst 0, 1) := by decide +kernel
theorem dX12_complex_11 : decode cX12_complex 11 = .ok (.istore_n 1, 1) := by decide +kernel
theorem dX12_complex_32 : decode cX12_complex 32 = .ok (.iconst 0, 1) := by decide +kernel
theorem dX12_complex_33 : decode cX12_complex 33 = .ok (.istore_n 1, 1) := by decide +kernel
theorem dX12_complex_34 : decode cX12_complex 34 = .ok (.iconst 1, 1) := by decide +kernel
theorem dX12_complex_35 : decode cX12_complex 35 = .ok (.istore_n 2, 1) := by decide +kernel
theorem dX12_complex_36 : decode cX12_complex 36 = .ok (.iload_n 2, 1) := by decide +kernel
theorem dX12_complex_37 : decode cX12_complex 37 = .ok (.ifCond .eq 49, 3) := by decide +kernel
theorem dX12_complex_40 : decode cX12_complex 40 = .ok (.aload_n 0, 1) := by decide +kernel
theorem dX12_complex_41 : decode cX12_complex 41 = .ok (.iload_n 1, 1) := by decide +kernel
theorem dX12_complex_42 : decode cX12_complex 42 = .ok (.invokevirtual 133, 3) := by decide +kernel
theorem dX12_complex_45 : decode cX12_complex 45 = .ok (.iinc 1 1, 3) := by decide +kernel
theorem dX12_complex_48 : decode cX12_complex 48 = .ok (.aload_n 0, 1) := by decide +kernel
theorem dX12_complex_49 : decode cX12_complex 49 = .ok (.invokevirtual 120, 3) := by decide +kernel
theorem dX12_complex_52 : decode cX12_complex 52 = .ok (.ifCond .eq 16, 3) := by decide +kernel
theorem dX12_complex_68 : decode cX12_complex 68 = .ok (.iconst 0, 1) := by decide +kernel
theorem dX12_complex_69 : decode cX12_complex 69 = .ok (.istore_n 2, 1) := by decide +kernel
theorem dX12_complex_70 : decode cX12_complex 70 = .ok (.aload_n 0, 1) := by decide +kernel
theorem dX12_complex_71 : decode cX12_complex 71 = .ok (.dup, 1) := by decide +kernel
theorem dX12_complex_72 : decode cX12_complex 72 = .ok (.getfield 91, 3) := by decide +kernel
theorem dX12_complex_75 : decode cX12_complex 75 = .ok (.iload_n 2, 1) := by decide +kernel
theorem dX12_complex_76 : decode cX12_complex 76 = .ok (.invokestatic 105, 3) := by decide +kernel
theorem dX12_complex_79 : decode cX12_complex 79 = .ok (.iadd, 1) := by decide +kernel
theorem dX12_complex_80 : decode cX12_complex 80 = .ok (.putfield 91, 3) := by decide +kernel
theorem dX12_complex_83 : decode cX12_complex 83 = .ok (.goto (-47), 3) := by decide +kernel
theorem dX12_complex_86 : decode cX12_complex 86 = .ok (.aload_n 0, 1) := by decide +kernel
theorem dX12_complex_87 : decode cX12_complex 87 = .ok (.invokevirtual 120, 3) := by decide +kernel
theorem dX12_complex_90 : decode cX12_complex 90 = .ok (.ifCond .eq 20, 3) := by decide +kernel
theorem dX12_complex_110 : decode cX12_complex 110 = .ok (.aload_n 0, 1) := by decide +kernel
theorem dX12_complex_111 : decode cX12_complex 111 = .ok (.iconst 0, 1) := by decide +kernel
theorem dX12_complex_112 : decode cX12_complex 112 = .ok (.putfield 83, 3) := by decide +kernel
theorem dX12_complex_115 : decode cX12_complex 115 = .ok (.aload_n 0, 1) := by decide +kernel
theorem dX12_complex_116 : decode cX12_complex 116 = .ok (.invokevirtual 120, 3) := by decide +kernel
theorem dX12_complex_119 : decode cX12_complex 119 = .ok (.ifCond .ne 11, 3) := by decide +kernel
theorem dX12_complex_122 : decode cX12_complex 122 = .ok (.bipush (-2), 2) := by decide +kernel
theorem dX12_complex_124 : decode cX12_complex 124 = .ok (.aload_n 0, 1) := by decide +kernel
theorem dX12_complex_125 : decode cX12_complex 125 = .ok (.getfield 98, 3) := by decide +kernel
theorem dX12_complex_128 : decode cX12_complex 128 = .ok (.isub, 1) := by decide +kernel
theorem dX12_complex_129 : decode cX12_complex 129 = .ok (.ireturn, 1) := by decide +kernel
theorem dX12_isSimplex_0 : decode cX12_isSimplex 0 = .ok (.iload_n 1, 1) := by decide +kernel
theorem dX12_isSimplex_1 : decode cX12_isSimplex 1 = .ok (.iconst 0, 1) := by decide +kernel
theorem dX12_isSimplex_2 : decode cX12_isSimplex 2 = .ok (.aload_n 0, 1) := by decide +kernel
theorem dX12_isSimplex_3 : decode cX12_isSimplex 3 = .ok (.getfield 139, 3) := by decide +kernel
theorem dX12_isSimplex_6 : decode cX12_isSimplex 6 = .ok (.iconst 1, 1) := by decide +kernel
theorem dX12_isSimplex_7 : decode cX12_isSimplex 7 = .ok (.isub, 1) := by decide +kernel
theorem dX12_isSimplex_8 : decode cX12_isSimplex 8 = .ok (.invokestatic 101, 3) := by decide +kernel
theorem dX12_isSimplex_11 : decode cX12_isSimplex 11 = .ok (.ireturn, 1) := by decide +kernel
theorem dX12_isThere_0 : decode cX12_isThere 0 = .ok (.aload_n 0, 1) := by decide +kernel
theorem dX12_isThere_1 : decode cX12_isThere 1 = .ok (.iload_n 1, 1) := by decide +kernel
theorem dX12_isThere_2 : decode cX12_isThere 2 = .ok (.invokevirtual 145, 3) := by decide +kernel
theorem dX12_isThere_5 : decode cX12_isThere 5 = .ok (.ifCond .eq 16, 3) := by decide +kernel
theorem dX12_isThere_21 : decode cX12_isThere 21 = .ok (.iconst 0, 1) := by decide +kernel
theorem dX12_isThere_22 : decode cX12_isThere 22 = .ok (.ireturn, 1) := by decide +kernel
theorem dX12_isCritical_0 : decode cX12_isCritical 0 = .ok (.aload_n 0, 1) := by decide +kernel
theorem dX12_isCritical_1 : decode cX12_isCritical 1 = .ok (.iload_n 1, 1) := by decide +kernel
theorem dX12_isCritical_2 : decode cX12_isCritical 2 = .ok (.invokevirtual 156, 3) := by decide +kernel
theorem dX12_isCritical_5 : decode cX12_isCritical 5 = .ok (.ifCond .eq 17, 3) := by decide +kernel
theorem dX12_isCritical_22 : decode cX12_isCritical 22 = .ok (.iconst 0, 1) := by decide +kernel
theorem dX12_isCritical_23 : decode cX12_isCritical 23 = .ok (.ireturn, 1) := by decide +kernel
theorem dX12_criticalMany_0 : decode cX12_criticalMany 0 = .ok (.iconst 0, 1) := by decide +kernel
theorem dX12_criticalMany_1 : decode cX12_criticalMany 1 = .ok (.istore_n 1, 1) := by decide +kernel
theorem dX12_criticalMany_2 : decode cX12_criticalMany 2 = .ok (.iconst 0, 1) := by decide +kernel
theorem dX12_criticalMany_3 : decode cX12_criticalMany 3 = .ok (.istore_n 2, 1) := by decide +kernel
theorem dX12_criticalMany_4 : decode cX12_criticalMany 4 = .ok (.iload_n 2, 1) := by decide +kernel
theorem dX12_criticalMany_5 : decode cX12_criticalMany 5 = .ok (.aload_n 0, 1) := by decide +kernel
theorem dX12_criticalMany_6 : decode cX12_criticalMany 6 = .ok (.getfield 139, 3) := by decide +kernel
theorem dX12_criticalMany_9 : decode cX12_criticalMany 9 = .ok (.if_icmp .ge 20, 3) := by decide +kernel
theorem dX12_criticalMany_29 : decode cX12_criticalMany 29 = .ok (.iload_n 1, 1) := by decide +kernel
theorem dX12_criticalMany_30 : decode cX12_criticalMany 30 = .ok (.ireturn, 1) := by decide +kernel
theorem dX12_number_0 : decode cX12_number 0 = .ok (.iload_n 1, 1) := by decide +kernel
theorem dX12_number_1 : decode cX12_number 1 = .ok (.iconst 1, 1) := by decide +kernel
theorem dX12_number_2 : decode cX12_number 2 = .ok (.sipush 255, 3) := by decide +kernel
theorem dX12_number_5 : decode cX12_number 5 = .ok (.invokestatic 101, 3) := by decide +kernel
theorem dX12_number_8 : decode cX12_number 8 = .ok (.ifCond .eq 19, 3) := by decide +kernel
theorem dX12_number_11 : decode cX12_number 11 = .ok (.aload_n 0, 1) := by decide +kernel
theorem dX12_number_12 : decode cX12_number 12 = .ok (.getfield 139, 3) := by decide +kernel
theorem dX12_number_15 : decode cX12_number 15 = .ok (.ifCond .le 12, 3) := by decide +kernel
theorem dX12_number_27 : decode cX12_number 27 = .ok (.iconst (-1), 1) := by decide +kernel
theorem dX12_number_28 : decode cX12_number 28 = .ok (.ireturn, 1) := by decide +kernel
theorem dX12_sign_0 : decode cX12_sign 0 = .ok (.aload_n 0, 1) := by decide +kernel
theorem dX12_sign_1 : decode cX12_sign 1 = .ok (.iload_n 1, 1) := by decide +kernel
theorem dX12_sign_2 : decode cX12_sign 2 = .ok (.invokevirtual 145, 3) := by decide +kernel
theorem dX12_sign_5 : decode cX12_sign 5 = .ok (.ifCond .eq 11, 3) := by decide +kernel
theorem dX12_sign_16 : decode cX12_sign 16 = .ok (.ldc 165, 2) := by decide +kernel
theorem dX12_sign_18 : decode cX12_sign 18 = .ok (.ireturn, 1) := by decide +kernel
theorem dX12_laysHeights_0 : decode cX12_laysHeights 0 = .ok (.iconst 0, 1) := by decide +kernel
theorem dX12_laysHeights_1 : decode cX12_laysHeights 1 = .ok (.istore_n 1, 1) := by decide +kernel
theorem dX12_laysHeights_2 : decode cX12_laysHeights 2 = .ok (.iload_n 1, 1) := by decide +kernel
theorem dX12_laysHeights_3 : decode cX12_laysHeights 3 = .ok (.aload_n 0, 1) := by decide +kernel
theorem dX12_laysHeights_4 : decode cX12_laysHeights 4 = .ok (.getfield 139, 3) := by decide +kernel
theorem dX12_laysHeights_7 : decode cX12_laysHeights 7 = .ok (.if_icmp .ge 16, 3) := by decide +kernel
theorem dX12_laysHeights_23 : decode cX12_laysHeights 23 = .ok (.iconst 1, 1) := by decide +kernel
theorem dX12_laysHeights_24 : decode cX12_laysHeights 24 = .ok (.istore_n 1, 1) := by decide +kernel
theorem dX12_laysHeights_25 : decode cX12_laysHeights 25 = .ok (.iload_n 1, 1) := by decide +kernel
theorem dX12_laysHeights_26 : decode cX12_laysHeights 26 = .ok (.ifCond .eq 135, 3) := by decide +kernel
theorem dX12_laysHeights_29 : decode cX12_laysHeights 29 = .ok (.iconst 0, 1) := by decide +kernel
theorem dX12_laysHeights_30 : decode cX12_laysHeights 30 = .ok (.istore_n 1, 1) := by decide +kernel
theorem dX12_laysHeights_31 : decode cX12_laysHeights 31 = .ok (.iconst 0, 1) := by decide +kernel
theorem dX12_laysHeights_32 : decode cX12_laysHeights 32 = .ok (.istore_n 2, 1) := by decide +kernel
theorem dX12_laysHeights_33 : decode cX12_laysHeights 33 = .ok (.iload_n 2, 1) := by decide +kernel
theorem dX12_laysHeights_34 : decode cX12_laysHeights 34 = .ok (.aload_n 0, 1) := by decide +kernel
theorem dX12_laysHeights_35 : decode cX12_laysHeights 35 = .ok (.getfield 139, 3) := by decide +kernel
theorem dX12_laysHeights_38 : decode cX12_laysHeights 38 = .ok (.if_icmp .ge 120, 3) := by decide +kernel
theorem dX12_laysHeights_158 : decode cX12_laysHeights 158 = .ok (.goto (-133), 3) := by decide +kernel
theorem dX12_laysHeights_161 : decode cX12_laysHeights 161 = .ok (.return_, 1) := by decide +kernel
theorem dX12_simplex_0 : decode cX12_simplex 0 = .ok (.aload_n 0, 1) := by decide +kernel
theorem dX12_simplex_1 : decode cX12_simplex 1 = .ok (.iload_n 1, 1) := by decide +kernel
theorem dX12_simplex_2 : decode cX12_simplex 2 = .ok (.invokevirtual 145, 3) := by decide +kernel
theorem dX12_simplex_5 : decode cX12_simplex 5 = .ok (.ifCond .ne 5, 3) := by decide +kernel
theorem dX12_simplex_8 : decode cX12_simplex 8 = .ok (.iconst (-1), 1) := by decide +kernel
theorem dX12_simplex_9 : decode cX12_simplex 9 = .ok (.ireturn, 1) := by decide +kernel
theorem dX12_undo_0 : decode cX12_undo 0 = .ok (.aload_n 0, 1) := by decide +kernel
theorem dX12_undo_1 : decode cX12_undo 1 = .ok (.getfield 142, 3) := by decide +kernel
theorem dX12_undo_4 : decode cX12_undo 4 = .ok (.ifCond .ne 5, 3) := by decide +kernel
theorem dX12_undo_7 : decode cX12_undo 7 = .ok (.iconst (-1), 1) := by decide +kernel
theorem dX12_undo_8 : decode cX12_undo 8 = .ok (.ireturn, 1) := by decide +kernel
theorem dX12_pair_0 : decode cX12_pair 0 = .ok (.aload_n 0, 1) := by decide +kernel
theorem dX12_pair_1 : decode cX12_pair 1 = .ok (.iload_n 1, 1) := by decide +kernel
theorem dX12_pair_2 : decode cX12_pair 2 = .ok (.invokevirtual 156, 3) := by decide +kernel
theorem dX12_pair_5 : decode cX12_pair 5 = .ok (.ifCond .eq 29, 3) := by decide +kernel
theorem dX12_pair_34 : decode cX12_pair 34 = .ok (.iconst (-1), 1) := by decide +kernel
theorem dX12_pair_35 : decode cX12_pair 35 = .ok (.ireturn, 1) := by decide +kernel
theorem dX12_part_0 : decode cX12_part 0 = .ok (.aload_n 0, 1) := by decide +kernel
theorem dX12_part_1 : decode cX12_part 1 = .ok (.iload_n 1, 1) := by decide +kernel
theorem dX12_part_2 : decode cX12_part 2 = .ok (.invokevirtual 145, 3) := by decide +kernel
theorem dX12_part_5 : decode cX12_part 5 = .ok (.ifCond .eq 13, 3) := by decide +kernel
theorem dX12_part_18 : decode cX12_part 18 = .ok (.iconst (-1), 1) := by decide +kernel
theorem dX12_part_19 : decode cX12_part 19 = .ok (.ireturn, 1) := by decide +kernel
theorem dX12_auto_0 : decode cX12_auto 0 = .ok (.aload_n 0, 1) := by decide +kernel
theorem dX12_auto_1 : decode cX12_auto 1 = .ok (.getfield 139, 3) := by decide +kernel
theorem dX12_auto_4 : decode cX12_auto 4 = .ok (.ifCond .eq 12, 3) := by decide +kernel
theorem dX12_auto_16 : decode cX12_auto 16 = .ok (.iconst (-1), 1) := by decide +kernel
theorem dX12_auto_17 : decode cX12_auto 17 = .ok (.ireturn, 1) := by decide +kernel
theorem dX12_areEnds_0 : decode cX12_areEnds 0 = .ok (.aload_n 0, 1) := by decide +kernel
theorem dX12_areEnds_1 : decode cX12_areEnds 1 = .ok (.iload_n 1, 1) := by decide +kernel
theorem dX12_areEnds_2 : decode cX12_areEnds 2 = .ok (.invokevirtual 159, 3) := by decide +kernel
theorem dX12_areEnds_5 : decode cX12_areEnds 5 = .ok (.ifCond .eq 30, 3) := by decide +kernel
theorem dX12_areEnds_35 : decode cX12_areEnds 35 = .ok (.iconst 0, 1) := by decide +kernel
theorem dX12_areEnds_36 : decode cX12_areEnds 36 = .ok (.ireturn, 1) := by decide +kernel
theorem dX12_paths_0 : decode cX12_paths 0 = .ok (.aload_n 0, 1) := by decide +kernel
theorem dX12_paths_1 : decode cX12_paths 1 = .ok (.iload_n 1, 1) := by decide +kernel
theorem dX12_paths_2 : decode cX12_paths 2 = .ok (.iload_n 2, 1) := by decide +kernel
theorem dX12_paths_3 : decode cX12_paths 3 = .ok (.invokevirtual 229, 3) := by decide +kernel
theorem dX12_paths_6 : decode cX12_paths 6 = .ok (.ifCond .eq 12, 3) := by decide +kernel
theorem dX12_paths_18 : decode cX12_paths 18 = .ok (.ldc2_w 236, 3) := by decide +kernel
theorem dX12_paths_21 : decode cX12_paths 21 = .ok (.lreturn, 1) := by decide +kernel
theorem dX12_incidence_0 : decode cX12_incidence 0 = .ok (.aload_n 0, 1) := by decide +kernel
theorem dX12_incidence_1 : decode cX12_incidence 1 = .ok (.iload_n 1, 1) := by decide +kernel
theorem dX12_incidence_2 : decode cX12_incidence 2 = .ok (.iload_n 2, 1) := by decide +kernel
theorem dX12_incidence_3 : decode cX12_incidence 3 = .ok (.invokevirtual 229, 3) := by decide +kernel
theorem dX12_incidence_6 : decode cX12_incidence 6 = .ok (.ifCond .eq 12, 3) := by decide +kernel
theorem dX12_incidence_18 : decode cX12_incidence 18 = .ok (.ldc2_w 241, 3) := by decide +kernel
theorem dX12_incidence_21 : decode cX12_incidence 21 = .ok (.lreturn, 1) := by decide +kernel
theorem dX12_path_0 : decode cX12_path 0 = .ok (.aload_n 0, 1) := by decide +kernel
theorem dX12_path_1 : decode cX12_path 1 = .ok (.iload_n 1, 1) := by decide +kernel
theorem dX12_path_2 : decode cX12_path 2 = .ok (.iload_n 2, 1) := by decide +kernel
theorem dX12_path_3 : decode cX12_path 3 = .ok (.invokevirtual 229, 3) := by decide +kernel
theorem dX12_path_6 : decode cX12_path 6 = .ok (.ifCond .eq 13, 3) := by decide +kernel
theorem dX12_path_19 : decode cX12_path 19 = .ok (.iconst (-1), 1) := by decide +kernel
theorem dX12_path_20 : decode cX12_path 20 = .ok (.ireturn, 1) := by decide +kernel
theorem dX12_cancel_0 : decode cX12_cancel 0 = .ok (.aload_n 0, 1) := by decide +kernel
theorem dX12_cancel_1 : decode cX12_cancel 1 = .ok (.iload_n 1, 1) := by decide +kernel
theorem dX12_cancel_2 : decode cX12_cancel 2 = .ok (.iload_n 2, 1) := by decide +kernel
theorem dX12_cancel_3 : decode cX12_cancel 3 = .ok (.invokevirtual 229, 3) := by decide +kernel
theorem dX12_cancel_6 : decode cX12_cancel 6 = .ok (.ifCond .ne 5, 3) := by decide +kernel
theorem dX12_cancel_9 : decode cX12_cancel 9 = .ok (.iconst (-1), 1) := by decide +kernel
theorem dX12_cancel_10 : decode cX12_cancel 10 = .ok (.ireturn, 1) := by decide +kernel
theorem dX12_through_0 : decode cX12_through 0 = .ok (.aload_n 0, 1) := by decide +kernel
theorem dX12_through_1 : decode cX12_through 1 = .ok (.iload_n 1, 1) := by decide +kernel
theorem dX12_through_2 : decode cX12_through 2 = .ok (.iload_n 2, 1) := by decide +kernel
theorem dX12_through_3 : decode cX12_through 3 = .ok (.invokevirtual 229, 3) := by decide +kernel
theorem dX12_through_6 : decode cX12_through 6 = .ok (.ifCond .eq 11, 3) := by decide +kernel
theorem dX12_through_17 : decode cX12_through 17 = .ok (.ldc2_w 236, 3) := by decide +kernel
theorem dX12_through_20 : decode cX12_through 20 = .ok (.lreturn, 1) := by decide +kernel
theorem dX12_squares_0 : decode cX12_squares 0 = .ok (.iconst 0, 1) := by decide +kernel
theorem dX12_squares_1 : decode cX12_squares 1 = .ok (.istore_n 1, 1) := by decide +kernel
theorem dX12_squares_2 : decode cX12_squares 2 = .ok (.iconst 0, 1) := by decide +kernel
theorem dX12_squares_3 : decode cX12_squares 3 = .ok (.istore_n 2, 1) := by decide +kernel
theorem dX12_squares_4 : decode cX12_squares 4 = .ok (.iload_n 2, 1) := by decide +kernel
theorem dX12_squares_5 : decode cX12_squares 5 = .ok (.aload_n 0, 1) := by decide +kernel
theorem dX12_squares_6 : decode cX12_squares 6 = .ok (.getfield 139, 3) := by decide +kernel
theorem dX12_squares_9 : decode cX12_squares 9 = .ok (.if_icmp .ge 78, 3) := by decide +kernel
theorem dX12_squares_87 : decode cX12_squares 87 = .ok (.iload_n 1, 1) := by decide +kernel
theorem dX12_squares_88 : decode cX12_squares 88 = .ok (.ireturn, 1) := by decide +kernel
theorem dX12_chain_0 : decode cX12_chain 0 = .ok (.aload_n 0, 1) := by decide +kernel
theorem dX12_chain_1 : decode cX12_chain 1 = .ok (.iload_n 1, 1) := by decide +kernel
theorem dX12_chain_2 : decode cX12_chain 2 = .ok (.invokevirtual 159, 3) := by decide +kernel
theorem dX12_chain_5 : decode cX12_chain 5 = .ok (.ifCond .eq 24, 3) := by decide +kernel
theorem dX12_chain_29 : decode cX12_chain 29 = .ok (.ldc2_w 241, 3) := by decide +kernel
theorem dX12_chain_32 : decode cX12_chain 32 = .ok (.lreturn, 1) := by decide +kernel
theorem dX12_root_0 : decode cX12_root 0 = .ok (.aload_n 0, 1) := by decide +kernel
theorem dX12_root_1 : decode cX12_root 1 = .ok (.iload_n 1, 1) := by decide +kernel
theorem dX12_root_2 : decode cX12_root 2 = .ok (.invokevirtual 156, 3) := by decide +kernel
theorem dX12_root_5 : decode cX12_root 5 = .ok (.ifCond .eq 20, 3) := by decide +kernel
theorem dX12_root_25 : decode cX12_root 25 = .ok (.iconst (-1), 1) := by decide +kernel
theorem dX12_root_26 : decode cX12_root 26 = .ok (.ireturn, 1) := by decide +kernel
theorem dX12_collapse_0 : decode cX12_collapse 0 = .ok (.aload_n 0, 1) := by decide +kernel
theorem dX12_collapse_1 : decode cX12_collapse 1 = .ok (.iload_n 1, 1) := by decide +kernel
theorem dX12_collapse_2 : decode cX12_collapse 2 = .ok (.invokevirtual 156, 3) := by decide +kernel
theorem dX12_collapse_5 : decode cX12_collapse 5 = .ok (.ifCond .ne 5, 3) := by decide +kernel
theorem dX12_collapse_8 : decode cX12_collapse 8 = .ok (.iconst (-1), 1) := by decide +kernel
theorem dX12_collapse_9 : decode cX12_collapse 9 = .ok (.ireturn, 1) := by decide +kernel
theorem dX12_thereMany_0 : decode cX12_thereMany 0 = .ok (.iconst 0, 1) := by decide +kernel
theorem dX12_thereMany_1 : decode cX12_thereMany 1 = .ok (.istore_n 1, 1) := by decide +kernel
theorem dX12_thereMany_2 : decode cX12_thereMany 2 = .ok (.iconst 0, 1) := by decide +kernel
theorem dX12_thereMany_3 : decode cX12_thereMany 3 = .ok (.istore_n 2, 1) := by decide +kernel
theorem dX12_thereMany_4 : decode cX12_thereMany 4 = .ok (.iload_n 2, 1) := by decide +kernel
theorem dX12_thereMany_5 : decode cX12_thereMany 5 = .ok (.aload_n 0, 1) := by decide +kernel
theorem dX12_thereMany_6 : decode cX12_thereMany 6 = .ok (.getfield 139, 3) := by decide +kernel
theorem dX12_thereMany_9 : decode cX12_thereMany 9 = .ok (.if_icmp .ge 29, 3) := by decide +kernel
theorem dX12_thereMany_38 : decode cX12_thereMany 38 = .ok (.iload_n 1, 1) := by decide +kernel
theorem dX12_thereMany_39 : decode cX12_thereMany 39 = .ok (.ireturn, 1) := by decide +kernel
theorem dX12_free_0 : decode cX12_free 0 = .ok (.iload_n 1, 1) := by decide +kernel
theorem dX12_free_1 : decode cX12_free 1 = .ok (.iconst (-1), 1) := by decide +kernel
theorem dX12_free_2 : decode cX12_free 2 = .ok (.if_icmp .ge 5, 3) := by decide +kernel
theorem dX12_free_5 : decode cX12_free 5 = .ok (.iconst (-1), 1) := by decide +kernel
theorem dX12_free_6 : decode cX12_free 6 = .ok (.ireturn, 1) := by decide +kernel
theorem dX12_free_7 : decode cX12_free 7 = .ok (.iconst 0, 1) := by decide +kernel
theorem dX12_free_8 : decode cX12_free 8 = .ok (.istore_n 2, 1) := by decide +kernel
theorem dX12_free_9 : decode cX12_free 9 = .ok (.iconst 0, 1) := by decide +kernel
theorem dX12_free_10 : decode cX12_free 10 = .ok (.istore_n 3, 1) := by decide +kernel
theorem dX12_free_11 : decode cX12_free 11 = .ok (.iload_n 3, 1) := by decide +kernel
theorem dX12_free_12 : decode cX12_free 12 = .ok (.aload_n 0, 1) := by decide +kernel
theorem dX12_free_13 : decode cX12_free 13 = .ok (.getfield 139, 3) := by decide +kernel
theorem dX12_free_16 : decode cX12_free 16 = .ok (.if_icmp .ge 27, 3) := by decide +kernel
theorem dX12_free_43 : decode cX12_free 43 = .ok (.iload_n 1, 1) := by decide +kernel
theorem dX12_free_44 : decode cX12_free 44 = .ok (.iconst (-1), 1) := by decide +kernel
theorem dX12_free_45 : decode cX12_free 45 = .ok (.if_icmp .ne 7, 3) := by decide +kernel
theorem dX12_free_48 : decode cX12_free 48 = .ok (.iload_n 2, 1) := by decide +kernel
theorem dX12_free_49 : decode cX12_free 49 = .ok (.goto 5, 3) := by decide +kernel
theorem dX12_free_52 : decode cX12_free 52 = .ok (.bipush (-2), 2) := by decide +kernel
theorem dX12_free_54 : decode cX12_free 54 = .ok (.ireturn, 1) := by decide +kernel
theorem dX12_facet_0 : decode cX12_facet 0 = .ok (.iload_n 1, 1) := by decide +kernel
theorem dX12_facet_1 : decode cX12_facet 1 = .ok (.iconst (-1), 1) := by decide +kernel
theorem dX12_facet_2 : decode cX12_facet 2 = .ok (.if_icmp .ge 5, 3) := by decide +kernel
theorem dX12_facet_5 : decode cX12_facet 5 = .ok (.iconst (-1), 1) := by decide +kernel
theorem dX12_facet_6 : decode cX12_facet 6 = .ok (.ireturn, 1) := by decide +kernel
theorem dX12_facet_7 : decode cX12_facet 7 = .ok (.iconst 0, 1) := by decide +kernel
theorem dX12_facet_8 : decode cX12_facet 8 = .ok (.istore_n 2, 1) := by decide +kernel
theorem dX12_facet_9 : decode cX12_facet 9 = .ok (.iconst 0, 1) := by decide +kernel
theorem dX12_facet_10 : decode cX12_facet 10 = .ok (.istore_n 3, 1) := by decide +kernel
theorem dX12_facet_11 : decode cX12_facet 11 = .ok (.iload_n 3, 1) := by decide +kernel
theorem dX12_facet_12 : decode cX12_facet 12 = .ok (.aload_n 0, 1) := by decide +kernel
theorem dX12_facet_13 : decode cX12_facet 13 = .ok (.getfield 139, 3) := by decide +kernel
theorem dX12_facet_16 : decode cX12_facet 16 = .ok (.if_icmp .ge 35, 3) := by decide +kernel
theorem dX12_facet_51 : decode cX12_facet 51 = .ok (.iload_n 1, 1) := by decide +kernel
theorem dX12_facet_52 : decode cX12_facet 52 = .ok (.iconst (-1), 1) := by decide +kernel
theorem dX12_facet_53 : decode cX12_facet 53 = .ok (.if_icmp .ne 7, 3) := by decide +kernel
theorem dX12_facet_56 : decode cX12_facet 56 = .ok (.iload_n 2, 1) := by decide +kernel
theorem dX12_facet_57 : decode cX12_facet 57 = .ok (.goto 5, 3) := by decide +kernel
theorem dX12_facet_60 : decode cX12_facet 60 = .ok (.bipush (-2), 2) := by decide +kernel
theorem dX12_facet_62 : decode cX12_facet 62 = .ok (.ireturn, 1) := by decide +kernel
theorem dX12_critical_0 : decode cX12_critical 0 = .ok (.iload_n 1, 1) := by decide +kernel
theorem dX12_critical_1 : decode cX12_critical 1 = .ok (.iconst 0, 1) := by decide +kernel
theorem dX12_critical_2 : decode cX12_critical 2 = .ok (.iconst 4, 1) := by decide +kernel
theorem dX12_critical_3 : decode cX12_critical 3 = .ok (.invokestatic 101, 3) := by decide +kernel
theorem dX12_critical_6 : decode cX12_critical 6 = .ok (.ifCond .eq 8, 3) := by decide +kernel
theorem dX12_critical_9 : decode cX12_critical 9 = .ok (.iload_n 2, 1) := by decide +kernel
theorem dX12_critical_10 : decode cX12_critical 10 = .ok (.iconst (-1), 1) := by decide +kernel
theorem dX12_critical_11 : decode cX12_critical 11 = .ok (.if_icmp .ge 5, 3) := by decide +kernel
theorem dX12_critical_14 : decode cX12_critical 14 = .ok (.iconst (-1), 1) := by decide +kernel
theorem dX12_critical_15 : decode cX12_critical 15 = .ok (.ireturn, 1) := by decide +kernel
theorem dX12_critical_16 : decode cX12_critical 16 = .ok (.iconst 0, 1) := by decide +kernel
theorem dX12_critical_17 : decode cX12_critical 17 = .ok (.istore_n 3, 1) := by decide +kernel
theorem dX12_critical_18 : decode cX12_critical 18 = .ok (.iconst 0, 1) := by decide +kernel
theorem dX12_critical_19 : decode cX12_critical 19 = .ok (.istore 4, 2) := by decide +kernel
theorem dX12_critical_21 : decode cX12_critical 21 = .ok (.iload 4, 2) := by decide +kernel
theorem dX12_critical_23 : decode cX12_critical 23 = .ok (.aload_n 0, 1) := by decide +kernel
theorem dX12_critical_24 : decode cX12_critical 24 = .ok (.getfield 139, 3) := by decide +kernel
theorem dX12_critical_27 : decode cX12_critical 27 = .ok (.if_icmp .ge 39, 3) := by decide +kernel
theorem dX12_critical_66 : decode cX12_critical 66 = .ok (.iload_n 2, 1) := by decide +kernel
theorem dX12_critical_67 : decode cX12_critical 67 = .ok (.iconst (-1), 1) := by decide +kernel
theorem dX12_critical_68 : decode cX12_critical 68 = .ok (.if_icmp .ne 7, 3) := by decide +kernel
theorem dX12_critical_71 : decode cX12_critical 71 = .ok (.iload_n 3, 1) := by decide +kernel
theorem dX12_critical_72 : decode cX12_critical 72 = .ok (.goto 5, 3) := by decide +kernel
theorem dX12_critical_75 : decode cX12_critical 75 = .ok (.bipush (-2), 2) := by decide +kernel
theorem dX12_critical_77 : decode cX12_critical 77 = .ok (.ireturn, 1) := by decide +kernel
theorem dX12_takes_0 : decode cX12_takes 0 = .ok (.iconst 0, 1) := by decide +kernel
theorem dX12_takes_1 : decode cX12_takes 1 = .ok (.istore_n 2, 1) := by decide +kernel
theorem dX12_takes_2 : decode cX12_takes 2 = .ok (.iload_n 2, 1) := by decide +kernel
theorem dX12_takes_3 : decode cX12_takes 3 = .ok (.aload_n 0, 1) := by decide +kernel
theorem dX12_takes_4 : decode cX12_takes 4 = .ok (.getfield 139, 3) := by decide +kernel
theorem dX12_takes_7 : decode cX12_takes 7 = .ok (.if_icmp .ge 41, 3) := by decide +kernel
theorem dX12_takes_48 : decode cX12_takes 48 = .ok (.return_, 1) := by decide +kernel
theorem dX12_takenOf_0 : decode cX12_takenOf 0 = .ok (.iconst 0, 1) := by decide +kernel
theorem dX12_takenOf_1 : decode cX12_takenOf 1 = .ok (.istore_n 2, 1) := by decide +kernel
theorem dX12_takenOf_2 : decode cX12_takenOf 2 = .ok (.iconst 0, 1) := by decide +kernel
theorem dX12_takenOf_3 : decode cX12_takenOf 3 = .ok (.istore_n 3, 1) := by decide +kernel
theorem dX12_takenOf_4 : decode cX12_takenOf 4 = .ok (.iload_n 3, 1) := by decide +kernel
theorem dX12_takenOf_5 : decode cX12_takenOf 5 = .ok (.aload_n 0, 1) := by decide +kernel
theorem dX12_takenOf_6 : decode cX12_takenOf 6 = .ok (.getfield 139, 3) := by decide +kernel
theorem dX12_takenOf_9 : decode cX12_takenOf 9 = .ok (.if_icmp .ge 38, 3) := by decide +kernel
theorem dX12_takenOf_47 : decode cX12_takenOf 47 = .ok (.iload_n 2, 1) := by decide +kernel
theorem dX12_takenOf_48 : decode cX12_takenOf 48 = .ok (.ireturn, 1) := by decide +kernel
theorem dX12_laysTable_0 : decode cX12_laysTable 0 = .ok (.aload_n 0, 1) := by decide +kernel
theorem dX12_laysTable_1 : decode cX12_laysTable 1 = .ok (.aload_n 0, 1) := by decide +kernel
theorem dX12_laysTable_2 : decode cX12_laysTable 2 = .ok (.iload_n 1, 1) := by decide +kernel
theorem dX12_laysTable_3 : decode cX12_laysTable 3 = .ok (.invokevirtual 271, 3) := by decide +kernel
theorem dX12_laysTable_6 : decode cX12_laysTable 6 = .ok (.putfield 274, 3) := by decide +kernel
theorem dX12_laysTable_9 : decode cX12_laysTable 9 = .ok (.aload_n 0, 1) := by decide +kernel
theorem dX12_laysTable_10 : decode cX12_laysTable 10 = .ok (.aload_n 0, 1) := by decide +kernel
theorem dX12_laysTable_11 : decode cX12_laysTable 11 = .ok (.iload_n 1, 1) := by decide +kernel
theorem dX12_laysTable_12 : decode cX12_laysTable 12 = .ok (.iconst 1, 1) := by decide +kernel
theorem dX12_laysTable_13 : decode cX12_laysTable 13 = .ok (.isub, 1) := by decide +kernel
theorem dX12_laysTable_14 : decode cX12_laysTable 14 = .ok (.invokevirtual 271, 3) := by decide +kernel
theorem dX12_laysTable_17 : decode cX12_laysTable 17 = .ok (.putfield 277, 3) := by decide +kernel
theorem dX12_laysTable_20 : decode cX12_laysTable 20 = .ok (.iconst 0, 1) := by decide +kernel
theorem dX12_laysTable_21 : decode cX12_laysTable 21 = .ok (.istore_n 3, 1) := by decide +kernel
theorem dX12_laysTable_22 : decode cX12_laysTable 22 = .ok (.iconst 0, 1) := by decide +kernel
theorem dX12_laysTable_23 : decode cX12_laysTable 23 = .ok (.istore 4, 2) := by decide +kernel
theorem dX12_laysTable_25 : decode cX12_laysTable 25 = .ok (.iload 4, 2) := by decide +kernel
theorem dX12_laysTable_27 : decode cX12_laysTable 27 = .ok (.aload_n 0, 1) := by decide +kernel
theorem dX12_laysTable_28 : decode cX12_laysTable 28 = .ok (.getfield 139, 3) := by decide +kernel
theorem dX12_laysTable_31 : decode cX12_laysTable 31 = .ok (.if_icmp .ge 133, 3) := by decide +kernel
theorem dX12_laysTable_164 : decode cX12_laysTable 164 = .ok (.return_, 1) := by decide +kernel
theorem dX12_laysSteps_0 : decode cX12_laysSteps 0 = .ok (.iconst 0, 1) := by decide +kernel
theorem dX12_laysSteps_1 : decode cX12_laysSteps 1 = .ok (.istore_n 1, 1) := by decide +kernel
theorem dX12_laysSteps_2 : decode cX12_laysSteps 2 = .ok (.iload_n 1, 1) := by decide +kernel
theorem dX12_laysSteps_3 : decode cX12_laysSteps 3 = .ok (.aload_n 0, 1) := by decide +kernel
theorem dX12_laysSteps_4 : decode cX12_laysSteps 4 = .ok (.getfield 274, 3) := by decide +kernel
theorem dX12_laysSteps_7 : decode cX12_laysSteps 7 = .ok (.if_icmp .ge 72, 3) := by decide +kernel
theorem dX12_laysSteps_79 : decode cX12_laysSteps 79 = .ok (.iload_n 1, 1) := by decide +kernel
theorem dX12_laysSteps_80 : decode cX12_laysSteps 80 = .ok (.ireturn, 1) := by decide +kernel
theorem dX12_rankOf_0 : decode cX12_rankOf 0 = .ok (.iload_n 1, 1) := by decide +kernel
theorem dX12_rankOf_1 : decode cX12_rankOf 1 = .ok (.iconst 1, 1) := by decide +kernel
theorem dX12_rankOf_2 : decode cX12_rankOf 2 = .ok (.iconst 4, 1) := by decide +kernel
theorem dX12_rankOf_3 : decode cX12_rankOf 3 = .ok (.invokestatic 101, 3) := by decide +kernel
theorem dX12_rankOf_6 : decode cX12_rankOf 6 = .ok (.ifCond .ne 5, 3) := by decide +kernel
theorem dX12_rankOf_9 : decode cX12_rankOf 9 = .ok (.iconst 0, 1) := by decide +kernel
theorem dX12_rankOf_10 : decode cX12_rankOf 10 = .ok (.ireturn, 1) := by decide +kernel
theorem dX12_rankOf_11 : decode cX12_rankOf 11 = .ok (.aload_n 0, 1) := by decide +kernel
theorem dX12_rankOf_12 : decode cX12_rankOf 12 = .ok (.iload_n 1, 1) := by decide +kernel
theorem dX12_rankOf_13 : decode cX12_rankOf 13 = .ok (.iload_n 2, 1) := by decide +kernel
theorem dX12_rankOf_14 : decode cX12_rankOf 14 = .ok (.invokevirtual 311, 3) := by decide +kernel
theorem dX12_rankOf_17 : decode cX12_rankOf 17 = .ok (.aload_n 0, 1) := by decide +kernel
theorem dX12_rankOf_18 : decode cX12_rankOf 18 = .ok (.invokevirtual 314, 3) := by decide +kernel
theorem dX12_rankOf_21 : decode cX12_rankOf 21 = .ok (.ireturn, 1) := by decide +kernel
theorem dX12_bettiTaken_0 : decode cX12_bettiTaken 0 = .ok (.aload_n 0, 1) := by decide +kernel
theorem dX12_bettiTaken_1 : decode cX12_bettiTaken 1 = .ok (.iload_n 1, 1) := by decide +kernel
theorem dX12_bettiTaken_2 : decode cX12_bettiTaken 2 = .ok (.invokevirtual 271, 3) := by decide +kernel
theorem dX12_bettiTaken_5 : decode cX12_bettiTaken 5 = .ok (.aload_n 0, 1) := by decide +kernel
theorem dX12_bettiTaken_6 : decode cX12_bettiTaken 6 = .ok (.iload_n 1, 1) := by decide +kernel
theorem dX12_bettiTaken_7 : decode cX12_bettiTaken 7 = .ok (.iload_n 2, 1) := by decide +kernel
theorem dX12_bettiTaken_8 : decode cX12_bettiTaken 8 = .ok (.invokevirtual 317, 3) := by decide +kernel
theorem dX12_bettiTaken_11 : decode cX12_bettiTaken 11 = .ok (.isub, 1) := by decide +kernel
theorem dX12_bettiTaken_12 : decode cX12_bettiTaken 12 = .ok (.aload_n 0, 1) := by decide +kernel
theorem dX12_bettiTaken_13 : decode cX12_bettiTaken 13 = .ok (.iload_n 1, 1) := by decide +kernel
theorem dX12_bettiTaken_14 : decode cX12_bettiTaken 14 = .ok (.iconst 1, 1) := by decide +kernel
theorem dX12_bettiTaken_15 : decode cX12_bettiTaken 15 = .ok (.iadd, 1) := by decide +kernel
theorem dX12_bettiTaken_16 : decode cX12_bettiTaken 16 = .ok (.iload_n 2, 1) := by decide +kernel
theorem dX12_bettiTaken_17 : decode cX12_bettiTaken 17 = .ok (.invokevirtual 317, 3) := by decide +kernel
theorem dX12_bettiTaken_20 : decode cX12_bettiTaken 20 = .ok (.isub, 1) := by decide +kernel
theorem dX12_bettiTaken_21 : decode cX12_bettiTaken 21 = .ok (.ireturn, 1) := by decide +kernel
theorem dX12_betti_0 : decode cX12_betti 0 = .ok (.iload_n 1, 1) := by decide +kernel
theorem dX12_betti_1 : decode cX12_betti 1 = .ok (.iconst 0, 1) := by decide +kernel
theorem dX12_betti_2 : decode cX12_betti 2 = .ok (.iconst 4, 1) := by decide +kernel
theorem dX12_betti_3 : decode cX12_betti 3 = .ok (.invokestatic 101, 3) := by decide +kernel
theorem dX12_betti_6 : decode cX12_betti 6 = .ok (.ifCond .eq 12, 3) := by decide +kernel
theorem dX12_betti_9 : decode cX12_betti 9 = .ok (.iload_n 2, 1) := by decide +kernel
theorem dX12_betti_10 : decode cX12_betti 10 = .ok (.iconst 0, 1) := by decide +kernel
theorem dX12_betti_11 : decode cX12_betti 11 = .ok (.iconst 1, 1) := by decide +kernel
theorem dX12_betti_12 : decode cX12_betti 12 = .ok (.invokestatic 101, 3) := by decide +kernel
theorem dX12_betti_15 : decode cX12_betti 15 = .ok (.ifCond .ne 5, 3) := by decide +kernel
theorem dX12_betti_18 : decode cX12_betti 18 = .ok (.iconst (-1), 1) := by decide +kernel
theorem dX12_betti_19 : decode cX12_betti 19 = .ok (.ireturn, 1) := by decide +kernel
theorem dX12_betti_20 : decode cX12_betti 20 = .ok (.aload_n 0, 1) := by decide +kernel
theorem dX12_betti_21 : decode cX12_betti 21 = .ok (.iload_n 2, 1) := by decide +kernel
theorem dX12_betti_22 : decode cX12_betti 22 = .ok (.invokevirtual 320, 3) := by decide +kernel
theorem dX12_betti_25 : decode cX12_betti 25 = .ok (.aload_n 0, 1) := by decide +kernel
theorem dX12_betti_26 : decode cX12_betti 26 = .ok (.iload_n 1, 1) := by decide +kernel
theorem dX12_betti_27 : decode cX12_betti 27 = .ok (.iload_n 2, 1) := by decide +kernel
theorem dX12_betti_28 : decode cX12_betti 28 = .ok (.invokevirtual 323, 3) := by decide +kernel
theorem dX12_betti_31 : decode cX12_betti 31 = .ok (.ireturn, 1) := by decide +kernel
theorem dX12_torsion_0 : decode cX12_torsion 0 = .ok (.iload_n 1, 1) := by decide +kernel
theorem dX12_torsion_1 : decode cX12_torsion 1 = .ok (.iconst 0, 1) := by decide +kernel
theorem dX12_torsion_2 : decode cX12_torsion 2 = .ok (.iconst 4, 1) := by decide +kernel
theorem dX12_torsion_3 : decode cX12_torsion 3 = .ok (.invokestatic 101, 3) := by decide +kernel
theorem dX12_torsion_6 : decode cX12_torsion 6 = .ok (.ifCond .eq 17, 3) := by decide +kernel
theorem dX12_torsion_9 : decode cX12_torsion 9 = .ok (.iload_n 3, 1) := by decide +kernel
theorem dX12_torsion_10 : decode cX12_torsion 10 = .ok (.iconst 0, 1) := by decide +kernel
theorem dX12_torsion_11 : decode cX12_torsion 11 = .ok (.iconst 1, 1) := by decide +kernel
theorem dX12_torsion_12 : decode cX12_torsion 12 = .ok (.invokestatic 101, 3) := by decide +kernel
theorem dX12_torsion_15 : decode cX12_torsion 15 = .ok (.ifCond .eq 8, 3) := by decide +kernel
theorem dX12_torsion_18 : decode cX12_torsion 18 = .ok (.iload_n 2, 1) := by decide +kernel
theorem dX12_torsion_19 : decode cX12_torsion 19 = .ok (.iconst (-1), 1) := by decide +kernel
theorem dX12_torsion_20 : decode cX12_torsion 20 = .ok (.if_icmp .ge 7, 3) := by decide +kernel
theorem dX12_torsion_23 : decode cX12_torsion 23 = .ok (.ldc2_w 236, 3) := by decide +kernel
theorem dX12_torsion_26 : decode cX12_torsion 26 = .ok (.lreturn, 1) := by decide +kernel
theorem dX12_torsion_27 : decode cX12_torsion 27 = .ok (.aload_n 0, 1) := by decide +kernel
theorem dX12_torsion_28 : decode cX12_torsion 28 = .ok (.iload_n 3, 1) := by decide +kernel
theorem dX12_torsion_29 : decode cX12_torsion 29 = .ok (.invokevirtual 320, 3) := by decide +kernel
theorem dX12_torsion_32 : decode cX12_torsion 32 = .ok (.aload_n 0, 1) := by decide +kernel
theorem dX12_torsion_33 : decode cX12_torsion 33 = .ok (.iload_n 1, 1) := by decide +kernel
theorem dX12_torsion_34 : decode cX12_torsion 34 = .ok (.iconst 1, 1) := by decide +kernel
theorem dX12_torsion_35 : decode cX12_torsion 35 = .ok (.iadd, 1) := by decide +kernel
theorem dX12_torsion_36 : decode cX12_torsion 36 = .ok (.iload_n 3, 1) := by decide +kernel
theorem dX12_torsion_37 : decode cX12_torsion 37 = .ok (.invokevirtual 317, 3) := by decide +kernel
theorem dX12_torsion_40 : decode cX12_torsion 40 = .ok (.istore 4, 2) := by decide +kernel
theorem dX12_torsion_42 : decode cX12_torsion 42 = .ok (.iconst 0, 1) := by decide +kernel
theorem dX12_torsion_43 : decode cX12_torsion 43 = .ok (.istore 5, 2) := by decide +kernel
theorem dX12_torsion_45 : decode cX12_torsion 45 = .ok (.iconst 0, 1) := by decide +kernel
theorem dX12_torsion_46 : decode cX12_torsion 46 = .ok (.istore 6, 2) := by decide +kernel
theorem dX12_torsion_48 : decode cX12_torsion 48 = .ok (.iload 6, 2) := by decide +kernel
theorem dX12_torsion_50 : decode cX12_torsion 50 = .ok (.iload 4, 2) := by decide +kernel
theorem dX12_torsion_52 : decode cX12_torsion 52 = .ok (.if_icmp .ge 38, 3) := by decide +kernel
theorem dX12_torsion_90 : decode cX12_torsion 90 = .ok (.iload_n 2, 1) := by decide +kernel
theorem dX12_torsion_91 : decode cX12_torsion 91 = .ok (.iconst (-1), 1) := by decide +kernel
theorem dX12_torsion_92 : decode cX12_torsion 92 = .ok (.if_icmp .ne 9, 3) := by decide +kernel
theorem dX12_torsion_95 : decode cX12_torsion 95 = .ok (.iload 5, 2) := by decide +kernel
theorem dX12_torsion_97 : decode cX12_torsion 97 = .ok (.i2l, 1) := by decide +kernel
theorem dX12_torsion_98 : decode cX12_torsion 98 = .ok (.goto 6, 3) := by decide +kernel
theorem dX12_torsion_101 : decode cX12_torsion 101 = .ok (.ldc2_w 326, 3) := by decide +kernel
theorem dX12_torsion_104 : decode cX12_torsion 104 = .ok (.lreturn, 1) := by decide +kernel
theorem dX12_slack_0 : decode cX12_slack 0 = .ok (.iload_n 1, 1) := by decide +kernel
theorem dX12_slack_1 : decode cX12_slack 1 = .ok (.iconst 0, 1) := by decide +kernel
theorem dX12_slack_2 : decode cX12_slack 2 = .ok (.iconst 4, 1) := by decide +kernel
theorem dX12_slack_3 : decode cX12_slack 3 = .ok (.invokestatic 101, 3) := by decide +kernel
theorem dX12_slack_6 : decode cX12_slack 6 = .ok (.ifCond .ne 6, 3) := by decide +kernel
theorem dX12_slack_9 : decode cX12_slack 9 = .ok (.ldc 165, 2) := by decide +kernel
theorem dX12_slack_11 : decode cX12_slack 11 = .ok (.ireturn, 1) := by decide +kernel
theorem dX12_slack_12 : decode cX12_slack 12 = .ok (.iconst 0, 1) := by decide +kernel
theorem dX12_slack_13 : decode cX12_slack 13 = .ok (.istore_n 2, 1) := by decide +kernel
theorem dX12_slack_14 : decode cX12_slack 14 = .ok (.iconst 0, 1) := by decide +kernel
theorem dX12_slack_15 : decode cX12_slack 15 = .ok (.istore_n 3, 1) := by decide +kernel
theorem dX12_slack_16 : decode cX12_slack 16 = .ok (.iload_n 3, 1) := by decide +kernel
theorem dX12_slack_17 : decode cX12_slack 17 = .ok (.iload_n 1, 1) := by decide +kernel
theorem dX12_slack_18 : decode cX12_slack 18 = .ok (.if_icmp .gt 25, 3) := by decide +kernel
theorem dX12_slack_21 : decode cX12_slack 21 = .ok (.aload_n 0, 1) := by decide +kernel
theorem dX12_slack_22 : decode cX12_slack 22 = .ok (.iload_n 3, 1) := by decide +kernel
theorem dX12_slack_23 : decode cX12_slack 23 = .ok (.iconst (-1), 1) := by decide +kernel
theorem dX12_slack_24 : decode cX12_slack 24 = .ok (.invokevirtual 328, 3) := by decide +kernel
theorem dX12_slack_27 : decode cX12_slack 27 = .ok (.aload_n 0, 1) := by decide +kernel
theorem dX12_slack_28 : decode cX12_slack 28 = .ok (.iload_n 3, 1) := by decide +kernel
theorem dX12_slack_29 : decode cX12_slack 29 = .ok (.iconst 0, 1) := by decide +kernel
theorem dX12_slack_30 : decode cX12_slack 30 = .ok (.invokevirtual 331, 3) := by decide +kernel
theorem dX12_slack_33 : decode cX12_slack 33 = .ok (.isub, 1) := by decide +kernel
theorem dX12_slack_34 : decode cX12_slack 34 = .ok (.iload_n 2, 1) := by decide +kernel
theorem dX12_slack_35 : decode cX12_slack 35 = .ok (.isub, 1) := by decide +kernel
theorem dX12_slack_36 : decode cX12_slack 36 = .ok (.istore_n 2, 1) := by decide +kernel
theorem dX12_slack_37 : decode cX12_slack 37 = .ok (.iinc 3 1, 3) := by decide +kernel
theorem dX12_slack_40 : decode cX12_slack 40 = .ok (.goto (-24), 3) := by decide +kernel
theorem dX12_slack_43 : decode cX12_slack 43 = .ok (.iload_n 2, 1) := by decide +kernel
theorem dX12_slack_44 : decode cX12_slack 44 = .ok (.ireturn, 1) := by decide +kernel
theorem dX12_level_0 : decode cX12_level 0 = .ok (.iload_n 1, 1) := by decide +kernel
theorem dX12_level_1 : decode cX12_level 1 = .ok (.ifCond .lt 12, 3) := by decide +kernel
theorem dX12_level_4 : decode cX12_level 4 = .ok (.iload_n 2, 1) := by decide +kernel
theorem dX12_level_5 : decode cX12_level 5 = .ok (.iconst 0, 1) := by decide +kernel
theorem dX12_level_6 : decode cX12_level 6 = .ok (.iconst 1, 1) := by decide +kernel
theorem dX12_level_7 : decode cX12_level 7 = .ok (.invokestatic 101, 3) := by decide +kernel
theorem dX12_level_10 : decode cX12_level 10 = .ok (.ifCond .ne 5, 3) := by decide +kernel
theorem dX12_level_13 : decode cX12_level 13 = .ok (.iconst (-1), 1) := by decide +kernel
theorem dX12_level_14 : decode cX12_level 14 = .ok (.ireturn, 1) := by decide +kernel
theorem dX12_level_15 : decode cX12_level 15 = .ok (.aload_n 0, 1) := by decide +kernel
theorem dX12_level_16 : decode cX12_level 16 = .ok (.invokevirtual 173, 3) := by decide +kernel
theorem dX12_level_19 : decode cX12_level 19 = .ok (.iconst 0, 1) := by decide +kernel
theorem dX12_level_20 : decode cX12_level 20 = .ok (.istore_n 3, 1) := by decide +kernel
theorem dX12_level_21 : decode cX12_level 21 = .ok (.iconst 0, 1) := by decide +kernel
theorem dX12_level_22 : decode cX12_level 22 = .ok (.istore 4, 2) := by decide +kernel
theorem dX12_level_24 : decode cX12_level 24 = .ok (.iload 4, 2) := by decide +kernel
theorem dX12_level_26 : decode cX12_level 26 = .ok (.aload_n 0, 1) := by decide +kernel
theorem dX12_level_27 : decode cX12_level 27 = .ok (.getfield 139, 3) := by decide +kernel
theorem dX12_level_30 : decode cX12_level 30 = .ok (.if_icmp .ge 46, 3) := by decide +kernel
theorem dX12_level_76 : decode cX12_level 76 = .ok (.iload_n 3, 1) := by decide +kernel
theorem dX12_level_77 : decode cX12_level 77 = .ok (.ireturn, 1) := by decide +kernel
theorem dX12_levelBetti_0 : decode cX12_levelBetti 0 = .ok (.iload_n 1, 1) := by decide +kernel
theorem dX12_levelBetti_1 : decode cX12_levelBetti 1 = .ok (.ifCond .lt 12, 3) := by decide +kernel
theorem dX12_levelBetti_4 : decode cX12_levelBetti 4 = .ok (.iload_n 2, 1) := by decide +kernel
theorem dX12_levelBetti_5 : decode cX12_levelBetti 5 = .ok (.iconst 0, 1) := by decide +kernel
theorem dX12_levelBetti_6 : decode cX12_levelBetti 6 = .ok (.iconst 4, 1) := by decide +kernel
theorem dX12_levelBetti_7 : decode cX12_levelBetti 7 = .ok (.invokestatic 101, 3) := by decide +kernel
theorem dX12_levelBetti_10 : decode cX12_levelBetti 10 = .ok (.ifCond .ne 5, 3) := by decide +kernel
theorem dX12_levelBetti_13 : decode cX12_levelBetti 13 = .ok (.iconst (-1), 1) := by decide +kernel
theorem dX12_levelBetti_14 : decode cX12_levelBetti 14 = .ok (.ireturn, 1) := by decide +kernel
theorem dX12_levelBetti_15 : decode cX12_levelBetti 15 = .ok (.aload_n 0, 1) := by decide +kernel
theorem dX12_levelBetti_16 : decode cX12_levelBetti 16 = .ok (.invokevirtual 173, 3) := by decide +kernel
theorem dX12_levelBetti_19 : decode cX12_levelBetti 19 = .ok (.iconst 0, 1) := by decide +kernel
theorem dX12_levelBetti_20 : decode cX12_levelBetti 20 = .ok (.istore_n 3, 1) := by decide +kernel
theorem dX12_levelBetti_21 : decode cX12_levelBetti 21 = .ok (.iload_n 3, 1) := by decide +kernel
theorem dX12_levelBetti_22 : decode cX12_levelBetti 22 = .ok (.aload_n 0, 1) := by decide +kernel
theorem dX12_levelBetti_23 : decode cX12_levelBetti 23 = .ok (.getfield 139, 3) := by decide +kernel
theorem dX12_levelBetti_26 : decode cX12_levelBetti 26 = .ok (.if_icmp .ge 113, 3) := by decide +kernel
theorem dX12_levelBetti_139 : decode cX12_levelBetti 139 = .ok (.aload_n 0, 1) := by decide +kernel
theorem dX12_levelBetti_140 : decode cX12_levelBetti 140 = .ok (.iload_n 2, 1) := by decide +kernel
theorem dX12_levelBetti_141 : decode cX12_levelBetti 141 = .ok (.iconst 0, 1) := by decide +kernel
theorem dX12_levelBetti_142 : decode cX12_levelBetti 142 = .ok (.invokevirtual 323, 3) := by decide +kernel
theorem dX12_levelBetti_145 : decode cX12_levelBetti 145 = .ok (.ireturn, 1) := by decide +kernel
theorem dX12_link_0 : decode cX12_link 0 = .ok (.aload_n 0, 1) := by decide +kernel
theorem dX12_link_1 : decode cX12_link 1 = .ok (.iload_n 1, 1) := by decide +kernel
theorem dX12_link_2 : decode cX12_link 2 = .ok (.invokevirtual 156, 3) := by decide +kernel
theorem dX12_link_5 : decode cX12_link 5 = .ok (.ifCond .eq 12, 3) := by decide +kernel
theorem dX12_link_17 : decode cX12_link 17 = .ok (.ldc 165, 2) := by decide +kernel
theorem dX12_link_19 : decode cX12_link 19 = .ok (.ireturn, 1) := by decide +kernel
theorem dX12_room_0 : decode cX12_room 0 = .ok (.iload_n 1, 1) := by decide +kernel
theorem dX12_room_1 : decode cX12_room 1 = .ok (.iconst 0, 1) := by decide +kernel
theorem dX12_room_2 : decode cX12_room 2 = .ok (.iconst 4, 1) := by decide +kernel
theorem dX12_room_3 : decode cX12_room 3 = .ok (.invokestatic 101, 3) := by decide +kernel
theorem dX12_room_6 : decode cX12_room 6 = .ok (.ifCond .ne 5, 3) := by decide +kernel
theorem dX12_room_9 : decode cX12_room 9 = .ok (.iconst (-1), 1) := by decide +kernel
theorem dX12_room_10 : decode cX12_room 10 = .ok (.ireturn, 1) := by decide +kernel
theorem dX12_room_11 : decode cX12_room 11 = .ok (.iconst 0, 1) := by decide +kernel
theorem dX12_room_12 : decode cX12_room 12 = .ok (.istore_n 2, 1) := by decide +kernel
theorem dX12_room_13 : decode cX12_room 13 = .ok (.iconst 0, 1) := by decide +kernel
theorem dX12_room_14 : decode cX12_room 14 = .ok (.istore_n 3, 1) := by decide +kernel
theorem dX12_room_15 : decode cX12_room 15 = .ok (.iload_n 3, 1) := by decide +kernel
theorem dX12_room_16 : decode cX12_room 16 = .ok (.aload_n 0, 1) := by decide +kernel
theorem dX12_room_17 : decode cX12_room 17 = .ok (.getfield 139, 3) := by decide +kernel
theorem dX12_room_20 : decode cX12_room 20 = .ok (.if_icmp .ge 74, 3) := by decide +kernel
theorem dX12_room_94 : decode cX12_room 94 = .ok (.iload_n 2, 1) := by decide +kernel
theorem dX12_room_95 : decode cX12_room 95 = .ok (.ireturn, 1) := by decide +kernel
theorem dX12_partsMany_0 : decode cX12_partsMany 0 = .ok (.iconst 0, 1) := by decide +kernel
theorem dX12_partsMany_1 : decode cX12_partsMany 1 = .ok (.istore_n 1, 1) := by decide +kernel
theorem dX12_partsMany_2 : decode cX12_partsMany 2 = .ok (.iload_n 1, 1) := by decide +kernel
theorem dX12_partsMany_3 : decode cX12_partsMany 3 = .ok (.aload_n 0, 1) := by decide +kernel
theorem dX12_partsMany_4 : decode cX12_partsMany 4 = .ok (.getfield 139, 3) := by decide +kernel
theorem dX12_partsMany_7 : decode cX12_partsMany 7 = .ok (.if_icmp .ge 16, 3) := by decide +kernel
theorem dX12_partsMany_23 : decode cX12_partsMany 23 = .ok (.iconst 1, 1) := by decide +kernel
theorem dX12_partsMany_24 : decode cX12_partsMany 24 = .ok (.istore_n 1, 1) := by decide +kernel
theorem dX12_partsMany_25 : decode cX12_partsMany 25 = .ok (.iload_n 1, 1) := by decide +kernel
theorem dX12_partsMany_26 : decode cX12_partsMany 26 = .ok (.ifCond .eq 99, 3) := by decide +kernel
theorem dX12_partsMany_29 : decode cX12_partsMany 29 = .ok (.iconst 0, 1) := by decide +kernel
theorem dX12_partsMany_30 : decode cX12_partsMany 30 = .ok (.istore_n 1, 1) := by decide +kernel
theorem dX12_partsMany_31 : decode cX12_partsMany 31 = .ok (.iconst 0, 1) := by decide +kernel
theorem dX12_partsMany_32 : decode cX12_partsMany 32 = .ok (.istore_n 2, 1) := by decide +kernel
theorem dX12_partsMany_33 : decode cX12_partsMany 33 = .ok (.iload_n 2, 1) := by decide +kernel
theorem dX12_partsMany_34 : decode cX12_partsMany 34 = .ok (.aload_n 0, 1) := by decide +kernel
theorem dX12_partsMany_35 : decode cX12_partsMany 35 = .ok (.getfield 139, 3) := by decide +kernel
theorem dX12_partsMany_38 : decode cX12_partsMany 38 = .ok (.if_icmp .ge 84, 3) := by decide +kernel
theorem dX12_partsMany_122 : decode cX12_partsMany 122 = .ok (.goto (-97), 3) := by decide +kernel
theorem dX12_partsMany_125 : decode cX12_partsMany 125 = .ok (.iconst 0, 1) := by decide +kernel
theorem dX12_partsMany_126 : decode cX12_partsMany 126 = .ok (.istore_n 2, 1) := by decide +kernel
theorem dX12_partsMany_127 : decode cX12_partsMany 127 = .ok (.iconst 0, 1) := by decide +kernel
theorem dX12_partsMany_128 : decode cX12_partsMany 128 = .ok (.istore_n 3, 1) := by decide +kernel
theorem dX12_partsMany_129 : decode cX12_partsMany 129 = .ok (.iload_n 3, 1) := by decide +kernel
theorem dX12_partsMany_130 : decode cX12_partsMany 130 = .ok (.aload_n 0, 1) := by decide +kernel
theorem dX12_partsMany_131 : decode cX12_partsMany 131 = .ok (.getfield 139, 3) := by decide +kernel
theorem dX12_partsMany_134 : decode cX12_partsMany 134 = .ok (.if_icmp .ge 38, 3) := by decide +kernel
theorem dX12_partsMany_172 : decode cX12_partsMany 172 = .ok (.iload_n 2, 1) := by decide +kernel
theorem dX12_partsMany_173 : decode cX12_partsMany 173 = .ok (.ireturn, 1) := by decide +kernel
theorem dX12_draws_0 : decode cX12_draws 0 = .ok (.iload_n 1, 1) := by decide +kernel
theorem dX12_draws_1 : decode cX12_draws 1 = .ok (.ifCond .ge 5, 3) := by decide +kernel
theorem dX12_draws_4 : decode cX12_draws 4 = .ok (.iconst (-1), 1) := by decide +kernel
theorem dX12_draws_5 : decode cX12_draws 5 = .ok (.ireturn, 1) := by decide +kernel
theorem dX12_draws_6 : decode cX12_draws 6 = .ok (.aload_n 0, 1) := by decide +kernel
theorem dX12_draws_7 : decode cX12_draws 7 = .ok (.getfield 340, 3) := by decide +kernel
theorem dX12_draws_10 : decode cX12_draws 10 = .ok (.istore_n 2, 1) := by decide +kernel
theorem dX12_draws_11 : decode cX12_draws 11 = .ok (.aload_n 0, 1) := by decide +kernel
theorem dX12_draws_12 : decode cX12_draws 12 = .ok (.iload_n 1, 1) := by decide +kernel
theorem dX12_draws_13 : decode cX12_draws 13 = .ok (.putfield 340, 3) := by decide +kernel
theorem dX12_draws_16 : decode cX12_draws 16 = .ok (.iload_n 2, 1) := by decide +kernel
theorem dX12_draws_17 : decode cX12_draws 17 = .ok (.ireturn, 1) := by decide +kernel
theorem dX12_drawn_0 : decode cX12_drawn 0 = .ok (.aload_n 0, 1) := by decide +kernel
theorem dX12_drawn_1 : decode cX12_drawn 1 = .ok (.getfield 139, 3) := by decide +kernel
theorem dX12_drawn_4 : decode cX12_drawn 4 = .ok (.ifCond .eq 22, 3) := by decide +kernel
theorem dX12_drawn_26 : decode cX12_drawn 26 = .ok (.iconst (-1), 1) := by decide +kernel
theorem dX12_drawn_27 : decode cX12_drawn 27 = .ok (.ireturn, 1) := by decide +kernel
theorem dX12_pairMany_0 : decode cX12_pairMany 0 = .ok (.iconst 0, 1) := by decide +kernel
theorem dX12_pairMany_1 : decode cX12_pairMany 1 = .ok (.istore_n 1, 1) := by decide +kernel
theorem dX12_pairMany_2 : decode cX12_pairMany 2 = .ok (.iconst 0, 1) := by decide +kernel
theorem dX12_pairMany_3 : decode cX12_pairMany 3 = .ok (.istore_n 2, 1) := by decide +kernel
theorem dX12_pairMany_4 : decode cX12_pairMany 4 = .ok (.iload_n 2, 1) := by decide +kernel
theorem dX12_pairMany_5 : decode cX12_pairMany 5 = .ok (.aload_n 0, 1) := by decide +kernel
theorem dX12_pairMany_6 : decode cX12_pairMany 6 = .ok (.getfield 139, 3) := by decide +kernel
theorem dX12_pairMany_9 : decode cX12_pairMany 9 = .ok (.if_icmp .ge 20, 3) := by decide +kernel
theorem dX12_pairMany_29 : decode cX12_pairMany 29 = .ok (.iload_n 1, 1) := by decide +kernel
theorem dX12_pairMany_30 : decode cX12_pairMany 30 = .ok (.ireturn, 1) := by decide +kernel
theorem dX12_keep_0 : decode cX12_keep 0 = .ok (.aload_n 0, 1) := by decide +kernel
theorem dX12_keep_1 : decode cX12_keep 1 = .ok (.getfield 139, 3) := by decide +kernel
theorem dX12_keep_4 : decode cX12_keep 4 = .ok (.ifCond .eq 12, 3) := by decide +kernel
theorem dX12_keep_16 : decode cX12_keep 16 = .ok (.iconst (-1), 1) := by decide +kernel
theorem dX12_keep_17 : decode cX12_keep 17 = .ok (.ireturn, 1) := by decide +kernel
theorem dX12_same_0 : decode cX12_same 0 = .ok (.iload_n 1, 1) := by decide +kernel
theorem dX12_same_1 : decode cX12_same 1 = .ok (.iconst 0, 1) := by decide +kernel
theorem dX12_same_2 : decode cX12_same 2 = .ok (.iconst 2, 1) := by decide +kernel
theorem dX12_same_3 : decode cX12_same 3 = .ok (.invokestatic 101, 3) := by decide +kernel
theorem dX12_same_6 : decode cX12_same 6 = .ok (.ifCond .ne 5, 3) := by decide +kernel
theorem dX12_same_9 : decode cX12_same 9 = .ok (.iconst (-1), 1) := by decide +kernel
theorem dX12_same_10 : decode cX12_same 10 = .ok (.ireturn, 1) := by decide +kernel
theorem dX12_same_11 : decode cX12_same 11 = .ok (.aload_n 0, 1) := by decide +kernel
theorem dX12_same_12 : decode cX12_same 12 = .ok (.getfield 77, 3) := by decide +kernel
theorem dX12_same_15 : decode cX12_same 15 = .ok (.iload_n 1, 1) := by decide +kernel
theorem dX12_same_16 : decode cX12_same 16 = .ok (.baload, 1) := by decide +kernel
theorem dX12_same_17 : decode cX12_same 17 = .ok (.ifCond .ne 6, 3) := by decide +kernel
theorem dX12_same_20 : decode cX12_same 20 = .ok (.bipush (-2), 2) := by decide +kernel
theorem dX12_same_22 : decode cX12_same 22 = .ok (.ireturn, 1) := by decide +kernel
theorem dX12_euler_0 : decode cX12_euler 0 = .ok (.iconst 0, 1) := by decide +kernel
theorem dX12_euler_1 : decode cX12_euler 1 = .ok (.istore_n 1, 1) := by decide +kernel
theorem dX12_euler_2 : decode cX12_euler 2 = .ok (.iconst 0, 1) := by decide +kernel
theorem dX12_euler_3 : decode cX12_euler 3 = .ok (.istore_n 2, 1) := by decide +kernel
theorem dX12_euler_4 : decode cX12_euler 4 = .ok (.iload_n 2, 1) := by decide +kernel
theorem dX12_euler_5 : decode cX12_euler 5 = .ok (.aload_n 0, 1) := by decide +kernel
theorem dX12_euler_6 : decode cX12_euler 6 = .ok (.getfield 139, 3) := by decide +kernel
theorem dX12_euler_9 : decode cX12_euler 9 = .ok (.if_icmp .ge 29, 3) := by decide +kernel
theorem dX12_euler_38 : decode cX12_euler 38 = .ok (.iload_n 1, 1) := by decide +kernel
theorem dX12_euler_39 : decode cX12_euler 39 = .ok (.ireturn, 1) := by decide +kernel
theorem dX12_greatestDim_0 : decode cX12_greatestDim 0 = .ok (.iconst (-1), 1) := by decide +kernel
theorem dX12_greatestDim_1 : decode cX12_greatestDim 1 = .ok (.istore_n 1, 1) := by decide +kernel
theorem dX12_greatestDim_2 : decode cX12_greatestDim 2 = .ok (.iconst 0, 1) := by decide +kernel
theorem dX12_greatestDim_3 : decode cX12_greatestDim 3 = .ok (.istore_n 2, 1) := by decide +kernel
theorem dX12_greatestDim_4 : decode cX12_greatestDim 4 = .ok (.iload_n 2, 1) := by decide +kernel
theorem dX12_greatestDim_5 : decode cX12_greatestDim 5 = .ok (.aload_n 0, 1) := by decide +kernel
theorem dX12_greatestDim_6 : decode cX12_greatestDim 6 = .ok (.getfield 139, 3) := by decide +kernel
theorem dX12_greatestDim_9 : decode cX12_greatestDim 9 = .ok (.if_icmp .ge 31, 3) := by decide +kernel
theorem dX12_greatestDim_40 : decode cX12_greatestDim 40 = .ok (.iload_n 1, 1) := by decide +kernel
theorem dX12_greatestDim_41 : decode cX12_greatestDim 41 = .ok (.ireturn, 1) := by decide +kernel
theorem dX12_count_0 : decode cX12_count 0 = .ok (.iload_n 1, 1) := by decide +kernel
theorem dX12_count_1 : decode cX12_count 1 = .ok (.tableswitch 105 0 9 #[55, 60, 65, 70, 75, 80, 85, 90, 95, 100], 55) := by decide +kernel
theorem dX12_count_56 : decode cX12_count 56 = .ok (.aload_n 0, 1) := by decide +kernel
theorem dX12_count_57 : decode cX12_count 57 = .ok (.getfield 139, 3) := by decide +kernel
theorem dX12_count_60 : decode cX12_count 60 = .ok (.ireturn, 1) := by decide +kernel
theorem dX12_count_61 : decode cX12_count 61 = .ok (.aload_n 0, 1) := by decide +kernel
theorem dX12_count_62 : decode cX12_count 62 = .ok (.invokevirtual 268, 3) := by decide +kernel
theorem dX12_count_65 : decode cX12_count 65 = .ok (.ireturn, 1) := by decide +kernel
theorem dX12_count_66 : decode cX12_count 66 = .ok (.aload_n 0, 1) := by decide +kernel
theorem dX12_count_67 : decode cX12_count 67 = .ok (.invokevirtual 369, 3) := by decide +kernel
theorem dX12_count_70 : decode cX12_count 70 = .ok (.ireturn, 1) := by decide +kernel
theorem dX12_count_71 : decode cX12_count 71 = .ok (.aload_n 0, 1) := by decide +kernel
theorem dX12_count_72 : decode cX12_count 72 = .ok (.invokevirtual 366, 3) := by decide +kernel
theorem dX12_count_75 : decode cX12_count 75 = .ok (.ireturn, 1) := by decide +kernel
theorem dX12_count_76 : decode cX12_count 76 = .ok (.aload_n 0, 1) := by decide +kernel
theorem dX12_count_77 : decode cX12_count 77 = .ok (.invokevirtual 197, 3) := by decide +kernel
theorem dX12_count_80 : decode cX12_count 80 = .ok (.ireturn, 1) := by decide +kernel
theorem dX12_count_81 : decode cX12_count 81 = .ok (.aload_n 0, 1) := by decide +kernel
theorem dX12_count_82 : decode cX12_count 82 = .ok (.invokevirtual 372, 3) := by decide +kernel
theorem dX12_count_85 : decode cX12_count 85 = .ok (.ireturn, 1) := by decide +kernel
theorem dX12_count_86 : decode cX12_count 86 = .ok (.aload_n 0, 1) := by decide +kernel
theorem dX12_count_87 : decode cX12_count 87 = .ok (.invokevirtual 375, 3) := by decide +kernel
theorem dX12_count_90 : decode cX12_count 90 = .ok (.ireturn, 1) := by decide +kernel
theorem dX12_count_91 : decode cX12_count 91 = .ok (.aload_n 0, 1) := by decide +kernel
theorem dX12_count_92 : decode cX12_count 92 = .ok (.getfield 142, 3) := by decide +kernel
theorem dX12_count_95 : decode cX12_count 95 = .ok (.ireturn, 1) := by decide +kernel
theorem dX12_count_96 : decode cX12_count 96 = .ok (.aload_n 0, 1) := by decide +kernel
theorem dX12_count_97 : decode cX12_count 97 = .ok (.getfield 340, 3) := by decide +kernel
theorem dX12_count_100 : decode cX12_count 100 = .ok (.ireturn, 1) := by decide +kernel
theorem dX12_count_101 : decode cX12_count 101 = .ok (.aload_n 0, 1) := by decide +kernel
theorem dX12_count_102 : decode cX12_count 102 = .ok (.getfield 83, 3) := by decide +kernel
theorem dX12_count_105 : decode cX12_count 105 = .ok (.ireturn, 1) := by decide +kernel
theorem dX12_count_106 : decode cX12_count 106 = .ok (.iconst (-1), 1) := by decide +kernel
theorem dX12_count_107 : decode cX12_count 107 = .ok (.ireturn, 1) := by decide +kernel
