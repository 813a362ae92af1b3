theorem dX12_in_0 : decode cX12_in 0 = .ok (.iload_n 0, 1) := by decide +kernel
theorem dX12_in_1 : decode cX12_in 1 = .ok (.iload_n 1, 1) := by decide +kernel
theorem dX12_in_2 : decode cX12_in 2 = .ok (.if_icmp .lt 12, 3) := by decide +kernel
theorem dX12_in_5 : decode cX12_in 5 = .ok (.iload_n 0, 1) := by decide +kernel
theorem dX12_in_6 : decode cX12_in 6 = .ok (.iload_n 2, 1) := by decide +kernel
theorem dX12_in_7 : decode cX12_in 7 = .ok (.if_icmp .gt 7, 3) := by decide +kernel
theorem dX12_in_10 : decode cX12_in 10 = .ok (.iconst 1, 1) := by decide +kernel
theorem dX12_in_11 : decode cX12_in 11 = .ok (.goto 4, 3) := by decide +kernel
theorem dX12_in_14 : decode cX12_in 14 = .ok (.iconst 0, 1) := by decide +kernel
theorem dX12_in_15 : decode cX12_in 15 = .ok (.ireturn, 1) := by decide +kernel
theorem dX12_truth_0 : decode cX12_truth 0 = .ok (.iload_n 0, 1) := by decide +kernel
theorem dX12_truth_1 : decode cX12_truth 1 = .ok (.ifCond .eq 7, 3) := by decide +kernel
theorem dX12_truth_4 : decode cX12_truth 4 = .ok (.iconst 1, 1) := by decide +kernel
theorem dX12_truth_5 : decode cX12_truth 5 = .ok (.goto 4, 3) := by decide +kernel
theorem dX12_truth_8 : decode cX12_truth 8 = .ok (.iconst 0, 1) := by decide +kernel
theorem dX12_truth_9 : decode cX12_truth 9 = .ok (.ireturn, 1) := by decide +kernel
theorem dX12_byteNow_0 : decode cX12_byteNow 0 = .ok (.aload_n 0, 1) := by decide +kernel
theorem dX12_byteNow_1 : decode cX12_byteNow 1 = .ok (.getfield 91, 3) := by decide +kernel
theorem dX12_byteNow_4 : decode cX12_byteNow 4 = .ok (.aload_n 0, 1) := by decide +kernel
theorem dX12_byteNow_5 : decode cX12_byteNow 5 = .ok (.getfield 83, 3) := by decide +kernel
theorem dX12_byteNow_8 : decode cX12_byteNow 8 = .ok (.if_icmp .ge 19, 3) := by decide +kernel
theorem dX12_byteNow_11 : decode cX12_byteNow 11 = .ok (.aload_n 0, 1) := by decide +kernel
theorem dX12_byteNow_12 : decode cX12_byteNow 12 = .ok (.getfield 13, 3) := by decide +kernel
theorem dX12_byteNow_15 : decode cX12_byteNow 15 = .ok (.aload_n 0, 1) := by decide +kernel
theorem dX12_byteNow_16 : decode cX12_byteNow 16 = .ok (.getfield 91, 3) := by decide +kernel
theorem dX12_byteNow_19 : decode cX12_byteNow 19 = .ok (.baload, 1) := by decide +kernel
theorem dX12_byteNow_20 : decode cX12_byteNow 20 = .ok (.sipush 255, 3) := by decide +kernel
theorem dX12_byteNow_23 : decode cX12_byteNow 23 = .ok (.iand, 1) := by decide +kernel
theorem dX12_byteNow_24 : decode cX12_byteNow 24 = .ok (.goto 4, 3) := by decide +kernel
theorem dX12_byteNow_27 : decode cX12_byteNow 27 = .ok (.iconst (-1), 1) := by decide +kernel
theorem dX12_byteNow_28 : decode cX12_byteNow 28 = .ok (.ireturn, 1) := by decide +kernel
theorem dX12_blanks_0 : decode cX12_blanks 0 = .ok (.aload_n 0, 1) := by decide +kernel
theorem dX12_blanks_1 : decode cX12_blanks 1 = .ok (.invokevirtual 94, 3) := by decide +kernel
theorem dX12_blanks_4 : decode cX12_blanks 4 = .ok (.bipush 32, 2) := by decide +kernel
theorem dX12_blanks_6 : decode cX12_blanks 6 = .ok (.if_icmp .ne 16, 3) := by decide +kernel
theorem dX12_blanks_9 : decode cX12_blanks 9 = .ok (.aload_n 0, 1) := by decide +kernel
theorem dX12_blanks_10 : decode cX12_blanks 10 = .ok (.dup, 1) := by decide +kernel
theorem dX12_blanks_11 : decode cX12_blanks 11 = .ok (.getfield 91, 3) := by decide +kernel
theorem dX12_blanks_14 : decode cX12_blanks 14 = .ok (.iconst 1, 1) := by decide +kernel
theorem dX12_blanks_15 : decode cX12_blanks 15 = .ok (.iadd, 1) := by decide +kernel
theorem dX12_blanks_16 : decode cX12_blanks 16 = .ok (.putfield 91, 3) := by decide +kernel
theorem dX12_blanks_19 : decode cX12_blanks 19 = .ok (.goto (-19), 3) := by decide +kernel
theorem dX12_blanks_22 : decode cX12_blanks 22 = .ok (.return_, 1) := by decide +kernel
theorem dX12_fails_0 : decode cX12_fails 0 = .ok (.aload_n 0, 1) := by decide +kernel
theorem dX12_fails_1 : decode cX12_fails 1 = .ok (.getfield 98, 3) := by decide +kernel
theorem dX12_fails_4 : decode cX12_fails 4 = .ok (.iconst (-1), 1) := by decide +kernel
theorem dX12_fails_5 : decode cX12_fails 5 = .ok (.if_icmp .ne 13, 3) := by decide +kernel
theorem dX12_fails_8 : decode cX12_fails 8 = .ok (.aload_n 0, 1) := by decide +kernel
theorem dX12_fails_9 : decode cX12_fails 9 = .ok (.bipush 8, 2) := by decide +kernel
theorem dX12_fails_11 : decode cX12_fails 11 = .ok (.iload_n 2, 1) := by decide +kernel
theorem dX12_fails_12 : decode cX12_fails 12 = .ok (.imul, 1) := by decide +kernel
theorem dX12_fails_13 : decode cX12_fails 13 = .ok (.iload_n 1, 1) := by decide +kernel
theorem dX12_fails_14 : decode cX12_fails 14 = .ok (.iadd, 1) := by decide +kernel
theorem dX12_fails_15 : decode cX12_fails 15 = .ok (.putfield 98, 3) := by decide +kernel
theorem dX12_fails_18 : decode cX12_fails 18 = .ok (.return_, 1) := by decide +kernel
theorem dX12_isRight_0 : decode cX12_isRight 0 = .ok (.aload_n 0, 1) := by decide +kernel
theorem dX12_isRight_1 : decode cX12_isRight 1 = .ok (.getfield 98, 3) := by decide +kernel
theorem dX12_isRight_4 : decode cX12_isRight 4 = .ok (.iconst (-1), 1) := by decide +kernel
theorem dX12_isRight_5 : decode cX12_isRight 5 = .ok (.if_icmp .ne 7, 3) := by decide +kernel
theorem dX12_isRight_8 : decode cX12_isRight 8 = .ok (.iconst 1, 1) := by decide +kernel
theorem dX12_isRight_9 : decode cX12_isRight 9 = .ok (.goto 4, 3) := by decide +kernel
theorem dX12_isRight_12 : decode cX12_isRight 12 = .ok (.iconst 0, 1) := by decide +kernel
theorem dX12_isRight_13 : decode cX12_isRight 13 = .ok (.ireturn, 1) := by decide +kernel
theorem dX12_isLetter_0 : decode cX12_isLetter 0 = .ok (.aload_n 0, 1) := by decide +kernel
theorem dX12_isLetter_1 : decode cX12_isLetter 1 = .ok (.invokevirtual 94, 3) := by decide +kernel
theorem dX12_isLetter_4 : decode cX12_isLetter 4 = .ok (.bipush 97, 2) := by decide +kernel
theorem dX12_isLetter_6 : decode cX12_isLetter 6 = .ok (.bipush 104, 2) := by decide +kernel
theorem dX12_isLetter_8 : decode cX12_isLetter 8 = .ok (.invokestatic 101, 3) := by decide +kernel
theorem dX12_isLetter_11 : decode cX12_isLetter 11 = .ok (.ireturn, 1) := by decide +kernel
theorem dX12_takesSets_0 : decode cX12_takesSets 0 = .ok (.iconst 1, 1) := by decide +kernel
theorem dX12_takesSets_1 : decode cX12_takesSets 1 = .ok (.istore_n 2, 1) := by decide +kernel
theorem dX12_takesSets_2 : decode cX12_takesSets 2 = .ok (.iload_n 2, 1) := by decide +kernel
theorem dX12_takesSets_3 : decode cX12_takesSets 3 = .ok (.sipush 256, 3) := by decide +kernel
theorem dX12_takesSets_6 : decode cX12_takesSets 6 = .ok (.if_icmp .ge 24, 3) := by decide +kernel
theorem dX12_takesSets_9 : decode cX12_takesSets 9 = .ok (.iload_n 2, 1) := by decide +kernel
theorem dX12_takesSets_10 : decode cX12_takesSets 10 = .ok (.iload_n 1, 1) := by decide +kernel
theorem dX12_takesSets_11 : decode cX12_takesSets 11 = .ok (.iconst (-1), 1) := by decide +kernel
theorem dX12_takesSets_12 : decode cX12_takesSets 12 = .ok (.ixor, 1) := by decide +kernel
theorem dX12_takesSets_13 : decode cX12_takesSets 13 = .ok (.iand, 1) := by decide +kernel
theorem dX12_takesSets_14 : decode cX12_takesSets 14 = .ok (.ifCond .ne 10, 3) := by decide +kernel
theorem dX12_takesSets_17 : decode cX12_takesSets 17 = .ok (.aload_n 0, 1) := by decide +kernel
theorem dX12_takesSets_18 : decode cX12_takesSets 18 = .ok (.getfield 17, 3) := by decide +kernel
theorem dX12_takesSets_21 : decode cX12_takesSets 21 = .ok (.iload_n 2, 1) := by decide +kernel
theorem dX12_takesSets_22 : decode cX12_takesSets 22 = .ok (.iconst 1, 1) := by decide +kernel
theorem dX12_takesSets_23 : decode cX12_takesSets 23 = .ok (.bastore, 1) := by decide +kernel
theorem dX12_takesSets_24 : decode cX12_takesSets 24 = .ok (.iinc 2 1, 3) := by decide +kernel
theorem dX12_takesSets_27 : decode cX12_takesSets 27 = .ok (.goto (-25), 3) := by decide +kernel
theorem dX12_takesSets_30 : decode cX12_takesSets 30 = .ok (.return_, 1) := by decide +kernel
theorem dX12_toldMany_0 : decode cX12_toldMany 0 = .ok (.iconst 0, 1) := by decide +kernel
theorem dX12_toldMany_1 : decode cX12_toldMany 1 = .ok (.istore_n 1, 1) := by decide +kernel
theorem dX12_toldMany_2 : decode cX12_toldMany 2 = .ok (.iconst 1, 1) := by decide +kernel
theorem dX12_toldMany_3 : decode cX12_toldMany 3 = .ok (.istore_n 2, 1) := by decide +kernel
theorem dX12_toldMany_4 : decode cX12_toldMany 4 = .ok (.iload_n 2, 1) := by decide +kernel
theorem dX12_toldMany_5 : decode cX12_toldMany 5 = .ok (.sipush 256, 3) := by decide +kernel
theorem dX12_toldMany_8 : decode cX12_toldMany 8 = .ok (.if_icmp .ge 21, 3) := by decide +kernel
theorem dX12_toldMany_11 : decode cX12_toldMany 11 = .ok (.iload_n 1, 1) := by decide +kernel
theorem dX12_toldMany_12 : decode cX12_toldMany 12 = .ok (.aload_n 0, 1) := by decide +kernel
theorem dX12_toldMany_13 : decode cX12_toldMany 13 = .ok (.getfield 17, 3) := by decide +kernel
theorem dX12_toldMany_16 : decode cX12_toldMany 16 = .ok (.iload_n 2, 1) := by decide +kernel
theorem dX12_toldMany_17 : decode cX12_toldMany 17 = .ok (.baload, 1) := by decide +kernel
theorem dX12_toldMany_18 : decode cX12_toldMany 18 = .ok (.invokestatic 105, 3) := by decide +kernel
theorem dX12_toldMany_21 : decode cX12_toldMany 21 = .ok (.iadd, 1) := by decide +kernel
theorem dX12_toldMany_22 : decode cX12_toldMany 22 = .ok (.istore_n 1, 1) := by decide +kernel
theorem dX12_toldMany_23 : decode cX12_toldMany 23 = .ok (.iinc 2 1, 3) := by decide +kernel
theorem dX12_toldMany_26 : decode cX12_toldMany 26 = .ok (.goto (-22), 3) := by decide +kernel
theorem dX12_toldMany_29 : decode cX12_toldMany 29 = .ok (.iload_n 1, 1) := by decide +kernel
theorem dX12_toldMany_30 : decode cX12_toldMany 30 = .ok (.ireturn, 1) := by decide +kernel
theorem dX12_readsFacet_0 : decode cX12_readsFacet 0 = .ok (.aload_n 0, 1) := by decide +kernel
theorem dX12_readsFacet_1 : decode cX12_readsFacet 1 = .ok (.invokevirtual 109, 3) := by decide +kernel
theorem dX12_readsFacet_4 : decode cX12_readsFacet 4 = .ok (.aload_n 0, 1) := by decide +kernel
theorem dX12_readsFacet_5 : decode cX12_readsFacet 5 = .ok (.getfield 91, 3) := by decide +kernel
theorem dX12_readsFacet_8 : decode cX12_readsFacet 8 = .ok (.istore_n 2, 1) := by decide +kernel
theorem dX12_readsFacet_9 : decode cX12_readsFacet 9 = .ok (.iconst 0, 1) := by decide +kernel
theorem dX12_readsFacet_10 : decode cX12_readsFacet 10 = .ok (.istore_n 3, 1) := by decide +kernel
theorem dX12_readsFacet_11 : decode cX12_readsFacet 11 = .ok (.aload_n 0, 1) := by decide +kernel
theorem dX12_readsFacet_12 : decode cX12_readsFacet 12 = .ok (.invokevirtual 112, 3) := by decide +kernel
theorem dX12_readsFacet_15 : decode cX12_readsFacet 15 = .ok (.ifCond .ne 12, 3) := by decide +kernel
theorem dX12_readsFacet_18 : decode cX12_readsFacet 18 = .ok (.aload_n 0, 1) := by decide +kernel
theorem dX12_readsFacet_19 : decode cX12_readsFacet 19 = .ok (.iconst 1, 1) := by decide +kernel
theorem dX12_readsFacet_20 : decode cX12_readsFacet 20 = .ok (.aload_n 0, 1) := by decide +kernel
theorem dX12_readsFacet_21 : decode cX12_readsFacet 21 = .ok (.getfield 91, 3) := by decide +kernel
theorem dX12_readsFacet_24 : decode cX12_readsFacet 24 = .ok (.invokevirtual 116, 3) := by decide +kernel
theorem dX12_readsFacet_27 : decode cX12_readsFacet 27 = .ok (.iload_n 1, 1) := by decide +kernel
theorem dX12_readsFacet_28 : decode cX12_readsFacet 28 = .ok (.bipush 24, 2) := by decide +kernel
theorem dX12_readsFacet_30 : decode cX12_readsFacet 30 = .ok (.if_icmp .ne 12, 3) := by decide +kernel
theorem dX12_readsFacet_33 : decode cX12_readsFacet 33 = .ok (.aload_n 0, 1) := by decide +kernel
theorem dX12_readsFacet_34 : decode cX12_readsFacet 34 = .ok (.iconst 4, 1) := by decide +kernel
theorem dX12_readsFacet_35 : decode cX12_readsFacet 35 = .ok (.aload_n 0, 1) := by decide +kernel
theorem dX12_readsFacet_36 : decode cX12_readsFacet 36 = .ok (.getfield 91, 3) := by decide +kernel
theorem dX12_readsFacet_39 : decode cX12_readsFacet 39 = .ok (.invokevirtual 116, 3) := by decide +kernel
theorem dX12_readsFacet_42 : decode cX12_readsFacet 42 = .ok (.aload_n 0, 1) := by decide +kernel
theorem dX12_readsFacet_43 : decode cX12_readsFacet 43 = .ok (.invokevirtual 120, 3) := by decide +kernel
theorem dX12_readsFacet_46 : decode cX12_readsFacet 46 = .ok (.ifCond .eq 72, 3) := by decide +kernel
theorem dX12_readsFacet_49 : decode cX12_readsFacet 49 = .ok (.aload_n 0, 1) := by decide +kernel
theorem dX12_readsFacet_50 : decode cX12_readsFacet 50 = .ok (.invokevirtual 112, 3) := by decide +kernel
theorem dX12_readsFacet_53 : decode cX12_readsFacet 53 = .ok (.ifCond .eq 65, 3) := by decide +kernel
theorem dX12_readsFacet_56 : decode cX12_readsFacet 56 = .ok (.iconst 1, 1) := by decide +kernel
theorem dX12_readsFacet_57 : decode cX12_readsFacet 57 = .ok (.aload_n 0, 1) := by decide +kernel
theorem dX12_readsFacet_58 : decode cX12_readsFacet 58 = .ok (.invokevirtual 94, 3) := by decide +kernel
theorem dX12_readsFacet_61 : decode cX12_readsFacet 61 = .ok (.bipush 97, 2) := by decide +kernel
theorem dX12_readsFacet_63 : decode cX12_readsFacet 63 = .ok (.isub, 1) := by decide +kernel
theorem dX12_readsFacet_64 : decode cX12_readsFacet 64 = .ok (.ishl, 1) := by decide +kernel
theorem dX12_readsFacet_65 : decode cX12_readsFacet 65 = .ok (.istore 4, 2) := by decide +kernel
theorem dX12_readsFacet_67 : decode cX12_readsFacet 67 = .ok (.iload_n 3, 1) := by decide +kernel
theorem dX12_readsFacet_68 : decode cX12_readsFacet 68 = .ok (.iload 4, 2) := by decide +kernel
theorem dX12_readsFacet_70 : decode cX12_readsFacet 70 = .ok (.iand, 1) := by decide +kernel
theorem dX12_readsFacet_71 : decode cX12_readsFacet 71 = .ok (.ifCond .eq 12, 3) := by decide +kernel
theorem dX12_readsFacet_74 : decode cX12_readsFacet 74 = .ok (.aload_n 0, 1) := by decide +kernel
theorem dX12_readsFacet_75 : decode cX12_readsFacet 75 = .ok (.iconst 2, 1) := by decide +kernel
theorem dX12_readsFacet_76 : decode cX12_readsFacet 76 = .ok (.aload_n 0, 1) := by decide +kernel
theorem dX12_readsFacet_77 : decode cX12_readsFacet 77 = .ok (.getfield 91, 3) := by decide +kernel
theorem dX12_readsFacet_80 : decode cX12_readsFacet 80 = .ok (.invokevirtual 116, 3) := by decide +kernel
theorem dX12_readsFacet_83 : decode cX12_readsFacet 83 = .ok (.iload_n 3, 1) := by decide +kernel
theorem dX12_readsFacet_84 : decode cX12_readsFacet 84 = .ok (.invokestatic 123, 3) := by decide +kernel
theorem dX12_readsFacet_87 : decode cX12_readsFacet 87 = .ok (.iconst 5, 1) := by decide +kernel
theorem dX12_readsFacet_88 : decode cX12_readsFacet 88 = .ok (.if_icmp .ne 12, 3) := by decide +kernel
theorem dX12_readsFacet_91 : decode cX12_readsFacet 91 = .ok (.aload_n 0, 1) := by decide +kernel
theorem dX12_readsFacet_92 : decode cX12_readsFacet 92 = .ok (.iconst 3, 1) := by decide +kernel
theorem dX12_readsFacet_93 : decode cX12_readsFacet 93 = .ok (.aload_n 0, 1) := by decide +kernel
theorem dX12_readsFacet_94 : decode cX12_readsFacet 94 = .ok (.getfield 91, 3) := by decide +kernel
theorem dX12_readsFacet_97 : decode cX12_readsFacet 97 = .ok (.invokevirtual 116, 3) := by decide +kernel
theorem dX12_readsFacet_100 : decode cX12_readsFacet 100 = .ok (.iload_n 3, 1) := by decide +kernel
theorem dX12_readsFacet_101 : decode cX12_readsFacet 101 = .ok (.iload 4, 2) := by decide +kernel
theorem dX12_readsFacet_103 : decode cX12_readsFacet 103 = .ok (.ior, 1) := by decide +kernel
theorem dX12_readsFacet_104 : decode cX12_readsFacet 104 = .ok (.istore_n 3, 1) := by decide +kernel
theorem dX12_readsFacet_105 : decode cX12_readsFacet 105 = .ok (.aload_n 0, 1) := by decide +kernel
theorem dX12_readsFacet_106 : decode cX12_readsFacet 106 = .ok (.dup, 1) := by decide +kernel
theorem dX12_readsFacet_107 : decode cX12_readsFacet 107 = .ok (.getfield 91, 3) := by decide +kernel
theorem dX12_readsFacet_110 : decode cX12_readsFacet 110 = .ok (.iconst 1, 1) := by decide +kernel
theorem dX12_readsFacet_111 : decode cX12_readsFacet 111 = .ok (.iadd, 1) := by decide +kernel
theorem dX12_readsFacet_112 : decode cX12_readsFacet 112 = .ok (.putfield 91, 3) := by decide +kernel
theorem dX12_readsFacet_115 : decode cX12_readsFacet 115 = .ok (.goto (-73), 3) := by decide +kernel
theorem dX12_readsFacet_118 : decode cX12_readsFacet 118 = .ok (.aload_n 0, 1) := by decide +kernel
theorem dX12_readsFacet_119 : decode cX12_readsFacet 119 = .ok (.invokevirtual 120, 3) := by decide +kernel
theorem dX12_readsFacet_122 : decode cX12_readsFacet 122 = .ok (.ifCond .eq 23, 3) := by decide +kernel
theorem dX12_readsFacet_125 : decode cX12_readsFacet 125 = .ok (.aload_n 0, 1) := by decide +kernel
theorem dX12_readsFacet_126 : decode cX12_readsFacet 126 = .ok (.iload_n 3, 1) := by decide +kernel
theorem dX12_readsFacet_127 : decode cX12_readsFacet 127 = .ok (.invokevirtual 127, 3) := by decide +kernel
theorem dX12_readsFacet_130 : decode cX12_readsFacet 130 = .ok (.aload_n 0, 1) := by decide +kernel
theorem dX12_readsFacet_131 : decode cX12_readsFacet 131 = .ok (.invokevirtual 130, 3) := by decide +kernel
theorem dX12_readsFacet_134 : decode cX12_readsFacet 134 = .ok (.bipush 60, 2) := by decide +kernel
theorem dX12_readsFacet_136 : decode cX12_readsFacet 136 = .ok (.if_icmp .le 9, 3) := by decide +kernel
theorem dX12_readsFacet_139 : decode cX12_readsFacet 139 = .ok (.aload_n 0, 1) := by decide +kernel
theorem dX12_readsFacet_140 : decode cX12_readsFacet 140 = .ok (.iconst 5, 1) := by decide +kernel
theorem dX12_readsFacet_141 : decode cX12_readsFacet 141 = .ok (.iload_n 2, 1) := by decide +kernel
theorem dX12_readsFacet_142 : decode cX12_readsFacet 142 = .ok (.invokevirtual 116, 3) := by decide +kernel
theorem dX12_readsFacet_145 : decode cX12_readsFacet 145 = .ok (.aload_n 0, 1) := by decide +kernel
theorem dX12_readsFacet_146 : decode cX12_readsFacet 146 = .ok (.invokevirtual 109, 3) := by decide +kernel
theorem dX12_readsFacet_149 : decode cX12_readsFacet 149 = .ok (.return_, 1) := by decide +kernel
theorem dX12_complex_0 : decode cX12_complex 0 = .ok (.aload_n 0, 1) := by decide +kernel
theorem dX12_complex_1 : decode cX12_complex 1 = .ok (.iconst 0, 1) := by decide +kernel
theorem dX12_complex_2 : decode cX12_complex 2 = .ok (.putfield 91, 3) := by decide +kernel
theorem dX12_complex_5 : decode cX12_complex 5 = .ok (.aload_n 0, 1) := by decide +kernel
theorem dX12_complex_6 : decode cX12_complex 6 = .ok (.iconst (-1), 1) := by decide +kernel
theorem dX12_complex_7 : decode cX12_complex 7 = .ok (.putfield 98, 3) := by decide +kernel
theorem dX12_complex_10 : decode cX12_complex 10 = .ok (.iconst 0, 1) := by decide +kernel
theorem dX12_complex_11 : decode cX12_complex 11 = .ok (.istore_n 1, 1) := by decide +kernel
theorem dX12_complex_32 : decode cX12_complex 32 = .ok (.iconst 0, 1) := by decide +kernel
theorem dX12_complex_33 : decode cX12_complex 33 = .ok (.istore_n 1, 1) := by decide +kernel
theorem dX12_complex_34 : decode cX12_complex 34 = .ok (.iconst 1, 1) := by decide +kernel
theorem dX12_complex_35 : decode cX12_complex 35 = .ok (.istore_n 2, 1) := by decide +kernel
theorem dX12_complex_36 : decode cX12_complex 36 = .ok (.iload_n 2, 1) := by decide +kernel
theorem dX12_complex_37 : decode cX12_complex 37 = .ok (.ifCond .eq 49, 3) := by decide +kernel
theorem dX12_complex_40 : decode cX12_complex 40 = .ok (.aload_n 0, 1) := by decide +kernel
theorem dX12_complex_41 : decode cX12_complex 41 = .ok (.iload_n 1, 1) := by decide +kernel
theorem dX12_complex_42 : decode cX12_complex 42 = .ok (.invokevirtual 133, 3) := by decide +kernel
theorem dX12_complex_45 : decode cX12_complex 45 = .ok (.iinc 1 1, 3) := by decide +kernel
theorem dX12_complex_48 : decode cX12_complex 48 = .ok (.aload_n 0, 1) := by decide +kernel
theorem dX12_complex_49 : decode cX12_complex 49 = .ok (.invokevirtual 120, 3) := by decide +kernel
theorem dX12_complex_52 : decode cX12_complex 52 = .ok (.ifCond .eq 16, 3) := by decide +kernel
theorem dX12_complex_55 : decode cX12_complex 55 = .ok (.aload_n 0, 1) := by decide +kernel
theorem dX12_complex_56 : decode cX12_complex 56 = .ok (.invokevirtual 94, 3) := by decide +kernel
theorem dX12_complex_59 : decode cX12_complex 59 = .ok (.bipush 44, 2) := by decide +kernel
theorem dX12_complex_61 : decode cX12_complex 61 = .ok (.if_icmp .ne 7, 3) := by decide +kernel
theorem dX12_complex_64 : decode cX12_complex 64 = .ok (.iconst 1, 1) := by decide +kernel
theorem dX12_complex_65 : decode cX12_complex 65 = .ok (.goto 4, 3) := by decide +kernel
theorem dX12_complex_68 : decode cX12_complex 68 = .ok (.iconst 0, 1) := by decide +kernel
theorem dX12_complex_69 : decode cX12_complex 69 = .ok (.istore_n 2, 1) := by decide +kernel
theorem dX12_complex_70 : decode cX12_complex 70 = .ok (.aload_n 0, 1) := by decide +kernel
theorem dX12_complex_71 : decode cX12_complex 71 = .ok (.dup, 1) := by decide +kernel
theorem dX12_complex_72 : decode cX12_complex 72 = .ok (.getfield 91, 3) := by decide +kernel
theorem dX12_complex_75 : decode cX12_complex 75 = .ok (.iload_n 2, 1) := by decide +kernel
theorem dX12_complex_76 : decode cX12_complex 76 = .ok (.invokestatic 105, 3) := by decide +kernel
theorem dX12_complex_79 : decode cX12_complex 79 = .ok (.iadd, 1) := by decide +kernel
theorem dX12_complex_80 : decode cX12_complex 80 = .ok (.putfield 91, 3) := by decide +kernel
theorem dX12_complex_83 : decode cX12_complex 83 = .ok (.goto (-47), 3) := by decide +kernel
theorem dX12_complex_86 : decode cX12_complex 86 = .ok (.aload_n 0, 1) := by decide +kernel
theorem dX12_complex_87 : decode cX12_complex 87 = .ok (.invokevirtual 120, 3) := by decide +kernel
theorem dX12_complex_90 : decode cX12_complex 90 = .ok (.ifCond .eq 20, 3) := by decide +kernel
theorem dX12_complex_93 : decode cX12_complex 93 = .ok (.aload_n 0, 1) := by decide +kernel
theorem dX12_complex_94 : decode cX12_complex 94 = .ok (.invokevirtual 94, 3) := by decide +kernel
theorem dX12_complex_97 : decode cX12_complex 97 = .ok (.iconst (-1), 1) := by decide +kernel
theorem dX12_complex_98 : decode cX12_complex 98 = .ok (.if_icmp .eq 12, 3) := by decide +kernel
theorem dX12_complex_101 : decode cX12_complex 101 = .ok (.aload_n 0, 1) := by decide +kernel
theorem dX12_complex_102 : decode cX12_complex 102 = .ok (.iconst 1, 1) := by decide +kernel
theorem dX12_complex_103 : decode cX12_complex 103 = .ok (.aload_n 0, 1) := by decide +kernel
theorem dX12_complex_104 : decode cX12_complex 104 = .ok (.getfield 91, 3) := by decide +kernel
theorem dX12_complex_107 : decode cX12_complex 107 = .ok (.invokevirtual 116, 3) := by decide +kernel
theorem dX12_complex_110 : decode cX12_complex 110 = .ok (.aload_n 0, 1) := by decide +kernel
theorem dX12_complex_111 : decode cX12_complex 111 = .ok (.iconst 0, 1) := by decide +kernel
theorem dX12_complex_112 : decode cX12_complex 112 = .ok (.putfield 83, 3) := by decide +kernel
theorem dX12_complex_115 : decode cX12_complex 115 = .ok (.aload_n 0, 1) := by decide +kernel
theorem dX12_complex_116 : decode cX12_complex 116 = .ok (.invokevirtual 120, 3) := by decide +kernel
theorem dX12_complex_119 : decode cX12_complex 119 = .ok (.ifCond .ne 11, 3) := by decide +kernel
theorem dX12_complex_122 : decode cX12_complex 122 = .ok (.bipush (-2), 2) := by decide +kernel
theorem dX12_complex_124 : decode cX12_complex 124 = .ok (.aload_n 0, 1) := by decide +kernel
theorem dX12_complex_125 : decode cX12_complex 125 = .ok (.getfield 98, 3) := by decide +kernel
theorem dX12_complex_128 : decode cX12_complex 128 = .ok (.isub, 1) := by decide +kernel
theorem dX12_complex_129 : decode cX12_complex 129 = .ok (.ireturn, 1) := by decide +kernel
theorem dX12_complex_130 : decode cX12_complex 130 = .ok (.aload_n 0, 1) := by decide +kernel
theorem dX12_complex_131 : decode cX12_complex 131 = .ok (.invokevirtual 136, 3) := by decide +kernel
theorem dX12_complex_134 : decode cX12_complex 134 = .ok (.aload_n 0, 1) := by decide +kernel
theorem dX12_complex_135 : decode cX12_complex 135 = .ok (.getfield 139, 3) := by decide +kernel
theorem dX12_complex_138 : decode cX12_complex 138 = .ok (.ireturn, 1) := by decide +kernel
theorem dX12_numbers_0 : decode cX12_numbers 0 = .ok (.aload_n 0, 1) := by decide +kernel
theorem dX12_numbers_1 : decode cX12_numbers 1 = .ok (.iconst 0, 1) := by decide +kernel
theorem dX12_numbers_2 : decode cX12_numbers 2 = .ok (.putfield 139, 3) := by decide +kernel
theorem dX12_numbers_5 : decode cX12_numbers 5 = .ok (.iconst 1, 1) := by decide +kernel
theorem dX12_numbers_6 : decode cX12_numbers 6 = .ok (.istore_n 1, 1) := by decide +kernel
theorem dX12_numbers_7 : decode cX12_numbers 7 = .ok (.iload_n 1, 1) := by decide +kernel
theorem dX12_numbers_8 : decode cX12_numbers 8 = .ok (.iconst 5, 1) := by decide +kernel
theorem dX12_numbers_9 : decode cX12_numbers 9 = .ok (.if_icmp .gt 61, 3) := by decide +kernel
theorem dX12_numbers_12 : decode cX12_numbers 12 = .ok (.iconst 1, 1) := by decide +kernel
theorem dX12_numbers_13 : decode cX12_numbers 13 = .ok (.istore_n 2, 1) := by decide +kernel
theorem dX12_numbers_14 : decode cX12_numbers 14 = .ok (.iload_n 2, 1) := by decide +kernel
theorem dX12_numbers_15 : decode cX12_numbers 15 = .ok (.sipush 256, 3) := by decide +kernel
theorem dX12_numbers_18 : decode cX12_numbers 18 = .ok (.if_icmp .ge 46, 3) := by decide +kernel
theorem dX12_numbers_21 : decode cX12_numbers 21 = .ok (.aload_n 0, 1) := by decide +kernel
theorem dX12_numbers_22 : decode cX12_numbers 22 = .ok (.getfield 17, 3) := by decide +kernel
theorem dX12_numbers_25 : decode cX12_numbers 25 = .ok (.iload_n 2, 1) := by decide +kernel
theorem dX12_numbers_26 : decode cX12_numbers 26 = .ok (.baload, 1) := by decide +kernel
theorem dX12_numbers_27 : decode cX12_numbers 27 = .ok (.ifCond .eq 31, 3) := by decide +kernel
theorem dX12_numbers_30 : decode cX12_numbers 30 = .ok (.iload_n 2, 1) := by decide +kernel
theorem dX12_numbers_31 : decode cX12_numbers 31 = .ok (.invokestatic 123, 3) := by decide +kernel
theorem dX12_numbers_34 : decode cX12_numbers 34 = .ok (.iload_n 1, 1) := by decide +kernel
theorem dX12_numbers_35 : decode cX12_numbers 35 = .ok (.if_icmp .ne 23, 3) := by decide +kernel
theorem dX12_numbers_38 : decode cX12_numbers 38 = .ok (.aload_n 0, 1) := by decide +kernel
theorem dX12_numbers_39 : decode cX12_numbers 39 = .ok (.getfield 21, 3) := by decide +kernel
theorem dX12_numbers_42 : decode cX12_numbers 42 = .ok (.aload_n 0, 1) := by decide +kernel
theorem dX12_numbers_43 : decode cX12_numbers 43 = .ok (.getfield 139, 3) := by decide +kernel
theorem dX12_numbers_46 : decode cX12_numbers 46 = .ok (.iload_n 2, 1) := by decide +kernel
theorem dX12_numbers_47 : decode cX12_numbers 47 = .ok (.iastore, 1) := by decide +kernel
theorem dX12_numbers_48 : decode cX12_numbers 48 = .ok (.aload_n 0, 1) := by decide +kernel
theorem dX12_numbers_49 : decode cX12_numbers 49 = .ok (.dup, 1) := by decide +kernel
theorem dX12_numbers_50 : decode cX12_numbers 50 = .ok (.getfield 139, 3) := by decide +kernel
theorem dX12_numbers_53 : decode cX12_numbers 53 = .ok (.iconst 1, 1) := by decide +kernel
theorem dX12_numbers_54 : decode cX12_numbers 54 = .ok (.iadd, 1) := by decide +kernel
theorem dX12_numbers_55 : decode cX12_numbers 55 = .ok (.putfield 139, 3) := by decide +kernel
theorem dX12_numbers_58 : decode cX12_numbers 58 = .ok (.iinc 2 1, 3) := by decide +kernel
theorem dX12_numbers_61 : decode cX12_numbers 61 = .ok (.goto (-47), 3) := by decide +kernel
theorem dX12_numbers_64 : decode cX12_numbers 64 = .ok (.iinc 1 1, 3) := by decide +kernel
theorem dX12_numbers_67 : decode cX12_numbers 67 = .ok (.goto (-60), 3) := by decide +kernel
theorem dX12_numbers_70 : decode cX12_numbers 70 = .ok (.iconst 0, 1) := by decide +kernel
theorem dX12_numbers_71 : decode cX12_numbers 71 = .ok (.istore_n 1, 1) := by decide +kernel
theorem dX12_numbers_72 : decode cX12_numbers 72 = .ok (.iload_n 1, 1) := by decide +kernel
theorem dX12_numbers_73 : decode cX12_numbers 73 = .ok (.sipush 256, 3) := by decide +kernel
theorem dX12_numbers_76 : decode cX12_numbers 76 = .ok (.if_icmp .ge 16, 3) := by decide +kernel
theorem dX12_numbers_79 : decode cX12_numbers 79 = .ok (.aload_n 0, 1) := by decide +kernel
theorem dX12_numbers_80 : decode cX12_numbers 80 = .ok (.getfield 25, 3) := by decide +kernel
theorem dX12_numbers_83 : decode cX12_numbers 83 = .ok (.iload_n 1, 1) := by decide +kernel
theorem dX12_numbers_84 : decode cX12_numbers 84 = .ok (.iconst (-1), 1) := by decide +kernel
theorem dX12_numbers_85 : decode cX12_numbers 85 = .ok (.iastore, 1) := by decide +kernel
theorem dX12_numbers_86 : decode cX12_numbers 86 = .ok (.iinc 1 1, 3) := by decide +kernel
theorem dX12_numbers_89 : decode cX12_numbers 89 = .ok (.goto (-17), 3) := by decide +kernel
theorem dX12_numbers_92 : decode cX12_numbers 92 = .ok (.iconst 0, 1) := by decide +kernel
theorem dX12_numbers_93 : decode cX12_numbers 93 = .ok (.istore_n 1, 1) := by decide +kernel
theorem dX12_numbers_94 : decode cX12_numbers 94 = .ok (.iload_n 1, 1) := by decide +kernel
theorem dX12_numbers_95 : decode cX12_numbers 95 = .ok (.aload_n 0, 1) := by decide +kernel
theorem dX12_numbers_96 : decode cX12_numbers 96 = .ok (.getfield 139, 3) := by decide +kernel
theorem dX12_numbers_99 : decode cX12_numbers 99 = .ok (.if_icmp .ge 35, 3) := by decide +kernel
theorem dX12_numbers_102 : decode cX12_numbers 102 = .ok (.aload_n 0, 1) := by decide +kernel
theorem dX12_numbers_103 : decode cX12_numbers 103 = .ok (.getfield 25, 3) := by decide +kernel
theorem dX12_numbers_106 : decode cX12_numbers 106 = .ok (.aload_n 0, 1) := by decide +kernel
theorem dX12_numbers_107 : decode cX12_numbers 107 = .ok (.getfield 21, 3) := by decide +kernel
theorem dX12_numbers_110 : decode cX12_numbers 110 = .ok (.iload_n 1, 1) := by decide +kernel
theorem dX12_numbers_111 : decode cX12_numbers 111 = .ok (.iaload, 1) := by decide +kernel
theorem dX12_numbers_112 : decode cX12_numbers 112 = .ok (.iload_n 1, 1) := by decide +kernel
theorem dX12_numbers_113 : decode cX12_numbers 113 = .ok (.iastore, 1) := by decide +kernel
theorem dX12_numbers_114 : decode cX12_numbers 114 = .ok (.aload_n 0, 1) := by decide +kernel
theorem dX12_numbers_115 : decode cX12_numbers 115 = .ok (.getfield 28, 3) := by decide +kernel
theorem dX12_numbers_118 : decode cX12_numbers 118 = .ok (.iload_n 1, 1) := by decide +kernel
theorem dX12_numbers_119 : decode cX12_numbers 119 = .ok (.iconst (-1), 1) := by decide +kernel
theorem dX12_numbers_120 : decode cX12_numbers 120 = .ok (.iastore, 1) := by decide +kernel
theorem dX12_numbers_121 : decode cX12_numbers 121 = .ok (.aload_n 0, 1) := by decide +kernel
theorem dX12_numbers_122 : decode cX12_numbers 122 = .ok (.getfield 31, 3) := by decide +kernel
theorem dX12_numbers_125 : decode cX12_numbers 125 = .ok (.iload_n 1, 1) := by decide +kernel
theorem dX12_numbers_126 : decode cX12_numbers 126 = .ok (.iconst 0, 1) := by decide +kernel
theorem dX12_numbers_127 : decode cX12_numbers 127 = .ok (.bastore, 1) := by decide +kernel
theorem dX12_numbers_128 : decode cX12_numbers 128 = .ok (.iinc 1 1, 3) := by decide +kernel
theorem dX12_numbers_131 : decode cX12_numbers 131 = .ok (.goto (-37), 3) := by decide +kernel
theorem dX12_numbers_134 : decode cX12_numbers 134 = .ok (.iconst 0, 1) := by decide +kernel
theorem dX12_numbers_135 : decode cX12_numbers 135 = .ok (.istore_n 1, 1) := by decide +kernel
theorem dX12_numbers_136 : decode cX12_numbers 136 = .ok (.iload_n 1, 1) := by decide +kernel
theorem dX12_numbers_137 : decode cX12_numbers 137 = .ok (.iconst 3, 1) := by decide +kernel
theorem dX12_numbers_138 : decode cX12_numbers 138 = .ok (.if_icmp .ge 16, 3) := by decide +kernel
theorem dX12_numbers_141 : decode cX12_numbers 141 = .ok (.aload_n 0, 1) := by decide +kernel
theorem dX12_numbers_142 : decode cX12_numbers 142 = .ok (.getfield 77, 3) := by decide +kernel
theorem dX12_numbers_145 : decode cX12_numbers 145 = .ok (.iload_n 1, 1) := by decide +kernel
theorem dX12_numbers_146 : decode cX12_numbers 146 = .ok (.iconst 0, 1) := by decide +kernel
theorem dX12_numbers_147 : decode cX12_numbers 147 = .ok (.bastore, 1) := by decide +kernel
theorem dX12_numbers_148 : decode cX12_numbers 148 = .ok (.iinc 1 1, 3) := by decide +kernel
theorem dX12_numbers_151 : decode cX12_numbers 151 = .ok (.goto (-15), 3) := by decide +kernel
theorem dX12_numbers_154 : decode cX12_numbers 154 = .ok (.aload_n 0, 1) := by decide +kernel
theorem dX12_numbers_155 : decode cX12_numbers 155 = .ok (.iconst 0, 1) := by decide +kernel
theorem dX12_numbers_156 : decode cX12_numbers 156 = .ok (.putfield 142, 3) := by decide +kernel
theorem dX12_numbers_159 : decode cX12_numbers 159 = .ok (.return_, 1) := by decide +kernel
theorem dX12_isSimplex_0 : decode cX12_isSimplex 0 = .ok (.iload_n 1, 1) := by decide +kernel
theorem dX12_isSimplex_1 : decode cX12_isSimplex 1 = .ok (.iconst 0, 1) := by decide +kernel
theorem dX12_isSimplex_2 : decode cX12_isSimplex 2 = .ok (.aload_n 0, 1) := by decide +kernel
theorem dX12_isSimplex_3 : decode cX12_isSimplex 3 = .ok (.getfield 139, 3) := by decide +kernel
theorem dX12_isSimplex_6 : decode cX12_isSimplex 6 = .ok (.iconst 1, 1) := by decide +kernel
theorem dX12_isSimplex_7 : decode cX12_isSimplex 7 = .ok (.isub, 1) := by decide +kernel
theorem dX12_isSimplex_8 : decode cX12_isSimplex 8 = .ok (.invokestatic 101, 3) := by decide +kernel
theorem dX12_isSimplex_11 : decode cX12_isSimplex 11 = .ok (.ireturn, 1) := by decide +kernel
theorem dX12_isThere_0 : decode cX12_isThere 0 = .ok (.aload_n 0, 1) := by decide +kernel
theorem dX12_isThere_1 : decode cX12_isThere 1 = .ok (.iload_n 1, 1) := by decide +kernel
theorem dX12_isThere_2 : decode cX12_isThere 2 = .ok (.invokevirtual 145, 3) := by decide +kernel
theorem dX12_isThere_5 : decode cX12_isThere 5 = .ok (.ifCond .eq 16, 3) := by decide +kernel
theorem dX12_isThere_8 : decode cX12_isThere 8 = .ok (.aload_n 0, 1) := by decide +kernel
theorem dX12_isThere_9 : decode cX12_isThere 9 = .ok (.getfield 31, 3) := by decide +kernel
theorem dX12_isThere_12 : decode cX12_isThere 12 = .ok (.iload_n 1, 1) := by decide +kernel
theorem dX12_isThere_13 : decode cX12_isThere 13 = .ok (.baload, 1) := by decide +kernel
theorem dX12_isThere_14 : decode cX12_isThere 14 = .ok (.ifCond .ne 7, 3) := by decide +kernel
theorem dX12_isThere_17 : decode cX12_isThere 17 = .ok (.iconst 1, 1) := by decide +kernel
theorem dX12_isThere_18 : decode cX12_isThere 18 = .ok (.goto 4, 3) := by decide +kernel
theorem dX12_isThere_21 : decode cX12_isThere 21 = .ok (.iconst 0, 1) := by decide +kernel
theorem dX12_isThere_22 : decode cX12_isThere 22 = .ok (.ireturn, 1) := by decide +kernel
theorem dX12_dimOf_0 : decode cX12_dimOf 0 = .ok (.aload_n 0, 1) := by decide +kernel
theorem dX12_dimOf_1 : decode cX12_dimOf 1 = .ok (.getfield 21, 3) := by decide +kernel
theorem dX12_dimOf_4 : decode cX12_dimOf 4 = .ok (.iload_n 1, 1) := by decide +kernel
theorem dX12_dimOf_5 : decode cX12_dimOf 5 = .ok (.iaload, 1) := by decide +kernel
theorem dX12_dimOf_6 : decode cX12_dimOf 6 = .ok (.invokestatic 123, 3) := by decide +kernel
theorem dX12_dimOf_9 : decode cX12_dimOf 9 = .ok (.iconst 1, 1) := by decide +kernel
theorem dX12_dimOf_10 : decode cX12_dimOf 10 = .ok (.isub, 1) := by decide +kernel
theorem dX12_dimOf_11 : decode cX12_dimOf 11 = .ok (.ireturn, 1) := by decide +kernel
theorem dX12_isFace_0 : decode cX12_isFace 0 = .ok (.aload_n 0, 1) := by decide +kernel
theorem dX12_isFace_1 : decode cX12_isFace 1 = .ok (.iload_n 2, 1) := by decide +kernel
theorem dX12_isFace_2 : decode cX12_isFace 2 = .ok (.invokevirtual 149, 3) := by decide +kernel
theorem dX12_isFace_5 : decode cX12_isFace 5 = .ok (.aload_n 0, 1) := by decide +kernel
theorem dX12_isFace_6 : decode cX12_isFace 6 = .ok (.iload_n 1, 1) := by decide +kernel
theorem dX12_isFace_7 : decode cX12_isFace 7 = .ok (.invokevirtual 149, 3) := by decide +kernel
theorem dX12_isFace_10 : decode cX12_isFace 10 = .ok (.iconst 1, 1) := by decide +kernel
theorem dX12_isFace_11 : decode cX12_isFace 11 = .ok (.iadd, 1) := by decide +kernel
theorem dX12_isFace_12 : decode cX12_isFace 12 = .ok (.if_icmp .ne 25, 3) := by decide +kernel
theorem dX12_isFace_15 : decode cX12_isFace 15 = .ok (.aload_n 0, 1) := by decide +kernel
theorem dX12_isFace_16 : decode cX12_isFace 16 = .ok (.getfield 21, 3) := by decide +kernel
theorem dX12_isFace_19 : decode cX12_isFace 19 = .ok (.iload_n 1, 1) := by decide +kernel
theorem dX12_isFace_20 : decode cX12_isFace 20 = .ok (.iaload, 1) := by decide +kernel
theorem dX12_isFace_21 : decode cX12_isFace 21 = .ok (.aload_n 0, 1) := by decide +kernel
theorem dX12_isFace_22 : decode cX12_isFace 22 = .ok (.getfield 21, 3) := by decide +kernel
theorem dX12_isFace_25 : decode cX12_isFace 25 = .ok (.iload_n 2, 1) := by decide +kernel
theorem dX12_isFace_26 : decode cX12_isFace 26 = .ok (.iaload, 1) := by decide +kernel
theorem dX12_isFace_27 : decode cX12_isFace 27 = .ok (.iconst (-1), 1) := by decide +kernel
theorem dX12_isFace_28 : decode cX12_isFace 28 = .ok (.ixor, 1) := by decide +kernel
theorem dX12_isFace_29 : decode cX12_isFace 29 = .ok (.iand, 1) := by decide +kernel
theorem dX12_isFace_30 : decode cX12_isFace 30 = .ok (.ifCond .ne 7, 3) := by decide +kernel
theorem dX12_isFace_33 : decode cX12_isFace 33 = .ok (.iconst 1, 1) := by decide +kernel
theorem dX12_isFace_34 : decode cX12_isFace 34 = .ok (.goto 4, 3) := by decide +kernel
theorem dX12_isFace_37 : decode cX12_isFace 37 = .ok (.iconst 0, 1) := by decide +kernel
theorem dX12_isFace_38 : decode cX12_isFace 38 = .ok (.ireturn, 1) := by decide +kernel
theorem dX12_isFaceThere_0 : decode cX12_isFaceThere 0 = .ok (.aload_n 0, 1) := by decide +kernel
theorem dX12_isFaceThere_1 : decode cX12_isFaceThere 1 = .ok (.getfield 31, 3) := by decide +kernel
theorem dX12_isFaceThere_4 : decode cX12_isFaceThere 4 = .ok (.iload_n 1, 1) := by decide +kernel
theorem dX12_isFaceThere_5 : decode cX12_isFaceThere 5 = .ok (.baload, 1) := by decide +kernel
theorem dX12_isFaceThere_6 : decode cX12_isFaceThere 6 = .ok (.ifCond .ne 25, 3) := by decide +kernel
theorem dX12_isFaceThere_9 : decode cX12_isFaceThere 9 = .ok (.aload_n 0, 1) := by decide +kernel
theorem dX12_isFaceThere_10 : decode cX12_isFaceThere 10 = .ok (.getfield 31, 3) := by decide +kernel
theorem dX12_isFaceThere_13 : decode cX12_isFaceThere 13 = .ok (.iload_n 2, 1) := by decide +kernel
theorem dX12_isFaceThere_14 : decode cX12_isFaceThere 14 = .ok (.baload, 1) := by decide +kernel
theorem dX12_isFaceThere_15 : decode cX12_isFaceThere 15 = .ok (.ifCond .ne 16, 3) := by decide +kernel
theorem dX12_isFaceThere_18 : decode cX12_isFaceThere 18 = .ok (.aload_n 0, 1) := by decide +kernel
theorem dX12_isFaceThere_19 : decode cX12_isFaceThere 19 = .ok (.iload_n 1, 1) := by decide +kernel
theorem dX12_isFaceThere_20 : decode cX12_isFaceThere 20 = .ok (.iload_n 2, 1) := by decide +kernel
theorem dX12_isFaceThere_21 : decode cX12_isFaceThere 21 = .ok (.invokevirtual 152, 3) := by decide +kernel
theorem dX12_isFaceThere_24 : decode cX12_isFaceThere 24 = .ok (.ifCond .eq 7, 3) := by decide +kernel
theorem dX12_isFaceThere_27 : decode cX12_isFaceThere 27 = .ok (.iconst 1, 1) := by decide +kernel
theorem dX12_isFaceThere_28 : decode cX12_isFaceThere 28 = .ok (.goto 4, 3) := by decide +kernel
theorem dX12_isFaceThere_31 : decode cX12_isFaceThere 31 = .ok (.iconst 0, 1) := by decide +kernel
theorem dX12_isFaceThere_32 : decode cX12_isFaceThere 32 = .ok (.ireturn, 1) := by decide +kernel
theorem dX12_signOf_0 : decode cX12_signOf 0 = .ok (.aload_n 0, 1) := by decide +kernel
theorem dX12_signOf_1 : decode cX12_signOf 1 = .ok (.getfield 21, 3) := by decide +kernel
theorem dX12_signOf_4 : decode cX12_signOf 4 = .ok (.iload_n 2, 1) := by decide +kernel
theorem dX12_signOf_5 : decode cX12_signOf 5 = .ok (.iaload, 1) := by decide +kernel
theorem dX12_signOf_6 : decode cX12_signOf 6 = .ok (.aload_n 0, 1) := by decide +kernel
theorem dX12_signOf_7 : decode cX12_signOf 7 = .ok (.getfield 21, 3) := by decide +kernel
theorem dX12_signOf_10 : decode cX12_signOf 10 = .ok (.iload_n 1, 1) := by decide +kernel
theorem dX12_signOf_11 : decode cX12_signOf 11 = .ok (.iaload, 1) := by decide +kernel
theorem dX12_signOf_12 : decode cX12_signOf 12 = .ok (.iconst (-1), 1) := by decide +kernel
theorem dX12_signOf_13 : decode cX12_signOf 13 = .ok (.ixor, 1) := by decide +kernel
theorem dX12_signOf_14 : decode cX12_signOf 14 = .ok (.iand, 1) := by decide +kernel
theorem dX12_signOf_15 : decode cX12_signOf 15 = .ok (.istore_n 3, 1) := by decide +kernel
theorem dX12_signOf_16 : decode cX12_signOf 16 = .ok (.aload_n 0, 1) := by decide +kernel
theorem dX12_signOf_17 : decode cX12_signOf 17 = .ok (.getfield 21, 3) := by decide +kernel
theorem dX12_signOf_20 : decode cX12_signOf 20 = .ok (.iload_n 2, 1) := by decide +kernel
theorem dX12_signOf_21 : decode cX12_signOf 21 = .ok (.iaload, 1) := by decide +kernel
theorem dX12_signOf_22 : decode cX12_signOf 22 = .ok (.iload_n 3, 1) := by decide +kernel
theorem dX12_signOf_23 : decode cX12_signOf 23 = .ok (.iconst 1, 1) := by decide +kernel
theorem dX12_signOf_24 : decode cX12_signOf 24 = .ok (.isub, 1) := by decide +kernel
theorem dX12_signOf_25 : decode cX12_signOf 25 = .ok (.iand, 1) := by decide +kernel
theorem dX12_signOf_26 : decode cX12_signOf 26 = .ok (.invokestatic 123, 3) := by decide +kernel
theorem dX12_signOf_29 : decode cX12_signOf 29 = .ok (.istore 4, 2) := by decide +kernel
theorem dX12_signOf_31 : decode cX12_signOf 31 = .ok (.iload 4, 2) := by decide +kernel
theorem dX12_signOf_33 : decode cX12_signOf 33 = .ok (.iconst 2, 1) := by decide +kernel
theorem dX12_signOf_34 : decode cX12_signOf 34 = .ok (.irem, 1) := by decide +kernel
theorem dX12_signOf_35 : decode cX12_signOf 35 = .ok (.ifCond .ne 7, 3) := by decide +kernel
theorem dX12_signOf_38 : decode cX12_signOf 38 = .ok (.iconst 1, 1) := by decide +kernel
theorem dX12_signOf_39 : decode cX12_signOf 39 = .ok (.goto 4, 3) := by decide +kernel
theorem dX12_signOf_42 : decode cX12_signOf 42 = .ok (.iconst (-1), 1) := by decide +kernel
theorem dX12_signOf_43 : decode cX12_signOf 43 = .ok (.ireturn, 1) := by decide +kernel
theorem dX12_isCritical_0 : decode cX12_isCritical 0 = .ok (.aload_n 0, 1) := by decide +kernel
theorem dX12_isCritical_1 : decode cX12_isCritical 1 = .ok (.iload_n 1, 1) := by decide +kernel
theorem dX12_isCritical_2 : decode cX12_isCritical 2 = .ok (.invokevirtual 156, 3) := by decide +kernel
theorem dX12_isCritical_5 : decode cX12_isCritical 5 = .ok (.ifCond .eq 17, 3) := by decide +kernel
theorem dX12_isCritical_8 : decode cX12_isCritical 8 = .ok (.aload_n 0, 1) := by decide +kernel
theorem dX12_isCritical_9 : decode cX12_isCritical 9 = .ok (.getfield 28, 3) := by decide +kernel
theorem dX12_isCritical_12 : decode cX12_isCritical 12 = .ok (.iload_n 1, 1) := by decide +kernel
theorem dX12_isCritical_13 : decode cX12_isCritical 13 = .ok (.iaload, 1) := by decide +kernel
theorem dX12_isCritical_14 : decode cX12_isCritical 14 = .ok (.iconst (-1), 1) := by decide +kernel
theorem dX12_isCritical_15 : decode cX12_isCritical 15 = .ok (.if_icmp .ne 7, 3) := by decide +kernel
theorem dX12_isCritical_18 : decode cX12_isCritical 18 = .ok (.iconst 1, 1) := by decide +kernel
theorem dX12_isCritical_19 : decode cX12_isCritical 19 = .ok (.goto 4, 3) := by decide +kernel
theorem dX12_isCritical_22 : decode cX12_isCritical 22 = .ok (.iconst 0, 1) := by decide +kernel
theorem dX12_isCritical_23 : decode cX12_isCritical 23 = .ok (.ireturn, 1) := by decide +kernel
theorem dX12_isLower_0 : decode cX12_isLower 0 = .ok (.aload_n 0, 1) := by decide +kernel
theorem dX12_isLower_1 : decode cX12_isLower 1 = .ok (.getfield 28, 3) := by decide +kernel
theorem dX12_isLower_4 : decode cX12_isLower 4 = .ok (.iload_n 1, 1) := by decide +kernel
theorem dX12_isLower_5 : decode cX12_isLower 5 = .ok (.iaload, 1) := by decide +kernel
theorem dX12_isLower_6 : decode cX12_isLower 6 = .ok (.iconst (-1), 1) := by decide +kernel
theorem dX12_isLower_7 : decode cX12_isLower 7 = .ok (.if_icmp .eq 17, 3) := by decide +kernel
theorem dX12_isLower_10 : decode cX12_isLower 10 = .ok (.aload_n 0, 1) := by decide +kernel
theorem dX12_isLower_11 : decode cX12_isLower 11 = .ok (.getfield 28, 3) := by decide +kernel
theorem dX12_isLower_14 : decode cX12_isLower 14 = .ok (.iload_n 1, 1) := by decide +kernel
theorem dX12_isLower_15 : decode cX12_isLower 15 = .ok (.iaload, 1) := by decide +kernel
theorem dX12_isLower_16 : decode cX12_isLower 16 = .ok (.iload_n 1, 1) := by decide +kernel
theorem dX12_isLower_17 : decode cX12_isLower 17 = .ok (.if_icmp .le 7, 3) := by decide +kernel
theorem dX12_isLower_20 : decode cX12_isLower 20 = .ok (.iconst 1, 1) := by decide +kernel
theorem dX12_isLower_21 : decode cX12_isLower 21 = .ok (.goto 4, 3) := by decide +kernel
theorem dX12_isLower_24 : decode cX12_isLower 24 = .ok (.iconst 0, 1) := by decide +kernel
theorem dX12_isLower_25 : decode cX12_isLower 25 = .ok (.ireturn, 1) := by decide +kernel
theorem dX12_criticalMany_0 : decode cX12_criticalMany 0 = .ok (.iconst 0, 1) := by decide +kernel
theorem dX12_criticalMany_1 : decode cX12_criticalMany 1 = .ok (.istore_n 1, 1) := by decide +kernel
theorem dX12_criticalMany_2 : decode cX12_criticalMany 2 = .ok (.iconst 0, 1) := by decide +kernel
theorem dX12_criticalMany_3 : decode cX12_criticalMany 3 = .ok (.istore_n 2, 1) := by decide +kernel
theorem dX12_criticalMany_4 : decode cX12_criticalMany 4 = .ok (.iload_n 2, 1) := by decide +kernel
theorem dX12_criticalMany_5 : decode cX12_criticalMany 5 = .ok (.aload_n 0, 1) := by decide +kernel
theorem dX12_criticalMany_6 : decode cX12_criticalMany 6 = .ok (.getfield 139, 3) := by decide +kernel
theorem dX12_criticalMany_9 : decode cX12_criticalMany 9 = .ok (.if_icmp .ge 20, 3) := by decide +kernel
theorem dX12_criticalMany_12 : decode cX12_criticalMany 12 = .ok (.iload_n 1, 1) := by decide +kernel
theorem dX12_criticalMany_13 : decode cX12_criticalMany 13 = .ok (.aload_n 0, 1) := by decide +kernel
theorem dX12_criticalMany_14 : decode cX12_criticalMany 14 = .ok (.iload_n 2, 1) := by decide +kernel
theorem dX12_criticalMany_15 : decode cX12_criticalMany 15 = .ok (.invokevirtual 159, 3) := by decide +kernel
theorem dX12_criticalMany_18 : decode cX12_criticalMany 18 = .ok (.invokestatic 105, 3) := by decide +kernel
theorem dX12_criticalMany_21 : decode cX12_criticalMany 21 = .ok (.iadd, 1) := by decide +kernel
theorem dX12_criticalMany_22 : decode cX12_criticalMany 22 = .ok (.istore_n 1, 1) := by decide +kernel
theorem dX12_criticalMany_23 : decode cX12_criticalMany 23 = .ok (.iinc 2 1, 3) := by decide +kernel
theorem dX12_criticalMany_26 : decode cX12_criticalMany 26 = .ok (.goto (-22), 3) := by decide +kernel
theorem dX12_criticalMany_29 : decode cX12_criticalMany 29 = .ok (.iload_n 1, 1) := by decide +kernel
theorem dX12_criticalMany_30 : decode cX12_criticalMany 30 = .ok (.ireturn, 1) := by decide +kernel
theorem dX12_facesOver_0 : decode cX12_facesOver 0 = .ok (.iconst 0, 1) := by decide +kernel
theorem dX12_facesOver_1 : decode cX12_facesOver 1 = .ok (.istore_n 2, 1) := by decide +kernel
theorem dX12_facesOver_2 : decode cX12_facesOver 2 = .ok (.iconst 0, 1) := by decide +kernel
theorem dX12_facesOver_3 : decode cX12_facesOver 3 = .ok (.istore_n 3, 1) := by decide +kernel
theorem dX12_facesOver_4 : decode cX12_facesOver 4 = .ok (.iload_n 3, 1) := by decide +kernel
theorem dX12_facesOver_5 : decode cX12_facesOver 5 = .ok (.aload_n 0, 1) := by decide +kernel
theorem dX12_facesOver_6 : decode cX12_facesOver 6 = .ok (.getfield 139, 3) := by decide +kernel
theorem dX12_facesOver_9 : decode cX12_facesOver 9 = .ok (.if_icmp .ge 21, 3) := by decide +kernel
theorem dX12_facesOver_12 : decode cX12_facesOver 12 = .ok (.iload_n 2, 1) := by decide +kernel
theorem dX12_facesOver_13 : decode cX12_facesOver 13 = .ok (.aload_n 0, 1) := by decide +kernel
theorem dX12_facesOver_14 : decode cX12_facesOver 14 = .ok (.iload_n 1, 1) := by decide +kernel
theorem dX12_facesOver_15 : decode cX12_facesOver 15 = .ok (.iload_n 3, 1) := by decide +kernel
theorem dX12_facesOver_16 : decode cX12_facesOver 16 = .ok (.invokevirtual 162, 3) := by decide +kernel
theorem dX12_facesOver_19 : decode cX12_facesOver 19 = .ok (.invokestatic 105, 3) := by decide +kernel
theorem dX12_facesOver_22 : decode cX12_facesOver 22 = .ok (.iadd, 1) := by decide +kernel
theorem dX12_facesOver_23 : decode cX12_facesOver 23 = .ok (.istore_n 2, 1) := by decide +kernel
theorem dX12_facesOver_24 : decode cX12_facesOver 24 = .ok (.iinc 3 1, 3) := by decide +kernel
theorem dX12_facesOver_27 : decode cX12_facesOver 27 = .ok (.goto (-23), 3) := by decide +kernel
theorem dX12_facesOver_30 : decode cX12_facesOver 30 = .ok (.iload_n 2, 1) := by decide +kernel
theorem dX12_facesOver_31 : decode cX12_facesOver 31 = .ok (.ireturn, 1) := by decide +kernel
theorem dX12_number_0 : decode cX12_number 0 = .ok (.iload_n 1, 1) := by decide +kernel
theorem dX12_number_1 : decode cX12_number 1 = .ok (.iconst 1, 1) := by decide +kernel
theorem dX12_number_2 : decode cX12_number 2 = .ok (.sipush 255, 3) := by decide +kernel
theorem dX12_number_5 : decode cX12_number 5 = .ok (.invokestatic 101, 3) := by decide +kernel
theorem dX12_number_8 : decode cX12_number 8 = .ok (.ifCond .eq 19, 3) := by decide +kernel
theorem dX12_number_11 : decode cX12_number 11 = .ok (.aload_n 0, 1) := by decide +kernel
theorem dX12_number_12 : decode cX12_number 12 = .ok (.getfield 139, 3) := by decide +kernel
theorem dX12_number_15 : decode cX12_number 15 = .ok (.ifCond .le 12, 3) := by decide +kernel
theorem dX12_number_18 : decode cX12_number 18 = .ok (.aload_n 0, 1) := by decide +kernel
theorem dX12_number_19 : decode cX12_number 19 = .ok (.getfield 25, 3) := by decide +kernel
theorem dX12_number_22 : decode cX12_number 22 = .ok (.iload_n 1, 1) := by decide +kernel
theorem dX12_number_23 : decode cX12_number 23 = .ok (.iaload, 1) := by decide +kernel
theorem dX12_number_24 : decode cX12_number 24 = .ok (.goto 4, 3) := by decide +kernel
theorem dX12_number_27 : decode cX12_number 27 = .ok (.iconst (-1), 1) := by decide +kernel
theorem dX12_number_28 : decode cX12_number 28 = .ok (.ireturn, 1) := by decide +kernel
theorem dX12_sign_0 : decode cX12_sign 0 = .ok (.aload_n 0, 1) := by decide +kernel
theorem dX12_sign_1 : decode cX12_sign 1 = .ok (.iload_n 1, 1) := by decide +kernel
theorem dX12_sign_2 : decode cX12_sign 2 = .ok (.invokevirtual 145, 3) := by decide +kernel
theorem dX12_sign_5 : decode cX12_sign 5 = .ok (.ifCond .eq 11, 3) := by decide +kernel
theorem dX12_sign_8 : decode cX12_sign 8 = .ok (.aload_n 0, 1) := by decide +kernel
theorem dX12_sign_9 : decode cX12_sign 9 = .ok (.iload_n 2, 1) := by decide +kernel
theorem dX12_sign_10 : decode cX12_sign 10 = .ok (.invokevirtual 145, 3) := by decide +kernel
theorem dX12_sign_13 : decode cX12_sign 13 = .ok (.ifCond .ne 6, 3) := by decide +kernel
theorem dX12_sign_16 : decode cX12_sign 16 = .ok (.ldc 165, 2) := by decide +kernel
theorem dX12_sign_18 : decode cX12_sign 18 = .ok (.ireturn, 1) := by decide +kernel
theorem dX12_sign_19 : decode cX12_sign 19 = .ok (.aload_n 0, 1) := by decide +kernel
theorem dX12_sign_20 : decode cX12_sign 20 = .ok (.iload_n 1, 1) := by decide +kernel
theorem dX12_sign_21 : decode cX12_sign 21 = .ok (.iload_n 2, 1) := by decide +kernel
theorem dX12_sign_22 : decode cX12_sign 22 = .ok (.invokevirtual 152, 3) := by decide +kernel
theorem dX12_sign_25 : decode cX12_sign 25 = .ok (.ifCond .eq 12, 3) := by decide +kernel
theorem dX12_sign_28 : decode cX12_sign 28 = .ok (.aload_n 0, 1) := by decide +kernel
theorem dX12_sign_29 : decode cX12_sign 29 = .ok (.iload_n 1, 1) := by decide +kernel
theorem dX12_sign_30 : decode cX12_sign 30 = .ok (.iload_n 2, 1) := by decide +kernel
theorem dX12_sign_31 : decode cX12_sign 31 = .ok (.invokevirtual 166, 3) := by decide +kernel
theorem dX12_sign_34 : decode cX12_sign 34 = .ok (.goto 4, 3) := by decide +kernel
theorem dX12_sign_37 : decode cX12_sign 37 = .ok (.iconst 0, 1) := by decide +kernel
theorem dX12_sign_38 : decode cX12_sign 38 = .ok (.ireturn, 1) := by decide +kernel
theorem dX12_laysHeights_0 : decode cX12_laysHeights 0 = .ok (.iconst 0, 1) := by decide +kernel
theorem dX12_laysHeights_1 : decode cX12_laysHeights 1 = .ok (.istore_n 1, 1) := by decide +kernel
theorem dX12_laysHeights_2 : decode cX12_laysHeights 2 = .ok (.iload_n 1, 1) := by decide +kernel
theorem dX12_laysHeights_3 : decode cX12_laysHeights 3 = .ok (.aload_n 0, 1) := by decide +kernel
theorem dX12_laysHeights_4 : decode cX12_laysHeights 4 = .ok (.getfield 139, 3) := by decide +kernel
theorem dX12_laysHeights_7 : decode cX12_laysHeights 7 = .ok (.if_icmp .ge 16, 3) := by decide +kernel
theorem dX12_laysHeights_10 : decode cX12_laysHeights 10 = .ok (.aload_n 0, 1) := by decide +kernel
theorem dX12_laysHeights_11 : decode cX12_laysHeights 11 = .ok (.getfield 34, 3) := by decide +kernel
theorem dX12_laysHeights_14 : decode cX12_laysHeights 14 = .ok (.iload_n 1, 1) := by decide +kernel
theorem dX12_laysHeights_15 : decode cX12_laysHeights 15 = .ok (.iconst 0, 1) := by decide +kernel
theorem dX12_laysHeights_16 : decode cX12_laysHeights 16 = .ok (.iastore, 1) := by decide +kernel
theorem dX12_laysHeights_17 : decode cX12_laysHeights 17 = .ok (.iinc 1 1, 3) := by decide +kernel
theorem dX12_laysHeights_20 : decode cX12_laysHeights 20 = .ok (.goto (-18), 3) := by decide +kernel
theorem dX12_laysHeights_23 : decode cX12_laysHeights 23 = .ok (.iconst 1, 1) := by decide +kernel
theorem dX12_laysHeights_24 : decode cX12_laysHeights 24 = .ok (.istore_n 1, 1) := by decide +kernel
theorem dX12_laysHeights_25 : decode cX12_laysHeights 25 = .ok (.iload_n 1, 1) := by decide +kernel
theorem dX12_laysHeights_26 : decode cX12_laysHeights 26 = .ok (.ifCond .eq 135, 3) := by decide +kernel
theorem dX12_laysHeights_29 : decode cX12_laysHeights 29 = .ok (.iconst 0, 1) := by decide +kernel
theorem dX12_laysHeights_30 : decode cX12_laysHeights 30 = .ok (.istore_n 1, 1) := by decide +kernel
theorem dX12_laysHeights_31 : decode cX12_laysHeights 31 = .ok (.iconst 0, 1) := by decide +kernel
theorem dX12_laysHeights_32 : decode cX12_laysHeights 32 = .ok (.istore_n 2, 1) := by decide +kernel
theorem dX12_laysHeights_33 : decode cX12_laysHeights 33 = .ok (.iload_n 2, 1) := by decide +kernel
theorem dX12_laysHeights_34 : decode cX12_laysHeights 34 = .ok (.aload_n 0, 1) := by decide +kernel
theorem dX12_laysHeights_35 : decode cX12_laysHeights 35 = .ok (.getfield 139, 3) := by decide +kernel
theorem dX12_laysHeights_38 : decode cX12_laysHeights 38 = .ok (.if_icmp .ge 120, 3) := by decide +kernel
theorem dX12_laysHeights_41 : decode cX12_laysHeights 41 = .ok (.iconst 0, 1) := by decide +kernel
theorem dX12_laysHeights_42 : decode cX12_laysHeights 42 = .ok (.istore_n 3, 1) := by decide +kernel
theorem dX12_laysHeights_43 : decode cX12_laysHeights 43 = .ok (.iload_n 3, 1) := by decide +kernel
theorem dX12_laysHeights_44 : decode cX12_laysHeights 44 = .ok (.aload_n 0, 1) := by decide +kernel
theorem dX12_laysHeights_45 : decode cX12_laysHeights 45 = .ok (.getfield 139, 3) := by decide +kernel
theorem dX12_laysHeights_48 : decode cX12_laysHeights 48 = .ok (.if_icmp .ge 104, 3) := by decide +kernel
theorem dX12_laysHeights_51 : decode cX12_laysHeights 51 = .ok (.aload_n 0, 1) := by decide +kernel
theorem dX12_laysHeights_52 : decode cX12_laysHeights 52 = .ok (.iload_n 3, 1) := by decide +kernel
theorem dX12_laysHeights_53 : decode cX12_laysHeights 53 = .ok (.iload_n 2, 1) := by decide +kernel
theorem dX12_laysHeights_54 : decode cX12_laysHeights 54 = .ok (.invokevirtual 162, 3) := by decide +kernel
theorem dX12_laysHeights_57 : decode cX12_laysHeights 57 = .ok (.ifCond .eq 17, 3) := by decide +kernel
theorem dX12_laysHeights_60 : decode cX12_laysHeights 60 = .ok (.aload_n 0, 1) := by decide +kernel
theorem dX12_laysHeights_61 : decode cX12_laysHeights 61 = .ok (.getfield 28, 3) := by decide +kernel
theorem dX12_laysHeights_64 : decode cX12_laysHeights 64 = .ok (.iload_n 2, 1) := by decide +kernel
theorem dX12_laysHeights_65 : decode cX12_laysHeights 65 = .ok (.iaload, 1) := by decide +kernel
theorem dX12_laysHeights_66 : decode cX12_laysHeights 66 = .ok (.iload_n 3, 1) := by decide +kernel
theorem dX12_laysHeights_67 : decode cX12_laysHeights 67 = .ok (.if_icmp .eq 7, 3) := by decide +kernel
theorem dX12_laysHeights_70 : decode cX12_laysHeights 70 = .ok (.iconst 1, 1) := by decide +kernel
theorem dX12_laysHeights_71 : decode cX12_laysHeights 71 = .ok (.goto 4, 3) := by decide +kernel
theorem dX12_laysHeights_74 : decode cX12_laysHeights 74 = .ok (.iconst 0, 1) := by decide +kernel
theorem dX12_laysHeights_75 : decode cX12_laysHeights 75 = .ok (.istore 4, 2) := by decide +kernel
theorem dX12_laysHeights_77 : decode cX12_laysHeights 77 = .ok (.aload_n 0, 1) := by decide +kernel
theorem dX12_laysHeights_78 : decode cX12_laysHeights 78 = .ok (.iload_n 2, 1) := by decide +kernel
theorem dX12_laysHeights_79 : decode cX12_laysHeights 79 = .ok (.iload_n 3, 1) := by decide +kernel
theorem dX12_laysHeights_80 : decode cX12_laysHeights 80 = .ok (.invokevirtual 162, 3) := by decide +kernel
theorem dX12_laysHeights_83 : decode cX12_laysHeights 83 = .ok (.ifCond .eq 17, 3) := by decide +kernel
theorem dX12_laysHeights_86 : decode cX12_laysHeights 86 = .ok (.aload_n 0, 1) := by decide +kernel
theorem dX12_laysHeights_87 : decode cX12_laysHeights 87 = .ok (.getfield 28, 3) := by decide +kernel
theorem dX12_laysHeights_90 : decode cX12_laysHeights 90 = .ok (.iload_n 2, 1) := by decide +kernel
theorem dX12_laysHeights_91 : decode cX12_laysHeights 91 = .ok (.iaload, 1) := by decide +kernel
theorem dX12_laysHeights_92 : decode cX12_laysHeights 92 = .ok (.iload_n 3, 1) := by decide +kernel
theorem dX12_laysHeights_93 : decode cX12_laysHeights 93 = .ok (.if_icmp .ne 7, 3) := by decide +kernel
theorem dX12_laysHeights_96 : decode cX12_laysHeights 96 = .ok (.iconst 1, 1) := by decide +kernel
theorem dX12_laysHeights_97 : decode cX12_laysHeights 97 = .ok (.goto 4, 3) := by decide +kernel
theorem dX12_laysHeights_100 : decode cX12_laysHeights 100 = .ok (.iconst 0, 1) := by decide +kernel
theorem dX12_laysHeights_101 : decode cX12_laysHeights 101 = .ok (.istore 5, 2) := by decide +kernel
theorem dX12_laysHeights_103 : decode cX12_laysHeights 103 = .ok (.iload 4, 2) := by decide +kernel
theorem dX12_laysHeights_105 : decode cX12_laysHeights 105 = .ok (.ifCond .ne 8, 3) := by decide +kernel
theorem dX12_laysHeights_108 : decode cX12_laysHeights 108 = .ok (.iload 5, 2) := by decide +kernel
theorem dX12_laysHeights_110 : decode cX12_laysHeights 110 = .ok (.ifCond .eq 36, 3) := by decide +kernel
theorem dX12_laysHeights_113 : decode cX12_laysHeights 113 = .ok (.aload_n 0, 1) := by decide +kernel
theorem dX12_laysHeights_114 : decode cX12_laysHeights 114 = .ok (.getfield 34, 3) := by decide +kernel
theorem dX12_laysHeights_117 : decode cX12_laysHeights 117 = .ok (.iload_n 2, 1) := by decide +kernel
theorem dX12_laysHeights_118 : decode cX12_laysHeights 118 = .ok (.iaload, 1) := by decide +kernel
theorem dX12_laysHeights_119 : decode cX12_laysHeights 119 = .ok (.aload_n 0, 1) := by decide +kernel
theorem dX12_laysHeights_120 : decode cX12_laysHeights 120 = .ok (.getfield 34, 3) := by decide +kernel
theorem dX12_laysHeights_123 : decode cX12_laysHeights 123 = .ok (.iload_n 3, 1) := by decide +kernel
theorem dX12_laysHeights_124 : decode cX12_laysHeights 124 = .ok (.iaload, 1) := by decide +kernel
theorem dX12_laysHeights_125 : decode cX12_laysHeights 125 = .ok (.iconst 1, 1) := by decide +kernel
theorem dX12_laysHeights_126 : decode cX12_laysHeights 126 = .ok (.iadd, 1) := by decide +kernel
theorem dX12_laysHeights_127 : decode cX12_laysHeights 127 = .ok (.if_icmp .ge 19, 3) := by decide +kernel
theorem dX12_laysHeights_130 : decode cX12_laysHeights 130 = .ok (.aload_n 0, 1) := by decide +kernel
theorem dX12_laysHeights_131 : decode cX12_laysHeights 131 = .ok (.getfield 34, 3) := by decide +kernel
theorem dX12_laysHeights_134 : decode cX12_laysHeights 134 = .ok (.iload_n 2, 1) := by decide +kernel
theorem dX12_laysHeights_135 : decode cX12_laysHeights 135 = .ok (.aload_n 0, 1) := by decide +kernel
theorem dX12_laysHeights_136 : decode cX12_laysHeights 136 = .ok (.getfield 34, 3) := by decide +kernel
theorem dX12_laysHeights_139 : decode cX12_laysHeights 139 = .ok (.iload_n 3, 1) := by decide +kernel
theorem dX12_laysHeights_140 : decode cX12_laysHeights 140 = .ok (.iaload, 1) := by decide +kernel
theorem dX12_laysHeights_141 : decode cX12_laysHeights 141 = .ok (.iconst 1, 1) := by decide +kernel
theorem dX12_laysHeights_142 : decode cX12_laysHeights 142 = .ok (.iadd, 1) := by decide +kernel
theorem dX12_laysHeights_143 : decode cX12_laysHeights 143 = .ok (.iastore, 1) := by decide +kernel
theorem dX12_laysHeights_144 : decode cX12_laysHeights 144 = .ok (.iconst 1, 1) := by decide +kernel
theorem dX12_laysHeights_145 : decode cX12_laysHeights 145 = .ok (.istore_n 1, 1) := by decide +kernel
theorem dX12_laysHeights_146 : decode cX12_laysHeights 146 = .ok (.iinc 3 1, 3) := by decide +kernel
theorem dX12_laysHeights_149 : decode cX12_laysHeights 149 = .ok (.goto (-106), 3) := by decide +kernel
theorem dX12_laysHeights_152 : decode cX12_laysHeights 152 = .ok (.iinc 2 1, 3) := by decide +kernel
theorem dX12_laysHeights_155 : decode cX12_laysHeights 155 = .ok (.goto (-122), 3) := by decide +kernel
theorem dX12_laysHeights_158 : decode cX12_laysHeights 158 = .ok (.goto (-133), 3) := by decide +kernel
theorem dX12_laysHeights_161 : decode cX12_laysHeights 161 = .ok (.return_, 1) := by decide +kernel
theorem dX12_simplex_0 : decode cX12_simplex 0 = .ok (.aload_n 0, 1) := by decide +kernel
theorem dX12_simplex_1 : decode cX12_simplex 1 = .ok (.iload_n 1, 1) := by decide +kernel
theorem dX12_simplex_2 : decode cX12_simplex 2 = .ok (.invokevirtual 145, 3) := by decide +kernel
theorem dX12_simplex_5 : decode cX12_simplex 5 = .ok (.ifCond .ne 5, 3) := by decide +kernel
theorem dX12_simplex_8 : decode cX12_simplex 8 = .ok (.iconst (-1), 1) := by decide +kernel
theorem dX12_simplex_9 : decode cX12_simplex 9 = .ok (.ireturn, 1) := by decide +kernel
theorem dX12_simplex_10 : decode cX12_simplex 10 = .ok (.iload_n 2, 1) := by decide +kernel
theorem dX12_simplex_11 : decode cX12_simplex 11 = .ok (.tableswitch 130 0 6 #[41, 48, 54, 72, 79, 102, 124], 41) := by decide +kernel
theorem dX12_simplex_52 : decode cX12_simplex 52 = .ok (.aload_n 0, 1) := by decide +kernel
theorem dX12_simplex_53 : decode cX12_simplex 53 = .ok (.getfield 21, 3) := by decide +kernel
theorem dX12_simplex_56 : decode cX12_simplex 56 = .ok (.iload_n 1, 1) := by decide +kernel
theorem dX12_simplex_57 : decode cX12_simplex 57 = .ok (.iaload, 1) := by decide +kernel
theorem dX12_simplex_58 : decode cX12_simplex 58 = .ok (.ireturn, 1) := by decide +kernel
theorem dX12_simplex_59 : decode cX12_simplex 59 = .ok (.aload_n 0, 1) := by decide +kernel
theorem dX12_simplex_60 : decode cX12_simplex 60 = .ok (.iload_n 1, 1) := by decide +kernel
theorem dX12_simplex_61 : decode cX12_simplex 61 = .ok (.invokevirtual 149, 3) := by decide +kernel
theorem dX12_simplex_64 : decode cX12_simplex 64 = .ok (.ireturn, 1) := by decide +kernel
theorem dX12_simplex_65 : decode cX12_simplex 65 = .ok (.aload_n 0, 1) := by decide +kernel
theorem dX12_simplex_66 : decode cX12_simplex 66 = .ok (.getfield 31, 3) := by decide +kernel
theorem dX12_simplex_69 : decode cX12_simplex 69 = .ok (.iload_n 1, 1) := by decide +kernel
theorem dX12_simplex_70 : decode cX12_simplex 70 = .ok (.baload, 1) := by decide +kernel
theorem dX12_simplex_71 : decode cX12_simplex 71 = .ok (.ifCond .ne 7, 3) := by decide +kernel
theorem dX12_simplex_74 : decode cX12_simplex 74 = .ok (.iconst 1, 1) := by decide +kernel
theorem dX12_simplex_75 : decode cX12_simplex 75 = .ok (.goto 4, 3) := by decide +kernel
theorem dX12_simplex_78 : decode cX12_simplex 78 = .ok (.iconst 0, 1) := by decide +kernel
theorem dX12_simplex_79 : decode cX12_simplex 79 = .ok (.invokestatic 105, 3) := by decide +kernel
theorem dX12_simplex_82 : decode cX12_simplex 82 = .ok (.ireturn, 1) := by decide +kernel
theorem dX12_simplex_83 : decode cX12_simplex 83 = .ok (.aload_n 0, 1) := by decide +kernel
theorem dX12_simplex_84 : decode cX12_simplex 84 = .ok (.getfield 28, 3) := by decide +kernel
theorem dX12_simplex_87 : decode cX12_simplex 87 = .ok (.iload_n 1, 1) := by decide +kernel
theorem dX12_simplex_88 : decode cX12_simplex 88 = .ok (.iaload, 1) := by decide +kernel
theorem dX12_simplex_89 : decode cX12_simplex 89 = .ok (.ireturn, 1) := by decide +kernel
theorem dX12_simplex_90 : decode cX12_simplex 90 = .ok (.aload_n 0, 1) := by decide +kernel
theorem dX12_simplex_91 : decode cX12_simplex 91 = .ok (.getfield 28, 3) := by decide +kernel
theorem dX12_simplex_94 : decode cX12_simplex 94 = .ok (.iload_n 1, 1) := by decide +kernel
theorem dX12_simplex_95 : decode cX12_simplex 95 = .ok (.iaload, 1) := by decide +kernel
theorem dX12_simplex_96 : decode cX12_simplex 96 = .ok (.iconst (-1), 1) := by decide +kernel
theorem dX12_simplex_97 : decode cX12_simplex 97 = .ok (.if_icmp .ne 7, 3) := by decide +kernel
theorem dX12_simplex_100 : decode cX12_simplex 100 = .ok (.iconst (-1), 1) := by decide +kernel
theorem dX12_simplex_101 : decode cX12_simplex 101 = .ok (.goto 11, 3) := by decide +kernel
theorem dX12_simplex_104 : decode cX12_simplex 104 = .ok (.aload_n 0, 1) := by decide +kernel
theorem dX12_simplex_105 : decode cX12_simplex 105 = .ok (.iload_n 1, 1) := by decide +kernel
theorem dX12_simplex_106 : decode cX12_simplex 106 = .ok (.invokevirtual 170, 3) := by decide +kernel
theorem dX12_simplex_109 : decode cX12_simplex 109 = .ok (.invokestatic 105, 3) := by decide +kernel
theorem dX12_simplex_112 : decode cX12_simplex 112 = .ok (.ireturn, 1) := by decide +kernel
theorem dX12_simplex_113 : decode cX12_simplex 113 = .ok (.aload_n 0, 1) := by decide +kernel
theorem dX12_simplex_114 : decode cX12_simplex 114 = .ok (.getfield 31, 3) := by decide +kernel
theorem dX12_simplex_117 : decode cX12_simplex 117 = .ok (.iload_n 1, 1) := by decide +kernel
theorem dX12_simplex_118 : decode cX12_simplex 118 = .ok (.baload, 1) := by decide +kernel
theorem dX12_simplex_119 : decode cX12_simplex 119 = .ok (.ifCond .eq 5, 3) := by decide +kernel
theorem dX12_simplex_122 : decode cX12_simplex 122 = .ok (.iconst (-1), 1) := by decide +kernel
theorem dX12_simplex_123 : decode cX12_simplex 123 = .ok (.ireturn, 1) := by decide +kernel
theorem dX12_simplex_124 : decode cX12_simplex 124 = .ok (.aload_n 0, 1) := by decide +kernel
theorem dX12_simplex_125 : decode cX12_simplex 125 = .ok (.invokevirtual 173, 3) := by decide +kernel
theorem dX12_simplex_128 : decode cX12_simplex 128 = .ok (.aload_n 0, 1) := by decide +kernel
theorem dX12_simplex_129 : decode cX12_simplex 129 = .ok (.getfield 34, 3) := by decide +kernel
theorem dX12_simplex_132 : decode cX12_simplex 132 = .ok (.iload_n 1, 1) := by decide +kernel
theorem dX12_simplex_133 : decode cX12_simplex 133 = .ok (.iaload, 1) := by decide +kernel
theorem dX12_simplex_134 : decode cX12_simplex 134 = .ok (.ireturn, 1) := by decide +kernel
theorem dX12_simplex_135 : decode cX12_simplex 135 = .ok (.aload_n 0, 1) := by decide +kernel
theorem dX12_simplex_136 : decode cX12_simplex 136 = .ok (.iload_n 1, 1) := by decide +kernel
theorem dX12_simplex_137 : decode cX12_simplex 137 = .ok (.invokevirtual 176, 3) := by decide +kernel
theorem dX12_simplex_140 : decode cX12_simplex 140 = .ok (.ireturn, 1) := by decide +kernel
theorem dX12_simplex_141 : decode cX12_simplex 141 = .ok (.iconst (-1), 1) := by decide +kernel
theorem dX12_simplex_142 : decode cX12_simplex 142 = .ok (.ireturn, 1) := by decide +kernel
theorem dX12_isAcyclic_0 : decode cX12_isAcyclic 0 = .ok (.iconst 0, 1) := by decide +kernel
theorem dX12_isAcyclic_1 : decode cX12_isAcyclic 1 = .ok (.istore_n 1, 1) := by decide +kernel
theorem dX12_isAcyclic_2 : decode cX12_isAcyclic 2 = .ok (.iload_n 1, 1) := by decide +kernel
theorem dX12_isAcyclic_3 : decode cX12_isAcyclic 3 = .ok (.aload_n 0, 1) := by decide +kernel
theorem dX12_isAcyclic_4 : decode cX12_isAcyclic 4 = .ok (.getfield 139, 3) := by decide +kernel
theorem dX12_isAcyclic_7 : decode cX12_isAcyclic 7 = .ok (.if_icmp .ge 23, 3) := by decide +kernel
theorem dX12_isAcyclic_10 : decode cX12_isAcyclic 10 = .ok (.aload_n 0, 1) := by decide +kernel
theorem dX12_isAcyclic_11 : decode cX12_isAcyclic 11 = .ok (.getfield 37, 3) := by decide +kernel
theorem dX12_isAcyclic_14 : decode cX12_isAcyclic 14 = .ok (.iload_n 1, 1) := by decide +kernel
theorem dX12_isAcyclic_15 : decode cX12_isAcyclic 15 = .ok (.aload_n 0, 1) := by decide +kernel
theorem dX12_isAcyclic_16 : decode cX12_isAcyclic 16 = .ok (.iload_n 1, 1) := by decide +kernel
theorem dX12_isAcyclic_17 : decode cX12_isAcyclic 17 = .ok (.invokevirtual 170, 3) := by decide +kernel
theorem dX12_isAcyclic_20 : decode cX12_isAcyclic 20 = .ok (.invokestatic 105, 3) := by decide +kernel
theorem dX12_isAcyclic_23 : decode cX12_isAcyclic 23 = .ok (.iastore, 1) := by decide +kernel
theorem dX12_isAcyclic_24 : decode cX12_isAcyclic 24 = .ok (.iinc 1 1, 3) := by decide +kernel
theorem dX12_isAcyclic_27 : decode cX12_isAcyclic 27 = .ok (.goto (-25), 3) := by decide +kernel
theorem dX12_isAcyclic_30 : decode cX12_isAcyclic 30 = .ok (.iconst 1, 1) := by decide +kernel
theorem dX12_isAcyclic_31 : decode cX12_isAcyclic 31 = .ok (.istore_n 1, 1) := by decide +kernel
theorem dX12_isAcyclic_32 : decode cX12_isAcyclic 32 = .ok (.iload_n 1, 1) := by decide +kernel
theorem dX12_isAcyclic_33 : decode cX12_isAcyclic 33 = .ok (.ifCond .eq 51, 3) := by decide +kernel
theorem dX12_isAcyclic_36 : decode cX12_isAcyclic 36 = .ok (.iconst 0, 1) := by decide +kernel
theorem dX12_isAcyclic_37 : decode cX12_isAcyclic 37 = .ok (.istore_n 1, 1) := by decide +kernel
theorem dX12_isAcyclic_38 : decode cX12_isAcyclic 38 = .ok (.iconst 0, 1) := by decide +kernel
theorem dX12_isAcyclic_39 : decode cX12_isAcyclic 39 = .ok (.istore_n 2, 1) := by decide +kernel
theorem dX12_isAcyclic_40 : decode cX12_isAcyclic 40 = .ok (.iload_n 2, 1) := by decide +kernel
theorem dX12_isAcyclic_41 : decode cX12_isAcyclic 41 = .ok (.aload_n 0, 1) := by decide +kernel
theorem dX12_isAcyclic_42 : decode cX12_isAcyclic 42 = .ok (.getfield 139, 3) := by decide +kernel
theorem dX12_isAcyclic_45 : decode cX12_isAcyclic 45 = .ok (.if_icmp .ge 36, 3) := by decide +kernel
theorem dX12_isAcyclic_48 : decode cX12_isAcyclic 48 = .ok (.aload_n 0, 1) := by decide +kernel
theorem dX12_isAcyclic_49 : decode cX12_isAcyclic 49 = .ok (.getfield 37, 3) := by decide +kernel
theorem dX12_isAcyclic_52 : decode cX12_isAcyclic 52 = .ok (.iload_n 2, 1) := by decide +kernel
theorem dX12_isAcyclic_53 : decode cX12_isAcyclic 53 = .ok (.iaload, 1) := by decide +kernel
theorem dX12_isAcyclic_54 : decode cX12_isAcyclic 54 = .ok (.iconst 1, 1) := by decide +kernel
theorem dX12_isAcyclic_55 : decode cX12_isAcyclic 55 = .ok (.if_icmp .ne 20, 3) := by decide +kernel
theorem dX12_isAcyclic_58 : decode cX12_isAcyclic 58 = .ok (.aload_n 0, 1) := by decide +kernel
theorem dX12_isAcyclic_59 : decode cX12_isAcyclic 59 = .ok (.iload_n 2, 1) := by decide +kernel
theorem dX12_isAcyclic_60 : decode cX12_isAcyclic 60 = .ok (.invokevirtual 179, 3) := by decide +kernel
theorem dX12_isAcyclic_63 : decode cX12_isAcyclic 63 = .ok (.ifCond .ne 12, 3) := by decide +kernel
theorem dX12_isAcyclic_66 : decode cX12_isAcyclic 66 = .ok (.aload_n 0, 1) := by decide +kernel
theorem dX12_isAcyclic_67 : decode cX12_isAcyclic 67 = .ok (.getfield 37, 3) := by decide +kernel
theorem dX12_isAcyclic_70 : decode cX12_isAcyclic 70 = .ok (.iload_n 2, 1) := by decide +kernel
theorem dX12_isAcyclic_71 : decode cX12_isAcyclic 71 = .ok (.iconst 0, 1) := by decide +kernel
theorem dX12_isAcyclic_72 : decode cX12_isAcyclic 72 = .ok (.iastore, 1) := by decide +kernel
theorem dX12_isAcyclic_73 : decode cX12_isAcyclic 73 = .ok (.iconst 1, 1) := by decide +kernel
theorem dX12_isAcyclic_74 : decode cX12_isAcyclic 74 = .ok (.istore_n 1, 1) := by decide +kernel
theorem dX12_isAcyclic_75 : decode cX12_isAcyclic 75 = .ok (.iinc 2 1, 3) := by decide +kernel
theorem dX12_isAcyclic_78 : decode cX12_isAcyclic 78 = .ok (.goto (-38), 3) := by decide +kernel
theorem dX12_isAcyclic_81 : decode cX12_isAcyclic 81 = .ok (.goto (-49), 3) := by decide +kernel
theorem dX12_isAcyclic_84 : decode cX12_isAcyclic 84 = .ok (.iconst 0, 1) := by decide +kernel
theorem dX12_isAcyclic_85 : decode cX12_isAcyclic 85 = .ok (.istore_n 2, 1) := by decide +kernel
theorem dX12_isAcyclic_86 : decode cX12_isAcyclic 86 = .ok (.iload_n 2, 1) := by decide +kernel
theorem dX12_isAcyclic_87 : decode cX12_isAcyclic 87 = .ok (.aload_n 0, 1) := by decide +kernel
theorem dX12_isAcyclic_88 : decode cX12_isAcyclic 88 = .ok (.getfield 139, 3) := by decide +kernel
theorem dX12_isAcyclic_91 : decode cX12_isAcyclic 91 = .ok (.if_icmp .ge 21, 3) := by decide +kernel
theorem dX12_isAcyclic_94 : decode cX12_isAcyclic 94 = .ok (.aload_n 0, 1) := by decide +kernel
theorem dX12_isAcyclic_95 : decode cX12_isAcyclic 95 = .ok (.getfield 37, 3) := by decide +kernel
theorem dX12_isAcyclic_98 : decode cX12_isAcyclic 98 = .ok (.iload_n 2, 1) := by decide +kernel
theorem dX12_isAcyclic_99 : decode cX12_isAcyclic 99 = .ok (.iaload, 1) := by decide +kernel
theorem dX12_isAcyclic_100 : decode cX12_isAcyclic 100 = .ok (.iconst 1, 1) := by decide +kernel
theorem dX12_isAcyclic_101 : decode cX12_isAcyclic 101 = .ok (.if_icmp .ne 5, 3) := by decide +kernel
theorem dX12_isAcyclic_104 : decode cX12_isAcyclic 104 = .ok (.iconst 0, 1) := by decide +kernel
theorem dX12_isAcyclic_105 : decode cX12_isAcyclic 105 = .ok (.ireturn, 1) := by decide +kernel
theorem dX12_isAcyclic_106 : decode cX12_isAcyclic 106 = .ok (.iinc 2 1, 3) := by decide +kernel
theorem dX12_isAcyclic_109 : decode cX12_isAcyclic 109 = .ok (.goto (-23), 3) := by decide +kernel
theorem dX12_isAcyclic_112 : decode cX12_isAcyclic 112 = .ok (.iconst 1, 1) := by decide +kernel
theorem dX12_isAcyclic_113 : decode cX12_isAcyclic 113 = .ok (.ireturn, 1) := by decide +kernel
theorem dX12_leadsOn_0 : decode cX12_leadsOn 0 = .ok (.iconst 0, 1) := by decide +kernel
theorem dX12_leadsOn_1 : decode cX12_leadsOn 1 = .ok (.istore_n 2, 1) := by decide +kernel
theorem dX12_leadsOn_2 : decode cX12_leadsOn 2 = .ok (.iload_n 2, 1) := by decide +kernel
theorem dX12_leadsOn_3 : decode cX12_leadsOn 3 = .ok (.aload_n 0, 1) := by decide +kernel
theorem dX12_leadsOn_4 : decode cX12_leadsOn 4 = .ok (.getfield 139, 3) := by decide +kernel
theorem dX12_leadsOn_7 : decode cX12_leadsOn 7 = .ok (.if_icmp .ge 40, 3) := by decide +kernel
theorem dX12_leadsOn_10 : decode cX12_leadsOn 10 = .ok (.iload_n 2, 1) := by decide +kernel
theorem dX12_leadsOn_11 : decode cX12_leadsOn 11 = .ok (.iload_n 1, 1) := by decide +kernel
theorem dX12_leadsOn_12 : decode cX12_leadsOn 12 = .ok (.if_icmp .eq 29, 3) := by decide +kernel
theorem dX12_leadsOn_15 : decode cX12_leadsOn 15 = .ok (.aload_n 0, 1) := by decide +kernel
theorem dX12_leadsOn_16 : decode cX12_leadsOn 16 = .ok (.getfield 37, 3) := by decide +kernel
theorem dX12_leadsOn_19 : decode cX12_leadsOn 19 = .ok (.iload_n 2, 1) := by decide +kernel
theorem dX12_leadsOn_20 : decode cX12_leadsOn 20 = .ok (.iaload, 1) := by decide +kernel
theorem dX12_leadsOn_21 : decode cX12_leadsOn 21 = .ok (.iconst 1, 1) := by decide +kernel
theorem dX12_leadsOn_22 : decode cX12_leadsOn 22 = .ok (.if_icmp .ne 19, 3) := by decide +kernel
theorem dX12_leadsOn_25 : decode cX12_leadsOn 25 = .ok (.aload_n 0, 1) := by decide +kernel
theorem dX12_leadsOn_26 : decode cX12_leadsOn 26 = .ok (.iload_n 2, 1) := by decide +kernel
theorem dX12_leadsOn_27 : decode cX12_leadsOn 27 = .ok (.aload_n 0, 1) := by decide +kernel
theorem dX12_leadsOn_28 : decode cX12_leadsOn 28 = .ok (.getfield 28, 3) := by decide +kernel
theorem dX12_leadsOn_31 : decode cX12_leadsOn 31 = .ok (.iload_n 1, 1) := by decide +kernel
theorem dX12_leadsOn_32 : decode cX12_leadsOn 32 = .ok (.iaload, 1) := by decide +kernel
theorem dX12_leadsOn_33 : decode cX12_leadsOn 33 = .ok (.invokevirtual 152, 3) := by decide +kernel
theorem dX12_leadsOn_36 : decode cX12_leadsOn 36 = .ok (.ifCond .eq 5, 3) := by decide +kernel
theorem dX12_leadsOn_39 : decode cX12_leadsOn 39 = .ok (.iconst 1, 1) := by decide +kernel
theorem dX12_leadsOn_40 : decode cX12_leadsOn 40 = .ok (.ireturn, 1) := by decide +kernel
theorem dX12_leadsOn_41 : decode cX12_leadsOn 41 = .ok (.iinc 2 1, 3) := by decide +kernel
theorem dX12_leadsOn_44 : decode cX12_leadsOn 44 = .ok (.goto (-42), 3) := by decide +kernel
theorem dX12_leadsOn_47 : decode cX12_leadsOn 47 = .ok (.iconst 0, 1) := by decide +kernel
theorem dX12_leadsOn_48 : decode cX12_leadsOn 48 = .ok (.ireturn, 1) := by decide +kernel
theorem dX12_couples_0 : decode cX12_couples 0 = .ok (.aload_n 0, 1) := by decide +kernel
theorem dX12_couples_1 : decode cX12_couples 1 = .ok (.getfield 28, 3) := by decide +kernel
theorem dX12_couples_4 : decode cX12_couples 4 = .ok (.iload_n 1, 1) := by decide +kernel
theorem dX12_couples_5 : decode cX12_couples 5 = .ok (.iload_n 2, 1) := by decide +kernel
theorem dX12_couples_6 : decode cX12_couples 6 = .ok (.iastore, 1) := by decide +kernel
theorem dX12_couples_7 : decode cX12_couples 7 = .ok (.aload_n 0, 1) := by decide +kernel
theorem dX12_couples_8 : decode cX12_couples 8 = .ok (.getfield 28, 3) := by decide +kernel
theorem dX12_couples_11 : decode cX12_couples 11 = .ok (.iload_n 2, 1) := by decide +kernel
theorem dX12_couples_12 : decode cX12_couples 12 = .ok (.iload_n 1, 1) := by decide +kernel
theorem dX12_couples_13 : decode cX12_couples 13 = .ok (.iastore, 1) := by decide +kernel
theorem dX12_couples_14 : decode cX12_couples 14 = .ok (.aload_n 0, 1) := by decide +kernel
theorem dX12_couples_15 : decode cX12_couples 15 = .ok (.invokevirtual 182, 3) := by decide +kernel
theorem dX12_couples_18 : decode cX12_couples 18 = .ok (.ifCond .eq 5, 3) := by decide +kernel
theorem dX12_couples_21 : decode cX12_couples 21 = .ok (.iconst 1, 1) := by decide +kernel
theorem dX12_couples_22 : decode cX12_couples 22 = .ok (.ireturn, 1) := by decide +kernel
theorem dX12_couples_23 : decode cX12_couples 23 = .ok (.aload_n 0, 1) := by decide +kernel
theorem dX12_couples_24 : decode cX12_couples 24 = .ok (.getfield 28, 3) := by decide +kernel
theorem dX12_couples_27 : decode cX12_couples 27 = .ok (.iload_n 1, 1) := by decide +kernel
theorem dX12_couples_28 : decode cX12_couples 28 = .ok (.iconst (-1), 1) := by decide +kernel
theorem dX12_couples_29 : decode cX12_couples 29 = .ok (.iastore, 1) := by decide +kernel
theorem dX12_couples_30 : decode cX12_couples 30 = .ok (.aload_n 0, 1) := by decide +kernel
theorem dX12_couples_31 : decode cX12_couples 31 = .ok (.getfield 28, 3) := by decide +kernel
theorem dX12_couples_34 : decode cX12_couples 34 = .ok (.iload_n 2, 1) := by decide +kernel
theorem dX12_couples_35 : decode cX12_couples 35 = .ok (.iconst (-1), 1) := by decide +kernel
theorem dX12_couples_36 : decode cX12_couples 36 = .ok (.iastore, 1) := by decide +kernel
theorem dX12_couples_37 : decode cX12_couples 37 = .ok (.iconst 0, 1) := by decide +kernel
theorem dX12_couples_38 : decode cX12_couples 38 = .ok (.ireturn, 1) := by decide +kernel
theorem dX12_remembers_0 : decode cX12_remembers 0 = .ok (.aload_n 0, 1) := by decide +kernel
theorem dX12_remembers_1 : decode cX12_remembers 1 = .ok (.getfield 142, 3) := by decide +kernel
theorem dX12_remembers_4 : decode cX12_remembers 4 = .ok (.bipush 16, 2) := by decide +kernel
theorem dX12_remembers_6 : decode cX12_remembers 6 = .ok (.if_icmp .ne 44, 3) := by decide +kernel
theorem dX12_remembers_9 : decode cX12_remembers 9 = .ok (.bipush 120, 2) := by decide +kernel
theorem dX12_remembers_11 : decode cX12_remembers 11 = .ok (.istore_n 1, 1) := by decide +kernel
theorem dX12_remembers_12 : decode cX12_remembers 12 = .ok (.iload_n 1, 1) := by decide +kernel
theorem dX12_remembers_13 : decode cX12_remembers 13 = .ok (.sipush 1920, 3) := by decide +kernel
theorem dX12_remembers_16 : decode cX12_remembers 16 = .ok (.if_icmp .ge 24, 3) := by decide +kernel
theorem dX12_remembers_19 : decode cX12_remembers 19 = .ok (.aload_n 0, 1) := by decide +kernel
theorem dX12_remembers_20 : decode cX12_remembers 20 = .ok (.getfield 40, 3) := by decide +kernel
theorem dX12_remembers_23 : decode cX12_remembers 23 = .ok (.iload_n 1, 1) := by decide +kernel
theorem dX12_remembers_24 : decode cX12_remembers 24 = .ok (.bipush 120, 2) := by decide +kernel
theorem dX12_remembers_26 : decode cX12_remembers 26 = .ok (.isub, 1) := by decide +kernel
theorem dX12_remembers_27 : decode cX12_remembers 27 = .ok (.aload_n 0, 1) := by decide +kernel
theorem dX12_remembers_28 : decode cX12_remembers 28 = .ok (.getfield 40, 3) := by decide +kernel
theorem dX12_remembers_31 : decode cX12_remembers 31 = .ok (.iload_n 1, 1) := by decide +kernel
theorem dX12_remembers_32 : decode cX12_remembers 32 = .ok (.iaload, 1) := by decide +kernel
theorem dX12_remembers_33 : decode cX12_remembers 33 = .ok (.iastore, 1) := by decide +kernel
theorem dX12_remembers_34 : decode cX12_remembers 34 = .ok (.iinc 1 1, 3) := by decide +kernel
theorem dX12_remembers_37 : decode cX12_remembers 37 = .ok (.goto (-25), 3) := by decide +kernel
theorem dX12_remembers_40 : decode cX12_remembers 40 = .ok (.aload_n 0, 1) := by decide +kernel
theorem dX12_remembers_41 : decode cX12_remembers 41 = .ok (.dup, 1) := by decide +kernel
theorem dX12_remembers_42 : decode cX12_remembers 42 = .ok (.getfield 142, 3) := by decide +kernel
theorem dX12_remembers_45 : decode cX12_remembers 45 = .ok (.iconst 1, 1) := by decide +kernel
theorem dX12_remembers_46 : decode cX12_remembers 46 = .ok (.isub, 1) := by decide +kernel
theorem dX12_remembers_47 : decode cX12_remembers 47 = .ok (.putfield 142, 3) := by decide +kernel
theorem dX12_remembers_50 : decode cX12_remembers 50 = .ok (.bipush 120, 2) := by decide +kernel
theorem dX12_remembers_52 : decode cX12_remembers 52 = .ok (.aload_n 0, 1) := by decide +kernel
theorem dX12_remembers_53 : decode cX12_remembers 53 = .ok (.getfield 142, 3) := by decide +kernel
theorem dX12_remembers_56 : decode cX12_remembers 56 = .ok (.imul, 1) := by decide +kernel
theorem dX12_remembers_57 : decode cX12_remembers 57 = .ok (.istore_n 1, 1) := by decide +kernel
theorem dX12_remembers_58 : decode cX12_remembers 58 = .ok (.iconst 0, 1) := by decide +kernel
theorem dX12_remembers_59 : decode cX12_remembers 59 = .ok (.istore_n 2, 1) := by decide +kernel
theorem dX12_remembers_60 : decode cX12_remembers 60 = .ok (.iload_n 2, 1) := by decide +kernel
theorem dX12_remembers_61 : decode cX12_remembers 61 = .ok (.bipush 60, 2) := by decide +kernel
theorem dX12_remembers_63 : decode cX12_remembers 63 = .ok (.if_icmp .ge 43, 3) := by decide +kernel
theorem dX12_remembers_66 : decode cX12_remembers 66 = .ok (.aload_n 0, 1) := by decide +kernel
theorem dX12_remembers_67 : decode cX12_remembers 67 = .ok (.getfield 40, 3) := by decide +kernel
theorem dX12_remembers_70 : decode cX12_remembers 70 = .ok (.iload_n 1, 1) := by decide +kernel
theorem dX12_remembers_71 : decode cX12_remembers 71 = .ok (.iload_n 2, 1) := by decide +kernel
theorem dX12_remembers_72 : decode cX12_remembers 72 = .ok (.iadd, 1) := by decide +kernel
theorem dX12_remembers_73 : decode cX12_remembers 73 = .ok (.aload_n 0, 1) := by decide +kernel
theorem dX12_remembers_74 : decode cX12_remembers 74 = .ok (.getfield 28, 3) := by decide +kernel
theorem dX12_remembers_77 : decode cX12_remembers 77 = .ok (.iload_n 2, 1) := by decide +kernel
theorem dX12_remembers_78 : decode cX12_remembers 78 = .ok (.iaload, 1) := by decide +kernel
theorem dX12_remembers_79 : decode cX12_remembers 79 = .ok (.iastore, 1) := by decide +kernel
theorem dX12_remembers_80 : decode cX12_remembers 80 = .ok (.aload_n 0, 1) := by decide +kernel
theorem dX12_remembers_81 : decode cX12_remembers 81 = .ok (.getfield 40, 3) := by decide +kernel
theorem dX12_remembers_84 : decode cX12_remembers 84 = .ok (.iload_n 1, 1) := by decide +kernel
theorem dX12_remembers_85 : decode cX12_remembers 85 = .ok (.bipush 60, 2) := by decide +kernel
theorem dX12_remembers_87 : decode cX12_remembers 87 = .ok (.iadd, 1) := by decide +kernel
theorem dX12_remembers_88 : decode cX12_remembers 88 = .ok (.iload_n 2, 1) := by decide +kernel
theorem dX12_remembers_89 : decode cX12_remembers 89 = .ok (.iadd, 1) := by decide +kernel
theorem dX12_remembers_90 : decode cX12_remembers 90 = .ok (.aload_n 0, 1) := by decide +kernel
theorem dX12_remembers_91 : decode cX12_remembers 91 = .ok (.getfield 31, 3) := by decide +kernel
theorem dX12_remembers_94 : decode cX12_remembers 94 = .ok (.iload_n 2, 1) := by decide +kernel
theorem dX12_remembers_95 : decode cX12_remembers 95 = .ok (.baload, 1) := by decide +kernel
theorem dX12_remembers_96 : decode cX12_remembers 96 = .ok (.invokestatic 105, 3) := by decide +kernel
theorem dX12_remembers_99 : decode cX12_remembers 99 = .ok (.iastore, 1) := by decide +kernel
theorem dX12_remembers_100 : decode cX12_remembers 100 = .ok (.iinc 2 1, 3) := by decide +kernel
theorem dX12_remembers_103 : decode cX12_remembers 103 = .ok (.goto (-43), 3) := by decide +kernel
theorem dX12_remembers_106 : decode cX12_remembers 106 = .ok (.aload_n 0, 1) := by decide +kernel
theorem dX12_remembers_107 : decode cX12_remembers 107 = .ok (.dup, 1) := by decide +kernel
theorem dX12_remembers_108 : decode cX12_remembers 108 = .ok (.getfield 142, 3) := by decide +kernel
theorem dX12_remembers_111 : decode cX12_remembers 111 = .ok (.iconst 1, 1) := by decide +kernel
theorem dX12_remembers_112 : decode cX12_remembers 112 = .ok (.iadd, 1) := by decide +kernel
theorem dX12_remembers_113 : decode cX12_remembers 113 = .ok (.putfield 142, 3) := by decide +kernel
theorem dX12_remembers_116 : decode cX12_remembers 116 = .ok (.return_, 1) := by decide +kernel
theorem dX12_undo_0 : decode cX12_undo 0 = .ok (.aload_n 0, 1) := by decide +kernel
theorem dX12_undo_1 : decode cX12_undo 1 = .ok (.getfield 142, 3) := by decide +kernel
theorem dX12_undo_4 : decode cX12_undo 4 = .ok (.ifCond .ne 5, 3) := by decide +kernel
theorem dX12_undo_7 : decode cX12_undo 7 = .ok (.iconst (-1), 1) := by decide +kernel
theorem dX12_undo_8 : decode cX12_undo 8 = .ok (.ireturn, 1) := by decide +kernel
theorem dX12_undo_9 : decode cX12_undo 9 = .ok (.aload_n 0, 1) := by decide +kernel
theorem dX12_undo_10 : decode cX12_undo 10 = .ok (.dup, 1) := by decide +kernel
theorem dX12_undo_11 : decode cX12_undo 11 = .ok (.getfield 142, 3) := by decide +kernel
theorem dX12_undo_14 : decode cX12_undo 14 = .ok (.iconst 1, 1) := by decide +kernel
theorem dX12_undo_15 : decode cX12_undo 15 = .ok (.isub, 1) := by decide +kernel
theorem dX12_undo_16 : decode cX12_undo 16 = .ok (.putfield 142, 3) := by decide +kernel
theorem dX12_undo_19 : decode cX12_undo 19 = .ok (.bipush 120, 2) := by decide +kernel
theorem dX12_undo_21 : decode cX12_undo 21 = .ok (.aload_n 0, 1) := by decide +kernel
theorem dX12_undo_22 : decode cX12_undo 22 = .ok (.getfield 142, 3) := by decide +kernel
theorem dX12_undo_25 : decode cX12_undo 25 = .ok (.imul, 1) := by decide +kernel
theorem dX12_undo_26 : decode cX12_undo 26 = .ok (.istore_n 1, 1) := by decide +kernel
theorem dX12_undo_27 : decode cX12_undo 27 = .ok (.iconst 0, 1) := by decide +kernel
theorem dX12_undo_28 : decode cX12_undo 28 = .ok (.istore_n 2, 1) := by decide +kernel
theorem dX12_undo_29 : decode cX12_undo 29 = .ok (.iload_n 2, 1) := by decide +kernel
theorem dX12_undo_30 : decode cX12_undo 30 = .ok (.bipush 60, 2) := by decide +kernel
theorem dX12_undo_32 : decode cX12_undo 32 = .ok (.if_icmp .ge 49, 3) := by decide +kernel
theorem dX12_undo_35 : decode cX12_undo 35 = .ok (.aload_n 0, 1) := by decide +kernel
theorem dX12_undo_36 : decode cX12_undo 36 = .ok (.getfield 28, 3) := by decide +kernel
theorem dX12_undo_39 : decode cX12_undo 39 = .ok (.iload_n 2, 1) := by decide +kernel
theorem dX12_undo_40 : decode cX12_undo 40 = .ok (.aload_n 0, 1) := by decide +kernel
theorem dX12_undo_41 : decode cX12_undo 41 = .ok (.getfield 40, 3) := by decide +kernel
theorem dX12_undo_44 : decode cX12_undo 44 = .ok (.iload_n 1, 1) := by decide +kernel
theorem dX12_undo_45 : decode cX12_undo 45 = .ok (.iload_n 2, 1) := by decide +kernel
theorem dX12_undo_46 : decode cX12_undo 46 = .ok (.iadd, 1) := by decide +kernel
theorem dX12_undo_47 : decode cX12_undo 47 = .ok (.iaload, 1) := by decide +kernel
theorem dX12_undo_48 : decode cX12_undo 48 = .ok (.iastore, 1) := by decide +kernel
theorem dX12_undo_49 : decode cX12_undo 49 = .ok (.aload_n 0, 1) := by decide +kernel
theorem dX12_undo_50 : decode cX12_undo 50 = .ok (.getfield 31, 3) := by decide +kernel
theorem dX12_undo_53 : decode cX12_undo 53 = .ok (.iload_n 2, 1) := by decide +kernel
theorem dX12_undo_54 : decode cX12_undo 54 = .ok (.aload_n 0, 1) := by decide +kernel
theorem dX12_undo_55 : decode cX12_undo 55 = .ok (.getfield 40, 3) := by decide +kernel
theorem dX12_undo_58 : decode cX12_undo 58 = .ok (.iload_n 1, 1) := by decide +kernel
theorem dX12_undo_59 : decode cX12_undo 59 = .ok (.bipush 60, 2) := by decide +kernel
theorem dX12_undo_61 : decode cX12_undo 61 = .ok (.iadd, 1) := by decide +kernel
theorem dX12_undo_62 : decode cX12_undo 62 = .ok (.iload_n 2, 1) := by decide +kernel
theorem dX12_undo_63 : decode cX12_undo 63 = .ok (.iadd, 1) := by decide +kernel
theorem dX12_undo_64 : decode cX12_undo 64 = .ok (.iaload, 1) := by decide +kernel
theorem dX12_undo_65 : decode cX12_undo 65 = .ok (.iconst 1, 1) := by decide +kernel
theorem dX12_undo_66 : decode cX12_undo 66 = .ok (.if_icmp .ne 7, 3) := by decide +kernel
theorem dX12_undo_69 : decode cX12_undo 69 = .ok (.iconst 1, 1) := by decide +kernel
theorem dX12_undo_70 : decode cX12_undo 70 = .ok (.goto 4, 3) := by decide +kernel
theorem dX12_undo_73 : decode cX12_undo 73 = .ok (.iconst 0, 1) := by decide +kernel
theorem dX12_undo_74 : decode cX12_undo 74 = .ok (.bastore, 1) := by decide +kernel
theorem dX12_undo_75 : decode cX12_undo 75 = .ok (.iinc 2 1, 3) := by decide +kernel
theorem dX12_undo_78 : decode cX12_undo 78 = .ok (.goto (-49), 3) := by decide +kernel
theorem dX12_undo_81 : decode cX12_undo 81 = .ok (.aload_n 0, 1) := by decide +kernel
theorem dX12_undo_82 : decode cX12_undo 82 = .ok (.getfield 142, 3) := by decide +kernel
theorem dX12_undo_85 : decode cX12_undo 85 = .ok (.ireturn, 1) := by decide +kernel
theorem dX12_isFree_0 : decode cX12_isFree 0 = .ok (.aload_n 0, 1) := by decide +kernel
theorem dX12_isFree_1 : decode cX12_isFree 1 = .ok (.getfield 28, 3) := by decide +kernel
theorem dX12_isFree_4 : decode cX12_isFree 4 = .ok (.iload_n 1, 1) := by decide +kernel
theorem dX12_isFree_5 : decode cX12_isFree 5 = .ok (.iaload, 1) := by decide +kernel
theorem dX12_isFree_6 : decode cX12_isFree 6 = .ok (.iconst (-1), 1) := by decide +kernel
theorem dX12_isFree_7 : decode cX12_isFree 7 = .ok (.if_icmp .ne 17, 3) := by decide +kernel
theorem dX12_isFree_10 : decode cX12_isFree 10 = .ok (.aload_n 0, 1) := by decide +kernel
theorem dX12_isFree_11 : decode cX12_isFree 11 = .ok (.getfield 28, 3) := by decide +kernel
theorem dX12_isFree_14 : decode cX12_isFree 14 = .ok (.iload_n 2, 1) := by decide +kernel
theorem dX12_isFree_15 : decode cX12_isFree 15 = .ok (.iaload, 1) := by decide +kernel
theorem dX12_isFree_16 : decode cX12_isFree 16 = .ok (.iconst (-1), 1) := by decide +kernel
theorem dX12_isFree_17 : decode cX12_isFree 17 = .ok (.if_icmp .ne 7, 3) := by decide +kernel
theorem dX12_isFree_20 : decode cX12_isFree 20 = .ok (.iconst 1, 1) := by decide +kernel
theorem dX12_isFree_21 : decode cX12_isFree 21 = .ok (.goto 4, 3) := by decide +kernel
theorem dX12_isFree_24 : decode cX12_isFree 24 = .ok (.iconst 0, 1) := by decide +kernel
theorem dX12_isFree_25 : decode cX12_isFree 25 = .ok (.ireturn, 1) := by decide +kernel
theorem dX12_pair_0 : decode cX12_pair 0 = .ok (.aload_n 0, 1) := by decide +kernel
theorem dX12_pair_1 : decode cX12_pair 1 = .ok (.iload_n 1, 1) := by decide +kernel
theorem dX12_pair_2 : decode cX12_pair 2 = .ok (.invokevirtual 156, 3) := by decide +kernel
theorem dX12_pair_5 : decode cX12_pair 5 = .ok (.ifCond .eq 29, 3) := by decide +kernel
theorem dX12_pair_8 : decode cX12_pair 8 = .ok (.aload_n 0, 1) := by decide +kernel
theorem dX12_pair_9 : decode cX12_pair 9 = .ok (.iload_n 2, 1) := by decide +kernel
theorem dX12_pair_10 : decode cX12_pair 10 = .ok (.invokevirtual 156, 3) := by decide +kernel
theorem dX12_pair_13 : decode cX12_pair 13 = .ok (.ifCond .eq 21, 3) := by decide +kernel
theorem dX12_pair_16 : decode cX12_pair 16 = .ok (.aload_n 0, 1) := by decide +kernel
theorem dX12_pair_17 : decode cX12_pair 17 = .ok (.iload_n 1, 1) := by decide +kernel
theorem dX12_pair_18 : decode cX12_pair 18 = .ok (.iload_n 2, 1) := by decide +kernel
theorem dX12_pair_19 : decode cX12_pair 19 = .ok (.invokevirtual 152, 3) := by decide +kernel
theorem dX12_pair_22 : decode cX12_pair 22 = .ok (.ifCond .eq 12, 3) := by decide +kernel
theorem dX12_pair_25 : decode cX12_pair 25 = .ok (.aload_n 0, 1) := by decide +kernel
theorem dX12_pair_26 : decode cX12_pair 26 = .ok (.iload_n 1, 1) := by decide +kernel
theorem dX12_pair_27 : decode cX12_pair 27 = .ok (.iload_n 2, 1) := by decide +kernel
theorem dX12_pair_28 : decode cX12_pair 28 = .ok (.invokevirtual 185, 3) := by decide +kernel
theorem dX12_pair_31 : decode cX12_pair 31 = .ok (.ifCond .ne 5, 3) := by decide +kernel
theorem dX12_pair_34 : decode cX12_pair 34 = .ok (.iconst (-1), 1) := by decide +kernel
theorem dX12_pair_35 : decode cX12_pair 35 = .ok (.ireturn, 1) := by decide +kernel
theorem dX12_pair_36 : decode cX12_pair 36 = .ok (.aload_n 0, 1) := by decide +kernel
theorem dX12_pair_37 : decode cX12_pair 37 = .ok (.iload_n 1, 1) := by decide +kernel
theorem dX12_pair_38 : decode cX12_pair 38 = .ok (.iload_n 2, 1) := by decide +kernel
theorem dX12_pair_39 : decode cX12_pair 39 = .ok (.invokevirtual 188, 3) := by decide +kernel
theorem dX12_pair_42 : decode cX12_pair 42 = .ok (.ifCond .ne 6, 3) := by decide +kernel
theorem dX12_pair_45 : decode cX12_pair 45 = .ok (.bipush (-2), 2) := by decide +kernel
theorem dX12_pair_47 : decode cX12_pair 47 = .ok (.ireturn, 1) := by decide +kernel
theorem dX12_pair_48 : decode cX12_pair 48 = .ok (.aload_n 0, 1) := by decide +kernel
theorem dX12_pair_49 : decode cX12_pair 49 = .ok (.iload_n 1, 1) := by decide +kernel
theorem dX12_pair_50 : decode cX12_pair 50 = .ok (.invokevirtual 191, 3) := by decide +kernel
theorem dX12_pair_53 : decode cX12_pair 53 = .ok (.aload_n 0, 1) := by decide +kernel
theorem dX12_pair_54 : decode cX12_pair 54 = .ok (.invokevirtual 194, 3) := by decide +kernel
theorem dX12_pair_57 : decode cX12_pair 57 = .ok (.aload_n 0, 1) := by decide +kernel
theorem dX12_pair_58 : decode cX12_pair 58 = .ok (.getfield 28, 3) := by decide +kernel
theorem dX12_pair_61 : decode cX12_pair 61 = .ok (.iload_n 1, 1) := by decide +kernel
theorem dX12_pair_62 : decode cX12_pair 62 = .ok (.iload_n 2, 1) := by decide +kernel
theorem dX12_pair_63 : decode cX12_pair 63 = .ok (.iastore, 1) := by decide +kernel
theorem dX12_pair_64 : decode cX12_pair 64 = .ok (.aload_n 0, 1) := by decide +kernel
theorem dX12_pair_65 : decode cX12_pair 65 = .ok (.getfield 28, 3) := by decide +kernel
theorem dX12_pair_68 : decode cX12_pair 68 = .ok (.iload_n 2, 1) := by decide +kernel
theorem dX12_pair_69 : decode cX12_pair 69 = .ok (.iload_n 1, 1) := by decide +kernel
theorem dX12_pair_70 : decode cX12_pair 70 = .ok (.iastore, 1) := by decide +kernel
theorem dX12_pair_71 : decode cX12_pair 71 = .ok (.aload_n 0, 1) := by decide +kernel
theorem dX12_pair_72 : decode cX12_pair 72 = .ok (.invokevirtual 197, 3) := by decide +kernel
theorem dX12_pair_75 : decode cX12_pair 75 = .ok (.ireturn, 1) := by decide +kernel
theorem dX12_frees_0 : decode cX12_frees 0 = .ok (.aload_n 0, 1) := by decide +kernel
theorem dX12_frees_1 : decode cX12_frees 1 = .ok (.getfield 28, 3) := by decide +kernel
theorem dX12_frees_4 : decode cX12_frees 4 = .ok (.iload_n 1, 1) := by decide +kernel
theorem dX12_frees_5 : decode cX12_frees 5 = .ok (.iaload, 1) := by decide +kernel
theorem dX12_frees_6 : decode cX12_frees 6 = .ok (.istore_n 2, 1) := by decide +kernel
theorem dX12_frees_7 : decode cX12_frees 7 = .ok (.iload_n 2, 1) := by decide +kernel
theorem dX12_frees_8 : decode cX12_frees 8 = .ok (.iconst (-1), 1) := by decide +kernel
theorem dX12_frees_9 : decode cX12_frees 9 = .ok (.if_icmp .eq 17, 3) := by decide +kernel
theorem dX12_frees_12 : decode cX12_frees 12 = .ok (.aload_n 0, 1) := by decide +kernel
theorem dX12_frees_13 : decode cX12_frees 13 = .ok (.getfield 28, 3) := by decide +kernel
theorem dX12_frees_16 : decode cX12_frees 16 = .ok (.iload_n 2, 1) := by decide +kernel
theorem dX12_frees_17 : decode cX12_frees 17 = .ok (.iconst (-1), 1) := by decide +kernel
theorem dX12_frees_18 : decode cX12_frees 18 = .ok (.iastore, 1) := by decide +kernel
theorem dX12_frees_19 : decode cX12_frees 19 = .ok (.aload_n 0, 1) := by decide +kernel
theorem dX12_frees_20 : decode cX12_frees 20 = .ok (.getfield 28, 3) := by decide +kernel
theorem dX12_frees_23 : decode cX12_frees 23 = .ok (.iload_n 1, 1) := by decide +kernel
theorem dX12_frees_24 : decode cX12_frees 24 = .ok (.iconst (-1), 1) := by decide +kernel
theorem dX12_frees_25 : decode cX12_frees 25 = .ok (.iastore, 1) := by decide +kernel
theorem dX12_frees_26 : decode cX12_frees 26 = .ok (.return_, 1) := by decide +kernel
theorem dX12_part_0 : decode cX12_part 0 = .ok (.aload_n 0, 1) := by decide +kernel
theorem dX12_part_1 : decode cX12_part 1 = .ok (.iload_n 1, 1) := by decide +kernel
theorem dX12_part_2 : decode cX12_part 2 = .ok (.invokevirtual 145, 3) := by decide +kernel
theorem dX12_part_5 : decode cX12_part 5 = .ok (.ifCond .eq 13, 3) := by decide +kernel
theorem dX12_part_8 : decode cX12_part 8 = .ok (.aload_n 0, 1) := by decide +kernel
theorem dX12_part_9 : decode cX12_part 9 = .ok (.getfield 28, 3) := by decide +kernel
theorem dX12_part_12 : decode cX12_part 12 = .ok (.iload_n 1, 1) := by decide +kernel
theorem dX12_part_13 : decode cX12_part 13 = .ok (.iaload, 1) := by decide +kernel
theorem dX12_part_14 : decode cX12_part 14 = .ok (.iconst (-1), 1) := by decide +kernel
theorem dX12_part_15 : decode cX12_part 15 = .ok (.if_icmp .ne 5, 3) := by decide +kernel
theorem dX12_part_18 : decode cX12_part 18 = .ok (.iconst (-1), 1) := by decide +kernel
theorem dX12_part_19 : decode cX12_part 19 = .ok (.ireturn, 1) := by decide +kernel
theorem dX12_part_20 : decode cX12_part 20 = .ok (.aload_n 0, 1) := by decide +kernel
theorem dX12_part_21 : decode cX12_part 21 = .ok (.invokevirtual 194, 3) := by decide +kernel
theorem dX12_part_24 : decode cX12_part 24 = .ok (.aload_n 0, 1) := by decide +kernel
theorem dX12_part_25 : decode cX12_part 25 = .ok (.iload_n 1, 1) := by decide +kernel
theorem dX12_part_26 : decode cX12_part 26 = .ok (.invokevirtual 191, 3) := by decide +kernel
theorem dX12_part_29 : decode cX12_part 29 = .ok (.aload_n 0, 1) := by decide +kernel
theorem dX12_part_30 : decode cX12_part 30 = .ok (.invokevirtual 197, 3) := by decide +kernel
theorem dX12_part_33 : decode cX12_part 33 = .ok (.ireturn, 1) := by decide +kernel
theorem dX12_clearsPairs_0 : decode cX12_clearsPairs 0 = .ok (.iconst 0, 1) := by decide +kernel
theorem dX12_clearsPairs_1 : decode cX12_clearsPairs 1 = .ok (.istore_n 1, 1) := by decide +kernel
theorem dX12_clearsPairs_2 : decode cX12_clearsPairs 2 = .ok (.iload_n 1, 1) := by decide +kernel
theorem dX12_clearsPairs_3 : decode cX12_clearsPairs 3 = .ok (.aload_n 0, 1) := by decide +kernel
theorem dX12_clearsPairs_4 : decode cX12_clearsPairs 4 = .ok (.getfield 139, 3) := by decide +kernel
theorem dX12_clearsPairs_7 : decode cX12_clearsPairs 7 = .ok (.if_icmp .ge 16, 3) := by decide +kernel
theorem dX12_clearsPairs_10 : decode cX12_clearsPairs 10 = .ok (.aload_n 0, 1) := by decide +kernel
theorem dX12_clearsPairs_11 : decode cX12_clearsPairs 11 = .ok (.getfield 28, 3) := by decide +kernel
theorem dX12_clearsPairs_14 : decode cX12_clearsPairs 14 = .ok (.iload_n 1, 1) := by decide +kernel
theorem dX12_clearsPairs_15 : decode cX12_clearsPairs 15 = .ok (.iconst (-1), 1) := by decide +kernel
theorem dX12_clearsPairs_16 : decode cX12_clearsPairs 16 = .ok (.iastore, 1) := by decide +kernel
theorem dX12_clearsPairs_17 : decode cX12_clearsPairs 17 = .ok (.iinc 1 1, 3) := by decide +kernel
theorem dX12_clearsPairs_20 : decode cX12_clearsPairs 20 = .ok (.goto (-18), 3) := by decide +kernel
theorem dX12_clearsPairs_23 : decode cX12_clearsPairs 23 = .ok (.return_, 1) := by decide +kernel
theorem dX12_auto0_0 : decode cX12_auto0 0 = .ok (.iconst 0, 1) := by decide +kernel
theorem dX12_auto0_1 : decode cX12_auto0 1 = .ok (.istore_n 1, 1) := by decide +kernel
theorem dX12_auto0_2 : decode cX12_auto0 2 = .ok (.iload_n 1, 1) := by decide +kernel
theorem dX12_auto0_3 : decode cX12_auto0 3 = .ok (.aload_n 0, 1) := by decide +kernel
theorem dX12_auto0_4 : decode cX12_auto0 4 = .ok (.getfield 139, 3) := by decide +kernel
theorem dX12_auto0_7 : decode cX12_auto0 7 = .ok (.if_icmp .ge 60, 3) := by decide +kernel
theorem dX12_auto0_10 : decode cX12_auto0 10 = .ok (.iload_n 1, 1) := by decide +kernel
theorem dX12_auto0_11 : decode cX12_auto0 11 = .ok (.iconst 1, 1) := by decide +kernel
theorem dX12_auto0_12 : decode cX12_auto0 12 = .ok (.iadd, 1) := by decide +kernel
theorem dX12_auto0_13 : decode cX12_auto0 13 = .ok (.istore_n 2, 1) := by decide +kernel
theorem dX12_auto0_14 : decode cX12_auto0 14 = .ok (.iload_n 2, 1) := by decide +kernel
theorem dX12_auto0_15 : decode cX12_auto0 15 = .ok (.aload_n 0, 1) := by decide +kernel
theorem dX12_auto0_16 : decode cX12_auto0 16 = .ok (.getfield 139, 3) := by decide +kernel
theorem dX12_auto0_19 : decode cX12_auto0 19 = .ok (.if_icmp .ge 42, 3) := by decide +kernel
theorem dX12_auto0_22 : decode cX12_auto0 22 = .ok (.aload_n 0, 1) := by decide +kernel
theorem dX12_auto0_23 : decode cX12_auto0 23 = .ok (.iload_n 1, 1) := by decide +kernel
theorem dX12_auto0_24 : decode cX12_auto0 24 = .ok (.invokevirtual 159, 3) := by decide +kernel
theorem dX12_auto0_27 : decode cX12_auto0 27 = .ok (.ifCond .eq 34, 3) := by decide +kernel
theorem dX12_auto0_30 : decode cX12_auto0 30 = .ok (.aload_n 0, 1) := by decide +kernel
theorem dX12_auto0_31 : decode cX12_auto0 31 = .ok (.iload_n 1, 1) := by decide +kernel
theorem dX12_auto0_32 : decode cX12_auto0 32 = .ok (.iload_n 2, 1) := by decide +kernel
theorem dX12_auto0_33 : decode cX12_auto0 33 = .ok (.invokevirtual 162, 3) := by decide +kernel
theorem dX12_auto0_36 : decode cX12_auto0 36 = .ok (.ifCond .eq 19, 3) := by decide +kernel
theorem dX12_auto0_39 : decode cX12_auto0 39 = .ok (.aload_n 0, 1) := by decide +kernel
theorem dX12_auto0_40 : decode cX12_auto0 40 = .ok (.iload_n 1, 1) := by decide +kernel
theorem dX12_auto0_41 : decode cX12_auto0 41 = .ok (.iload_n 2, 1) := by decide +kernel
theorem dX12_auto0_42 : decode cX12_auto0 42 = .ok (.invokevirtual 185, 3) := by decide +kernel
theorem dX12_auto0_45 : decode cX12_auto0 45 = .ok (.ifCond .eq 10, 3) := by decide +kernel
theorem dX12_auto0_48 : decode cX12_auto0 48 = .ok (.aload_n 0, 1) := by decide +kernel
theorem dX12_auto0_49 : decode cX12_auto0 49 = .ok (.iload_n 1, 1) := by decide +kernel
theorem dX12_auto0_50 : decode cX12_auto0 50 = .ok (.iload_n 2, 1) := by decide +kernel
theorem dX12_auto0_51 : decode cX12_auto0 51 = .ok (.invokevirtual 188, 3) := by decide +kernel
theorem dX12_auto0_54 : decode cX12_auto0 54 = .ok (.pop, 1) := by decide +kernel
theorem dX12_auto0_55 : decode cX12_auto0 55 = .ok (.iinc 2 1, 3) := by decide +kernel
theorem dX12_auto0_58 : decode cX12_auto0 58 = .ok (.goto (-44), 3) := by decide +kernel
theorem dX12_auto0_61 : decode cX12_auto0 61 = .ok (.iinc 1 1, 3) := by decide +kernel
theorem dX12_auto0_64 : decode cX12_auto0 64 = .ok (.goto (-62), 3) := by decide +kernel
theorem dX12_auto0_67 : decode cX12_auto0 67 = .ok (.return_, 1) := by decide +kernel
theorem dX12_auto1_0 : decode cX12_auto1 0 = .ok (.aload_n 0, 1) := by decide +kernel
theorem dX12_auto1_1 : decode cX12_auto1 1 = .ok (.getfield 139, 3) := by decide +kernel
theorem dX12_auto1_4 : decode cX12_auto1 4 = .ok (.iconst 1, 1) := by decide +kernel
theorem dX12_auto1_5 : decode cX12_auto1 5 = .ok (.isub, 1) := by decide +kernel
theorem dX12_auto1_6 : decode cX12_auto1 6 = .ok (.istore_n 1, 1) := by decide +kernel
theorem dX12_auto1_7 : decode cX12_auto1 7 = .ok (.iload_n 1, 1) := by decide +kernel
theorem dX12_auto1_8 : decode cX12_auto1 8 = .ok (.ifCond .lt 56, 3) := by decide +kernel
theorem dX12_auto1_11 : decode cX12_auto1 11 = .ok (.iload_n 1, 1) := by decide +kernel
theorem dX12_auto1_12 : decode cX12_auto1 12 = .ok (.iconst 1, 1) := by decide +kernel
theorem dX12_auto1_13 : decode cX12_auto1 13 = .ok (.isub, 1) := by decide +kernel
theorem dX12_auto1_14 : decode cX12_auto1 14 = .ok (.istore_n 2, 1) := by decide +kernel
theorem dX12_auto1_15 : decode cX12_auto1 15 = .ok (.iload_n 2, 1) := by decide +kernel
theorem dX12_auto1_16 : decode cX12_auto1 16 = .ok (.ifCond .lt 42, 3) := by decide +kernel
theorem dX12_auto1_19 : decode cX12_auto1 19 = .ok (.aload_n 0, 1) := by decide +kernel
theorem dX12_auto1_20 : decode cX12_auto1 20 = .ok (.iload_n 1, 1) := by decide +kernel
theorem dX12_auto1_21 : decode cX12_auto1 21 = .ok (.invokevirtual 159, 3) := by decide +kernel
theorem dX12_auto1_24 : decode cX12_auto1 24 = .ok (.ifCond .eq 34, 3) := by decide +kernel
theorem dX12_auto1_27 : decode cX12_auto1 27 = .ok (.aload_n 0, 1) := by decide +kernel
theorem dX12_auto1_28 : decode cX12_auto1 28 = .ok (.iload_n 2, 1) := by decide +kernel
theorem dX12_auto1_29 : decode cX12_auto1 29 = .ok (.iload_n 1, 1) := by decide +kernel
theorem dX12_auto1_30 : decode cX12_auto1 30 = .ok (.invokevirtual 162, 3) := by decide +kernel
theorem dX12_auto1_33 : decode cX12_auto1 33 = .ok (.ifCond .eq 19, 3) := by decide +kernel
theorem dX12_auto1_36 : decode cX12_auto1 36 = .ok (.aload_n 0, 1) := by decide +kernel
theorem dX12_auto1_37 : decode cX12_auto1 37 = .ok (.iload_n 2, 1) := by decide +kernel
theorem dX12_auto1_38 : decode cX12_auto1 38 = .ok (.iload_n 1, 1) := by decide +kernel
theorem dX12_auto1_39 : decode cX12_auto1 39 = .ok (.invokevirtual 185, 3) := by decide +kernel
theorem dX12_auto1_42 : decode cX12_auto1 42 = .ok (.ifCond .eq 10, 3) := by decide +kernel
theorem dX12_auto1_45 : decode cX12_auto1 45 = .ok (.aload_n 0, 1) := by decide +kernel
theorem dX12_auto1_46 : decode cX12_auto1 46 = .ok (.iload_n 2, 1) := by decide +kernel
theorem dX12_auto1_47 : decode cX12_auto1 47 = .ok (.iload_n 1, 1) := by decide +kernel
theorem dX12_auto1_48 : decode cX12_auto1 48 = .ok (.invokevirtual 188, 3) := by decide +kernel
theorem dX12_auto1_51 : decode cX12_auto1 51 = .ok (.pop, 1) := by decide +kernel
theorem dX12_auto1_52 : decode cX12_auto1 52 = .ok (.iinc 2 (-1), 3) := by decide +kernel
theorem dX12_auto1_55 : decode cX12_auto1 55 = .ok (.goto (-40), 3) := by decide +kernel
theorem dX12_auto1_58 : decode cX12_auto1 58 = .ok (.iinc 1 (-1), 3) := by decide +kernel
theorem dX12_auto1_61 : decode cX12_auto1 61 = .ok (.goto (-54), 3) := by decide +kernel
theorem dX12_auto1_64 : decode cX12_auto1 64 = .ok (.return_, 1) := by decide +kernel
theorem dX12_opensAll_0 : decode cX12_opensAll 0 = .ok (.aload_n 0, 1) := by decide +kernel
theorem dX12_opensAll_1 : decode cX12_opensAll 1 = .ok (.invokevirtual 200, 3) := by decide +kernel
theorem dX12_opensAll_4 : decode cX12_opensAll 4 = .ok (.iconst 0, 1) := by decide +kernel
theorem dX12_opensAll_5 : decode cX12_opensAll 5 = .ok (.istore_n 1, 1) := by decide +kernel
theorem dX12_opensAll_6 : decode cX12_opensAll 6 = .ok (.iload_n 1, 1) := by decide +kernel
theorem dX12_opensAll_7 : decode cX12_opensAll 7 = .ok (.aload_n 0, 1) := by decide +kernel
theorem dX12_opensAll_8 : decode cX12_opensAll 8 = .ok (.getfield 139, 3) := by decide +kernel
theorem dX12_opensAll_11 : decode cX12_opensAll 11 = .ok (.if_icmp .ge 29, 3) := by decide +kernel
theorem dX12_opensAll_14 : decode cX12_opensAll 14 = .ok (.aload_n 0, 1) := by decide +kernel
theorem dX12_opensAll_15 : decode cX12_opensAll 15 = .ok (.getfield 43, 3) := by decide +kernel
theorem dX12_opensAll_18 : decode cX12_opensAll 18 = .ok (.iload_n 1, 1) := by decide +kernel
theorem dX12_opensAll_19 : decode cX12_opensAll 19 = .ok (.aload_n 0, 1) := by decide +kernel
theorem dX12_opensAll_20 : decode cX12_opensAll 20 = .ok (.getfield 31, 3) := by decide +kernel
theorem dX12_opensAll_23 : decode cX12_opensAll 23 = .ok (.iload_n 1, 1) := by decide +kernel
theorem dX12_opensAll_24 : decode cX12_opensAll 24 = .ok (.baload, 1) := by decide +kernel
theorem dX12_opensAll_25 : decode cX12_opensAll 25 = .ok (.ifCond .ne 7, 3) := by decide +kernel
theorem dX12_opensAll_28 : decode cX12_opensAll 28 = .ok (.iconst 1, 1) := by decide +kernel
theorem dX12_opensAll_29 : decode cX12_opensAll 29 = .ok (.goto 4, 3) := by decide +kernel
theorem dX12_opensAll_32 : decode cX12_opensAll 32 = .ok (.iconst 0, 1) := by decide +kernel
theorem dX12_opensAll_33 : decode cX12_opensAll 33 = .ok (.bastore, 1) := by decide +kernel
theorem dX12_opensAll_34 : decode cX12_opensAll 34 = .ok (.iinc 1 1, 3) := by decide +kernel
theorem dX12_opensAll_37 : decode cX12_opensAll 37 = .ok (.goto (-31), 3) := by decide +kernel
theorem dX12_opensAll_40 : decode cX12_opensAll 40 = .ok (.return_, 1) := by decide +kernel
theorem dX12_onlyOver_0 : decode cX12_onlyOver 0 = .ok (.iconst (-1), 1) := by decide +kernel
theorem dX12_onlyOver_1 : decode cX12_onlyOver 1 = .ok (.istore_n 2, 1) := by decide +kernel
theorem dX12_onlyOver_2 : decode cX12_onlyOver 2 = .ok (.iconst 0, 1) := by decide +kernel
theorem dX12_onlyOver_3 : decode cX12_onlyOver 3 = .ok (.istore_n 3, 1) := by decide +kernel
theorem dX12_onlyOver_4 : decode cX12_onlyOver 4 = .ok (.iload_n 3, 1) := by decide +kernel
theorem dX12_onlyOver_5 : decode cX12_onlyOver 5 = .ok (.aload_n 0, 1) := by decide +kernel
theorem dX12_onlyOver_6 : decode cX12_onlyOver 6 = .ok (.getfield 139, 3) := by decide +kernel
theorem dX12_onlyOver_9 : decode cX12_onlyOver 9 = .ok (.if_icmp .ge 36, 3) := by decide +kernel
theorem dX12_onlyOver_12 : decode cX12_onlyOver 12 = .ok (.aload_n 0, 1) := by decide +kernel
theorem dX12_onlyOver_13 : decode cX12_onlyOver 13 = .ok (.getfield 43, 3) := by decide +kernel
theorem dX12_onlyOver_16 : decode cX12_onlyOver 16 = .ok (.iload_n 3, 1) := by decide +kernel
theorem dX12_onlyOver_17 : decode cX12_onlyOver 17 = .ok (.baload, 1) := by decide +kernel
theorem dX12_onlyOver_18 : decode cX12_onlyOver 18 = .ok (.ifCond .eq 21, 3) := by decide +kernel
theorem dX12_onlyOver_21 : decode cX12_onlyOver 21 = .ok (.aload_n 0, 1) := by decide +kernel
theorem dX12_onlyOver_22 : decode cX12_onlyOver 22 = .ok (.iload_n 1, 1) := by decide +kernel
theorem dX12_onlyOver_23 : decode cX12_onlyOver 23 = .ok (.iload_n 3, 1) := by decide +kernel
theorem dX12_onlyOver_24 : decode cX12_onlyOver 24 = .ok (.invokevirtual 152, 3) := by decide +kernel
theorem dX12_onlyOver_27 : decode cX12_onlyOver 27 = .ok (.ifCond .eq 12, 3) := by decide +kernel
theorem dX12_onlyOver_30 : decode cX12_onlyOver 30 = .ok (.iload_n 2, 1) := by decide +kernel
theorem dX12_onlyOver_31 : decode cX12_onlyOver 31 = .ok (.iconst (-1), 1) := by decide +kernel
theorem dX12_onlyOver_32 : decode cX12_onlyOver 32 = .ok (.if_icmp .eq 5, 3) := by decide +kernel
theorem dX12_onlyOver_35 : decode cX12_onlyOver 35 = .ok (.iconst (-1), 1) := by decide +kernel
theorem dX12_onlyOver_36 : decode cX12_onlyOver 36 = .ok (.ireturn, 1) := by decide +kernel
theorem dX12_onlyOver_37 : decode cX12_onlyOver 37 = .ok (.iload_n 3, 1) := by decide +kernel
theorem dX12_onlyOver_38 : decode cX12_onlyOver 38 = .ok (.istore_n 2, 1) := by decide +kernel
theorem dX12_onlyOver_39 : decode cX12_onlyOver 39 = .ok (.iinc 3 1, 3) := by decide +kernel
theorem dX12_onlyOver_42 : decode cX12_onlyOver 42 = .ok (.goto (-38), 3) := by decide +kernel
theorem dX12_onlyOver_45 : decode cX12_onlyOver 45 = .ok (.iload_n 2, 1) := by decide +kernel
theorem dX12_onlyOver_46 : decode cX12_onlyOver 46 = .ok (.ireturn, 1) := by decide +kernel
theorem dX12_closes_0 : decode cX12_closes 0 = .ok (.aload_n 0, 1) := by decide +kernel
theorem dX12_closes_1 : decode cX12_closes 1 = .ok (.getfield 28, 3) := by decide +kernel
theorem dX12_closes_4 : decode cX12_closes 4 = .ok (.iload_n 1, 1) := by decide +kernel
theorem dX12_closes_5 : decode cX12_closes 5 = .ok (.iload_n 2, 1) := by decide +kernel
theorem dX12_closes_6 : decode cX12_closes 6 = .ok (.iastore, 1) := by decide +kernel
theorem dX12_closes_7 : decode cX12_closes 7 = .ok (.aload_n 0, 1) := by decide +kernel
theorem dX12_closes_8 : decode cX12_closes 8 = .ok (.getfield 28, 3) := by decide +kernel
theorem dX12_closes_11 : decode cX12_closes 11 = .ok (.iload_n 2, 1) := by decide +kernel
theorem dX12_closes_12 : decode cX12_closes 12 = .ok (.iload_n 1, 1) := by decide +kernel
theorem dX12_closes_13 : decode cX12_closes 13 = .ok (.iastore, 1) := by decide +kernel
theorem dX12_closes_14 : decode cX12_closes 14 = .ok (.aload_n 0, 1) := by decide +kernel
theorem dX12_closes_15 : decode cX12_closes 15 = .ok (.getfield 43, 3) := by decide +kernel
theorem dX12_closes_18 : decode cX12_closes 18 = .ok (.iload_n 1, 1) := by decide +kernel
theorem dX12_closes_19 : decode cX12_closes 19 = .ok (.iconst 0, 1) := by decide +kernel
theorem dX12_closes_20 : decode cX12_closes 20 = .ok (.bastore, 1) := by decide +kernel
theorem dX12_closes_21 : decode cX12_closes 21 = .ok (.aload_n 0, 1) := by decide +kernel
theorem dX12_closes_22 : decode cX12_closes 22 = .ok (.getfield 43, 3) := by decide +kernel
theorem dX12_closes_25 : decode cX12_closes 25 = .ok (.iload_n 2, 1) := by decide +kernel
theorem dX12_closes_26 : decode cX12_closes 26 = .ok (.iconst 0, 1) := by decide +kernel
theorem dX12_closes_27 : decode cX12_closes 27 = .ok (.bastore, 1) := by decide +kernel
theorem dX12_closes_28 : decode cX12_closes 28 = .ok (.return_, 1) := by decide +kernel
theorem dX12_auto2_0 : decode cX12_auto2 0 = .ok (.aload_n 0, 1) := by decide +kernel
theorem dX12_auto2_1 : decode cX12_auto2 1 = .ok (.invokevirtual 203, 3) := by decide +kernel
theorem dX12_auto2_4 : decode cX12_auto2 4 = .ok (.iconst 1, 1) := by decide +kernel
theorem dX12_auto2_5 : decode cX12_auto2 5 = .ok (.istore_n 1, 1) := by decide +kernel
theorem dX12_auto2_6 : decode cX12_auto2 6 = .ok (.iload_n 1, 1) := by decide +kernel
theorem dX12_auto2_7 : decode cX12_auto2 7 = .ok (.ifCond .eq 81, 3) := by decide +kernel
theorem dX12_auto2_10 : decode cX12_auto2 10 = .ok (.iconst 0, 1) := by decide +kernel
theorem dX12_auto2_11 : decode cX12_auto2 11 = .ok (.istore_n 1, 1) := by decide +kernel
theorem dX12_auto2_12 : decode cX12_auto2 12 = .ok (.iconst (-1), 1) := by decide +kernel
theorem dX12_auto2_13 : decode cX12_auto2 13 = .ok (.istore_n 2, 1) := by decide +kernel
theorem dX12_auto2_14 : decode cX12_auto2 14 = .ok (.iconst 0, 1) := by decide +kernel
theorem dX12_auto2_15 : decode cX12_auto2 15 = .ok (.istore_n 3, 1) := by decide +kernel
theorem dX12_auto2_16 : decode cX12_auto2 16 = .ok (.iload_n 3, 1) := by decide +kernel
theorem dX12_auto2_17 : decode cX12_auto2 17 = .ok (.aload_n 0, 1) := by decide +kernel
theorem dX12_auto2_18 : decode cX12_auto2 18 = .ok (.getfield 139, 3) := by decide +kernel
theorem dX12_auto2_21 : decode cX12_auto2 21 = .ok (.if_icmp .ge 46, 3) := by decide +kernel
theorem dX12_auto2_24 : decode cX12_auto2 24 = .ok (.iload_n 1, 1) := by decide +kernel
theorem dX12_auto2_25 : decode cX12_auto2 25 = .ok (.ifCond .ne 42, 3) := by decide +kernel
theorem dX12_auto2_28 : decode cX12_auto2 28 = .ok (.aload_n 0, 1) := by decide +kernel
theorem dX12_auto2_29 : decode cX12_auto2 29 = .ok (.getfield 43, 3) := by decide +kernel
theorem dX12_auto2_32 : decode cX12_auto2 32 = .ok (.iload_n 3, 1) := by decide +kernel
theorem dX12_auto2_33 : decode cX12_auto2 33 = .ok (.baload, 1) := by decide +kernel
theorem dX12_auto2_34 : decode cX12_auto2 34 = .ok (.ifCond .eq 27, 3) := by decide +kernel
theorem dX12_auto2_37 : decode cX12_auto2 37 = .ok (.iload_n 3, 1) := by decide +kernel
theorem dX12_auto2_38 : decode cX12_auto2 38 = .ok (.istore_n 2, 1) := by decide +kernel
theorem dX12_auto2_39 : decode cX12_auto2 39 = .ok (.aload_n 0, 1) := by decide +kernel
theorem dX12_auto2_40 : decode cX12_auto2 40 = .ok (.iload_n 3, 1) := by decide +kernel
theorem dX12_auto2_41 : decode cX12_auto2 41 = .ok (.invokevirtual 206, 3) := by decide +kernel
theorem dX12_auto2_44 : decode cX12_auto2 44 = .ok (.istore 4, 2) := by decide +kernel
theorem dX12_auto2_46 : decode cX12_auto2 46 = .ok (.iload 4, 2) := by decide +kernel
theorem dX12_auto2_48 : decode cX12_auto2 48 = .ok (.iconst (-1), 1) := by decide +kernel
theorem dX12_auto2_49 : decode cX12_auto2 49 = .ok (.if_icmp .eq 12, 3) := by decide +kernel
theorem dX12_auto2_52 : decode cX12_auto2 52 = .ok (.aload_n 0, 1) := by decide +kernel
theorem dX12_auto2_53 : decode cX12_auto2 53 = .ok (.iload_n 3, 1) := by decide +kernel
theorem dX12_auto2_54 : decode cX12_auto2 54 = .ok (.iload 4, 2) := by decide +kernel
theorem dX12_auto2_56 : decode cX12_auto2 56 = .ok (.invokevirtual 209, 3) := by decide +kernel
theorem dX12_auto2_59 : decode cX12_auto2 59 = .ok (.iconst 1, 1) := by decide +kernel
theorem dX12_auto2_60 : decode cX12_auto2 60 = .ok (.istore_n 1, 1) := by decide +kernel
theorem dX12_auto2_61 : decode cX12_auto2 61 = .ok (.iinc 3 1, 3) := by decide +kernel
theorem dX12_auto2_64 : decode cX12_auto2 64 = .ok (.goto (-48), 3) := by decide +kernel
theorem dX12_auto2_67 : decode cX12_auto2 67 = .ok (.iload_n 1, 1) := by decide +kernel
theorem dX12_auto2_68 : decode cX12_auto2 68 = .ok (.ifCond .ne 17, 3) := by decide +kernel
theorem dX12_auto2_71 : decode cX12_auto2 71 = .ok (.iload_n 2, 1) := by decide +kernel
theorem dX12_auto2_72 : decode cX12_auto2 72 = .ok (.iconst (-1), 1) := by decide +kernel
theorem dX12_auto2_73 : decode cX12_auto2 73 = .ok (.if_icmp .eq 12, 3) := by decide +kernel
theorem dX12_auto2_76 : decode cX12_auto2 76 = .ok (.aload_n 0, 1) := by decide +kernel
theorem dX12_auto2_77 : decode cX12_auto2 77 = .ok (.getfield 43, 3) := by decide +kernel
theorem dX12_auto2_80 : decode cX12_auto2 80 = .ok (.iload_n 2, 1) := by decide +kernel
theorem dX12_auto2_81 : decode cX12_auto2 81 = .ok (.iconst 0, 1) := by decide +kernel
theorem dX12_auto2_82 : decode cX12_auto2 82 = .ok (.bastore, 1) := by decide +kernel
theorem dX12_auto2_83 : decode cX12_auto2 83 = .ok (.iconst 1, 1) := by decide +kernel
theorem dX12_auto2_84 : decode cX12_auto2 84 = .ok (.istore_n 1, 1) := by decide +kernel
theorem dX12_auto2_85 : decode cX12_auto2 85 = .ok (.goto (-79), 3) := by decide +kernel
theorem dX12_auto2_88 : decode cX12_auto2 88 = .ok (.return_, 1) := by decide +kernel
theorem dX12_auto_0 : decode cX12_auto 0 = .ok (.aload_n 0, 1) := by decide +kernel
theorem dX12_auto_1 : decode cX12_auto 1 = .ok (.getfield 139, 3) := by decide +kernel
theorem dX12_auto_4 : decode cX12_auto 4 = .ok (.ifCond .eq 12, 3) := by decide +kernel
theorem dX12_auto_7 : decode cX12_auto 7 = .ok (.iload_n 1, 1) := by decide +kernel
theorem dX12_auto_8 : decode cX12_auto 8 = .ok (.iconst 0, 1) := by decide +kernel
theorem dX12_auto_9 : decode cX12_auto 9 = .ok (.iconst 2, 1) := by decide +kernel
theorem dX12_auto_10 : decode cX12_auto 10 = .ok (.invokestatic 101, 3) := by decide +kernel
theorem dX12_auto_13 : decode cX12_auto 13 = .ok (.ifCond .ne 5, 3) := by decide +kernel
theorem dX12_auto_16 : decode cX12_auto 16 = .ok (.iconst (-1), 1) := by decide +kernel
theorem dX12_auto_17 : decode cX12_auto 17 = .ok (.ireturn, 1) := by decide +kernel
theorem dX12_auto_18 : decode cX12_auto 18 = .ok (.aload_n 0, 1) := by decide +kernel
theorem dX12_auto_19 : decode cX12_auto 19 = .ok (.invokevirtual 194, 3) := by decide +kernel
theorem dX12_auto_22 : decode cX12_auto 22 = .ok (.aload_n 0, 1) := by decide +kernel
theorem dX12_auto_23 : decode cX12_auto 23 = .ok (.invokevirtual 200, 3) := by decide +kernel
theorem dX12_auto_26 : decode cX12_auto 26 = .ok (.iload_n 1, 1) := by decide +kernel
theorem dX12_auto_27 : decode cX12_auto 27 = .ok (.ifCond .ne 10, 3) := by decide +kernel
theorem dX12_auto_30 : decode cX12_auto 30 = .ok (.aload_n 0, 1) := by decide +kernel
theorem dX12_auto_31 : decode cX12_auto 31 = .ok (.invokevirtual 212, 3) := by decide +kernel
theorem dX12_auto_34 : decode cX12_auto 34 = .ok (.goto 19, 3) := by decide +kernel
theorem dX12_auto_37 : decode cX12_auto 37 = .ok (.iload_n 1, 1) := by decide +kernel
theorem dX12_auto_38 : decode cX12_auto 38 = .ok (.iconst 1, 1) := by decide +kernel
theorem dX12_auto_39 : decode cX12_auto 39 = .ok (.if_icmp .ne 10, 3) := by decide +kernel
theorem dX12_auto_42 : decode cX12_auto 42 = .ok (.aload_n 0, 1) := by decide +kernel
theorem dX12_auto_43 : decode cX12_auto 43 = .ok (.invokevirtual 215, 3) := by decide +kernel
theorem dX12_auto_46 : decode cX12_auto 46 = .ok (.goto 7, 3) := by decide +kernel
theorem dX12_auto_49 : decode cX12_auto 49 = .ok (.aload_n 0, 1) := by decide +kernel
theorem dX12_auto_50 : decode cX12_auto 50 = .ok (.invokevirtual 218, 3) := by decide +kernel
theorem dX12_auto_53 : decode cX12_auto 53 = .ok (.aload_n 0, 1) := by decide +kernel
theorem dX12_auto_54 : decode cX12_auto 54 = .ok (.invokevirtual 197, 3) := by decide +kernel
theorem dX12_auto_57 : decode cX12_auto 57 = .ok (.ireturn, 1) := by decide +kernel
theorem dX12_areEnds_0 : decode cX12_areEnds 0 = .ok (.aload_n 0, 1) := by decide +kernel
theorem dX12_areEnds_1 : decode cX12_areEnds 1 = .ok (.iload_n 1, 1) := by decide +kernel
theorem dX12_areEnds_2 : decode cX12_areEnds 2 = .ok (.invokevirtual 159, 3) := by decide +kernel
theorem dX12_areEnds_5 : decode cX12_areEnds 5 = .ok (.ifCond .eq 30, 3) := by decide +kernel
theorem dX12_areEnds_8 : decode cX12_areEnds 8 = .ok (.aload_n 0, 1) := by decide +kernel
theorem dX12_areEnds_9 : decode cX12_areEnds 9 = .ok (.iload_n 2, 1) := by decide +kernel
theorem dX12_areEnds_10 : decode cX12_areEnds 10 = .ok (.invokevirtual 159, 3) := by decide +kernel
theorem dX12_areEnds_13 : decode cX12_areEnds 13 = .ok (.ifCond .eq 22, 3) := by decide +kernel
theorem dX12_areEnds_16 : decode cX12_areEnds 16 = .ok (.aload_n 0, 1) := by decide +kernel
theorem dX12_areEnds_17 : decode cX12_areEnds 17 = .ok (.iload_n 1, 1) := by decide +kernel
theorem dX12_areEnds_18 : decode cX12_areEnds 18 = .ok (.invokevirtual 149, 3) := by decide +kernel
theorem dX12_areEnds_21 : decode cX12_areEnds 21 = .ok (.aload_n 0, 1) := by decide +kernel
theorem dX12_areEnds_22 : decode cX12_areEnds 22 = .ok (.iload_n 2, 1) := by decide +kernel
theorem dX12_areEnds_23 : decode cX12_areEnds 23 = .ok (.invokevirtual 149, 3) := by decide +kernel
theorem dX12_areEnds_26 : decode cX12_areEnds 26 = .ok (.iconst 1, 1) := by decide +kernel
theorem dX12_areEnds_27 : decode cX12_areEnds 27 = .ok (.iadd, 1) := by decide +kernel
theorem dX12_areEnds_28 : decode cX12_areEnds 28 = .ok (.if_icmp .ne 7, 3) := by decide +kernel
theorem dX12_areEnds_31 : decode cX12_areEnds 31 = .ok (.iconst 1, 1) := by decide +kernel
theorem dX12_areEnds_32 : decode cX12_areEnds 32 = .ok (.goto 4, 3) := by decide +kernel
theorem dX12_areEnds_35 : decode cX12_areEnds 35 = .ok (.iconst 0, 1) := by decide +kernel
theorem dX12_areEnds_36 : decode cX12_areEnds 36 = .ok (.ireturn, 1) := by decide +kernel
theorem dX12_laysWays_0 : decode cX12_laysWays 0 = .ok (.iconst 0, 1) := by decide +kernel
theorem dX12_laysWays_1 : decode cX12_laysWays 1 = .ok (.istore_n 2, 1) := by decide +kernel
theorem dX12_laysWays_2 : decode cX12_laysWays 2 = .ok (.iload_n 2, 1) := by decide +kernel
theorem dX12_laysWays_3 : decode cX12_laysWays 3 = .ok (.aload_n 0, 1) := by decide +kernel
theorem dX12_laysWays_4 : decode cX12_laysWays 4 = .ok (.getfield 139, 3) := by decide +kernel
theorem dX12_laysWays_7 : decode cX12_laysWays 7 = .ok (.if_icmp .ge 99, 3) := by decide +kernel
theorem dX12_laysWays_10 : decode cX12_laysWays 10 = .ok (.aload_n 0, 1) := by decide +kernel
theorem dX12_laysWays_11 : decode cX12_laysWays 11 = .ok (.iload_n 2, 1) := by decide +kernel
theorem dX12_laysWays_12 : decode cX12_laysWays 12 = .ok (.invokevirtual 156, 3) := by decide +kernel
theorem dX12_laysWays_15 : decode cX12_laysWays 15 = .ok (.ifCond .eq 33, 3) := by decide +kernel
theorem dX12_laysWays_18 : decode cX12_laysWays 18 = .ok (.iload_n 2, 1) := by decide +kernel
theorem dX12_laysWays_19 : decode cX12_laysWays 19 = .ok (.iload_n 1, 1) := by decide +kernel
theorem dX12_laysWays_20 : decode cX12_laysWays 20 = .ok (.if_icmp .eq 28, 3) := by decide +kernel
theorem dX12_laysWays_23 : decode cX12_laysWays 23 = .ok (.aload_n 0, 1) := by decide +kernel
theorem dX12_laysWays_24 : decode cX12_laysWays 24 = .ok (.iload_n 2, 1) := by decide +kernel
theorem dX12_laysWays_25 : decode cX12_laysWays 25 = .ok (.invokevirtual 170, 3) := by decide +kernel
theorem dX12_laysWays_28 : decode cX12_laysWays 28 = .ok (.ifCond .eq 20, 3) := by decide +kernel
theorem dX12_laysWays_31 : decode cX12_laysWays 31 = .ok (.aload_n 0, 1) := by decide +kernel
theorem dX12_laysWays_32 : decode cX12_laysWays 32 = .ok (.iload_n 2, 1) := by decide +kernel
theorem dX12_laysWays_33 : decode cX12_laysWays 33 = .ok (.invokevirtual 149, 3) := by decide +kernel
theorem dX12_laysWays_36 : decode cX12_laysWays 36 = .ok (.aload_n 0, 1) := by decide +kernel
theorem dX12_laysWays_37 : decode cX12_laysWays 37 = .ok (.iload_n 1, 1) := by decide +kernel
theorem dX12_laysWays_38 : decode cX12_laysWays 38 = .ok (.invokevirtual 149, 3) := by decide +kernel
theorem dX12_laysWays_41 : decode cX12_laysWays 41 = .ok (.if_icmp .ne 7, 3) := by decide +kernel
theorem dX12_laysWays_44 : decode cX12_laysWays 44 = .ok (.iconst 1, 1) := by decide +kernel
theorem dX12_laysWays_45 : decode cX12_laysWays 45 = .ok (.goto 4, 3) := by decide +kernel
theorem dX12_laysWays_48 : decode cX12_laysWays 48 = .ok (.iconst 0, 1) := by decide +kernel
theorem dX12_laysWays_49 : decode cX12_laysWays 49 = .ok (.istore_n 3, 1) := by decide +kernel
theorem dX12_laysWays_50 : decode cX12_laysWays 50 = .ok (.aload_n 0, 1) := by decide +kernel
theorem dX12_laysWays_51 : decode cX12_laysWays 51 = .ok (.getfield 46, 3) := by decide +kernel
theorem dX12_laysWays_54 : decode cX12_laysWays 54 = .ok (.iload_n 2, 1) := by decide +kernel
theorem dX12_laysWays_55 : decode cX12_laysWays 55 = .ok (.iload_n 3, 1) := by decide +kernel
theorem dX12_laysWays_56 : decode cX12_laysWays 56 = .ok (.ifCond .eq 9, 3) := by decide +kernel
theorem dX12_laysWays_59 : decode cX12_laysWays 59 = .ok (.ldc2_w 221, 3) := by decide +kernel
theorem dX12_laysWays_62 : decode cX12_laysWays 62 = .ok (.goto 17, 3) := by decide +kernel
theorem dX12_laysWays_65 : decode cX12_laysWays 65 = .ok (.iload_n 2, 1) := by decide +kernel
theorem dX12_laysWays_66 : decode cX12_laysWays 66 = .ok (.iload_n 1, 1) := by decide +kernel
theorem dX12_laysWays_67 : decode cX12_laysWays 67 = .ok (.if_icmp .ne 7, 3) := by decide +kernel
theorem dX12_laysWays_70 : decode cX12_laysWays 70 = .ok (.iconst 1, 1) := by decide +kernel
theorem dX12_laysWays_71 : decode cX12_laysWays 71 = .ok (.goto 4, 3) := by decide +kernel
theorem dX12_laysWays_74 : decode cX12_laysWays 74 = .ok (.iconst 0, 1) := by decide +kernel
theorem dX12_laysWays_75 : decode cX12_laysWays 75 = .ok (.invokestatic 105, 3) := by decide +kernel
theorem dX12_laysWays_78 : decode cX12_laysWays 78 = .ok (.i2l, 1) := by decide +kernel
theorem dX12_laysWays_79 : decode cX12_laysWays 79 = .ok (.lastore, 1) := by decide +kernel
theorem dX12_laysWays_80 : decode cX12_laysWays 80 = .ok (.aload_n 0, 1) := by decide +kernel
theorem dX12_laysWays_81 : decode cX12_laysWays 81 = .ok (.getfield 50, 3) := by decide +kernel
theorem dX12_laysWays_84 : decode cX12_laysWays 84 = .ok (.iload_n 2, 1) := by decide +kernel
theorem dX12_laysWays_85 : decode cX12_laysWays 85 = .ok (.iload_n 2, 1) := by decide +kernel
theorem dX12_laysWays_86 : decode cX12_laysWays 86 = .ok (.iload_n 1, 1) := by decide +kernel
theorem dX12_laysWays_87 : decode cX12_laysWays 87 = .ok (.if_icmp .ne 7, 3) := by decide +kernel
theorem dX12_laysWays_90 : decode cX12_laysWays 90 = .ok (.iconst 1, 1) := by decide +kernel
theorem dX12_laysWays_91 : decode cX12_laysWays 91 = .ok (.goto 4, 3) := by decide +kernel
theorem dX12_laysWays_94 : decode cX12_laysWays 94 = .ok (.iconst 0, 1) := by decide +kernel
theorem dX12_laysWays_95 : decode cX12_laysWays 95 = .ok (.invokestatic 105, 3) := by decide +kernel
theorem dX12_laysWays_98 : decode cX12_laysWays 98 = .ok (.i2l, 1) := by decide +kernel
theorem dX12_laysWays_99 : decode cX12_laysWays 99 = .ok (.lastore, 1) := by decide +kernel
theorem dX12_laysWays_100 : decode cX12_laysWays 100 = .ok (.iinc 2 1, 3) := by decide +kernel
theorem dX12_laysWays_103 : decode cX12_laysWays 103 = .ok (.goto (-101), 3) := by decide +kernel
theorem dX12_laysWays_106 : decode cX12_laysWays 106 = .ok (.iconst 1, 1) := by decide +kernel
theorem dX12_laysWays_107 : decode cX12_laysWays 107 = .ok (.istore_n 2, 1) := by decide +kernel
theorem dX12_laysWays_108 : decode cX12_laysWays 108 = .ok (.iload_n 2, 1) := by decide +kernel
theorem dX12_laysWays_109 : decode cX12_laysWays 109 = .ok (.ifCond .eq 55, 3) := by decide +kernel
theorem dX12_laysWays_112 : decode cX12_laysWays 112 = .ok (.iconst 0, 1) := by decide +kernel
theorem dX12_laysWays_113 : decode cX12_laysWays 113 = .ok (.istore_n 2, 1) := by decide +kernel
theorem dX12_laysWays_114 : decode cX12_laysWays 114 = .ok (.iconst 0, 1) := by decide +kernel
theorem dX12_laysWays_115 : decode cX12_laysWays 115 = .ok (.istore_n 3, 1) := by decide +kernel
theorem dX12_laysWays_116 : decode cX12_laysWays 116 = .ok (.iload_n 3, 1) := by decide +kernel
theorem dX12_laysWays_117 : decode cX12_laysWays 117 = .ok (.aload_n 0, 1) := by decide +kernel
theorem dX12_laysWays_118 : decode cX12_laysWays 118 = .ok (.getfield 139, 3) := by decide +kernel
theorem dX12_laysWays_121 : decode cX12_laysWays 121 = .ok (.if_icmp .ge 40, 3) := by decide +kernel
theorem dX12_laysWays_124 : decode cX12_laysWays 124 = .ok (.aload_n 0, 1) := by decide +kernel
theorem dX12_laysWays_125 : decode cX12_laysWays 125 = .ok (.getfield 46, 3) := by decide +kernel
theorem dX12_laysWays_128 : decode cX12_laysWays 128 = .ok (.iload_n 3, 1) := by decide +kernel
theorem dX12_laysWays_129 : decode cX12_laysWays 129 = .ok (.laload, 1) := by decide +kernel
theorem dX12_laysWays_130 : decode cX12_laysWays 130 = .ok (.ldc2_w 221, 3) := by decide +kernel
theorem dX12_laysWays_133 : decode cX12_laysWays 133 = .ok (.lcmp, 1) := by decide +kernel
theorem dX12_laysWays_134 : decode cX12_laysWays 134 = .ok (.ifCond .ne 21, 3) := by decide +kernel
theorem dX12_laysWays_137 : decode cX12_laysWays 137 = .ok (.aload_n 0, 1) := by decide +kernel
theorem dX12_laysWays_138 : decode cX12_laysWays 138 = .ok (.iload_n 3, 1) := by decide +kernel
theorem dX12_laysWays_139 : decode cX12_laysWays 139 = .ok (.invokevirtual 223, 3) := by decide +kernel
theorem dX12_laysWays_142 : decode cX12_laysWays 142 = .ok (.ifCond .ne 7, 3) := by decide +kernel
theorem dX12_laysWays_145 : decode cX12_laysWays 145 = .ok (.iload_n 2, 1) := by decide +kernel
theorem dX12_laysWays_146 : decode cX12_laysWays 146 = .ok (.ifCond .eq 7, 3) := by decide +kernel
theorem dX12_laysWays_149 : decode cX12_laysWays 149 = .ok (.iconst 1, 1) := by decide +kernel
theorem dX12_laysWays_150 : decode cX12_laysWays 150 = .ok (.goto 4, 3) := by decide +kernel
theorem dX12_laysWays_153 : decode cX12_laysWays 153 = .ok (.iconst 0, 1) := by decide +kernel
theorem dX12_laysWays_154 : decode cX12_laysWays 154 = .ok (.istore_n 2, 1) := by decide +kernel
theorem dX12_laysWays_155 : decode cX12_laysWays 155 = .ok (.iinc 3 1, 3) := by decide +kernel
theorem dX12_laysWays_158 : decode cX12_laysWays 158 = .ok (.goto (-42), 3) := by decide +kernel
theorem dX12_laysWays_161 : decode cX12_laysWays 161 = .ok (.goto (-53), 3) := by decide +kernel
theorem dX12_laysWays_164 : decode cX12_laysWays 164 = .ok (.return_, 1) := by decide +kernel
theorem dX12_laysWay_0 : decode cX12_laysWay 0 = .ok (.aload_n 0, 1) := by decide +kernel
theorem dX12_laysWay_1 : decode cX12_laysWay 1 = .ok (.getfield 28, 3) := by decide +kernel
theorem dX12_laysWay_4 : decode cX12_laysWay 4 = .ok (.iload_n 1, 1) := by decide +kernel
theorem dX12_laysWay_5 : decode cX12_laysWay 5 = .ok (.iaload, 1) := by decide +kernel
theorem dX12_laysWay_6 : decode cX12_laysWay 6 = .ok (.istore_n 2, 1) := by decide +kernel
theorem dX12_laysWay_7 : decode cX12_laysWay 7 = .ok (.lconst 0, 1) := by decide +kernel
theorem dX12_laysWay_8 : decode cX12_laysWay 8 = .ok (.lstore_n 3, 1) := by decide +kernel
theorem dX12_laysWay_9 : decode cX12_laysWay 9 = .ok (.lconst 0, 1) := by decide +kernel
theorem dX12_laysWay_10 : decode cX12_laysWay 10 = .ok (.lstore 5, 2) := by decide +kernel
theorem dX12_laysWay_12 : decode cX12_laysWay 12 = .ok (.iconst 0, 1) := by decide +kernel
theorem dX12_laysWay_13 : decode cX12_laysWay 13 = .ok (.istore 7, 2) := by decide +kernel
theorem dX12_laysWay_15 : decode cX12_laysWay 15 = .ok (.iload 7, 2) := by decide +kernel
theorem dX12_laysWay_17 : decode cX12_laysWay 17 = .ok (.aload_n 0, 1) := by decide +kernel
theorem dX12_laysWay_18 : decode cX12_laysWay 18 = .ok (.getfield 139, 3) := by decide +kernel
theorem dX12_laysWay_21 : decode cX12_laysWay 21 = .ok (.if_icmp .ge 75, 3) := by decide +kernel
theorem dX12_laysWay_24 : decode cX12_laysWay 24 = .ok (.iload 7, 2) := by decide +kernel
theorem dX12_laysWay_26 : decode cX12_laysWay 26 = .ok (.iload_n 1, 1) := by decide +kernel
theorem dX12_laysWay_27 : decode cX12_laysWay 27 = .ok (.if_icmp .eq 63, 3) := by decide +kernel
theorem dX12_laysWay_30 : decode cX12_laysWay 30 = .ok (.aload_n 0, 1) := by decide +kernel
theorem dX12_laysWay_31 : decode cX12_laysWay 31 = .ok (.iload 7, 2) := by decide +kernel
theorem dX12_laysWay_33 : decode cX12_laysWay 33 = .ok (.iload_n 2, 1) := by decide +kernel
theorem dX12_laysWay_34 : decode cX12_laysWay 34 = .ok (.invokevirtual 162, 3) := by decide +kernel
theorem dX12_laysWay_37 : decode cX12_laysWay 37 = .ok (.ifCond .ne 6, 3) := by decide +kernel
theorem dX12_laysWay_40 : decode cX12_laysWay 40 = .ok (.goto 50, 3) := by decide +kernel
theorem dX12_laysWay_43 : decode cX12_laysWay 43 = .ok (.aload_n 0, 1) := by decide +kernel
theorem dX12_laysWay_44 : decode cX12_laysWay 44 = .ok (.getfield 46, 3) := by decide +kernel
theorem dX12_laysWay_47 : decode cX12_laysWay 47 = .ok (.iload 7, 2) := by decide +kernel
theorem dX12_laysWay_49 : decode cX12_laysWay 49 = .ok (.laload, 1) := by decide +kernel
theorem dX12_laysWay_50 : decode cX12_laysWay 50 = .ok (.ldc2_w 221, 3) := by decide +kernel
theorem dX12_laysWay_53 : decode cX12_laysWay 53 = .ok (.lcmp, 1) := by decide +kernel
theorem dX12_laysWay_54 : decode cX12_laysWay 54 = .ok (.ifCond .ne 5, 3) := by decide +kernel
theorem dX12_laysWay_57 : decode cX12_laysWay 57 = .ok (.iconst 0, 1) := by decide +kernel
theorem dX12_laysWay_58 : decode cX12_laysWay 58 = .ok (.ireturn, 1) := by decide +kernel
theorem dX12_laysWay_59 : decode cX12_laysWay 59 = .ok (.lload_n 3, 1) := by decide +kernel
theorem dX12_laysWay_60 : decode cX12_laysWay 60 = .ok (.aload_n 0, 1) := by decide +kernel
theorem dX12_laysWay_61 : decode cX12_laysWay 61 = .ok (.getfield 46, 3) := by decide +kernel
theorem dX12_laysWay_64 : decode cX12_laysWay 64 = .ok (.iload 7, 2) := by decide +kernel
theorem dX12_laysWay_66 : decode cX12_laysWay 66 = .ok (.laload, 1) := by decide +kernel
theorem dX12_laysWay_67 : decode cX12_laysWay 67 = .ok (.ladd, 1) := by decide +kernel
theorem dX12_laysWay_68 : decode cX12_laysWay 68 = .ok (.lstore_n 3, 1) := by decide +kernel
theorem dX12_laysWay_69 : decode cX12_laysWay 69 = .ok (.lload 5, 2) := by decide +kernel
theorem dX12_laysWay_71 : decode cX12_laysWay 71 = .ok (.aload_n 0, 1) := by decide +kernel
theorem dX12_laysWay_72 : decode cX12_laysWay 72 = .ok (.iload 7, 2) := by decide +kernel
theorem dX12_laysWay_74 : decode cX12_laysWay 74 = .ok (.iload_n 2, 1) := by decide +kernel
theorem dX12_laysWay_75 : decode cX12_laysWay 75 = .ok (.invokevirtual 166, 3) := by decide +kernel
theorem dX12_laysWay_78 : decode cX12_laysWay 78 = .ok (.i2l, 1) := by decide +kernel
theorem dX12_laysWay_79 : decode cX12_laysWay 79 = .ok (.aload_n 0, 1) := by decide +kernel
theorem dX12_laysWay_80 : decode cX12_laysWay 80 = .ok (.getfield 50, 3) := by decide +kernel
theorem dX12_laysWay_83 : decode cX12_laysWay 83 = .ok (.iload 7, 2) := by decide +kernel
theorem dX12_laysWay_85 : decode cX12_laysWay 85 = .ok (.laload, 1) := by decide +kernel
theorem dX12_laysWay_86 : decode cX12_laysWay 86 = .ok (.lmul, 1) := by decide +kernel
theorem dX12_laysWay_87 : decode cX12_laysWay 87 = .ok (.ladd, 1) := by decide +kernel
theorem dX12_laysWay_88 : decode cX12_laysWay 88 = .ok (.lstore 5, 2) := by decide +kernel
theorem dX12_laysWay_90 : decode cX12_laysWay 90 = .ok (.iinc 7 1, 3) := by decide +kernel
theorem dX12_laysWay_93 : decode cX12_laysWay 93 = .ok (.goto (-78), 3) := by decide +kernel
theorem dX12_laysWay_96 : decode cX12_laysWay 96 = .ok (.aload_n 0, 1) := by decide +kernel
theorem dX12_laysWay_97 : decode cX12_laysWay 97 = .ok (.getfield 46, 3) := by decide +kernel
theorem dX12_laysWay_100 : decode cX12_laysWay 100 = .ok (.iload_n 1, 1) := by decide +kernel
theorem dX12_laysWay_101 : decode cX12_laysWay 101 = .ok (.lload_n 3, 1) := by decide +kernel
theorem dX12_laysWay_102 : decode cX12_laysWay 102 = .ok (.lastore, 1) := by decide +kernel
theorem dX12_laysWay_103 : decode cX12_laysWay 103 = .ok (.aload_n 0, 1) := by decide +kernel
theorem dX12_laysWay_104 : decode cX12_laysWay 104 = .ok (.getfield 50, 3) := by decide +kernel
theorem dX12_laysWay_107 : decode cX12_laysWay 107 = .ok (.iload_n 1, 1) := by decide +kernel
theorem dX12_laysWay_108 : decode cX12_laysWay 108 = .ok (.aload_n 0, 1) := by decide +kernel
theorem dX12_laysWay_109 : decode cX12_laysWay 109 = .ok (.iload_n 1, 1) := by decide +kernel
theorem dX12_laysWay_110 : decode cX12_laysWay 110 = .ok (.iload_n 2, 1) := by decide +kernel
theorem dX12_laysWay_111 : decode cX12_laysWay 111 = .ok (.invokevirtual 166, 3) := by decide +kernel
theorem dX12_laysWay_114 : decode cX12_laysWay 114 = .ok (.ineg, 1) := by decide +kernel
theorem dX12_laysWay_115 : decode cX12_laysWay 115 = .ok (.i2l, 1) := by decide +kernel
theorem dX12_laysWay_116 : decode cX12_laysWay 116 = .ok (.lload 5, 2) := by decide +kernel
theorem dX12_laysWay_118 : decode cX12_laysWay 118 = .ok (.lmul, 1) := by decide +kernel
theorem dX12_laysWay_119 : decode cX12_laysWay 119 = .ok (.lastore, 1) := by decide +kernel
theorem dX12_laysWay_120 : decode cX12_laysWay 120 = .ok (.iconst 1, 1) := by decide +kernel
theorem dX12_laysWay_121 : decode cX12_laysWay 121 = .ok (.ireturn, 1) := by decide +kernel
theorem dX12_waysFrom_0 : decode cX12_waysFrom 0 = .ok (.aload_n 0, 1) := by decide +kernel
theorem dX12_waysFrom_1 : decode cX12_waysFrom 1 = .ok (.iload_n 2, 1) := by decide +kernel
theorem dX12_waysFrom_2 : decode cX12_waysFrom 2 = .ok (.invokevirtual 226, 3) := by decide +kernel
theorem dX12_waysFrom_5 : decode cX12_waysFrom 5 = .ok (.lconst 0, 1) := by decide +kernel
theorem dX12_waysFrom_6 : decode cX12_waysFrom 6 = .ok (.lstore_n 3, 1) := by decide +kernel
theorem dX12_waysFrom_7 : decode cX12_waysFrom 7 = .ok (.iconst 0, 1) := by decide +kernel
theorem dX12_waysFrom_8 : decode cX12_waysFrom 8 = .ok (.istore 5, 2) := by decide +kernel
theorem dX12_waysFrom_10 : decode cX12_waysFrom 10 = .ok (.iload 5, 2) := by decide +kernel
theorem dX12_waysFrom_12 : decode cX12_waysFrom 12 = .ok (.aload_n 0, 1) := by decide +kernel
theorem dX12_waysFrom_13 : decode cX12_waysFrom 13 = .ok (.getfield 139, 3) := by decide +kernel
theorem dX12_waysFrom_16 : decode cX12_waysFrom 16 = .ok (.if_icmp .ge 33, 3) := by decide +kernel
theorem dX12_waysFrom_19 : decode cX12_waysFrom 19 = .ok (.lload_n 3, 1) := by decide +kernel
theorem dX12_waysFrom_20 : decode cX12_waysFrom 20 = .ok (.aload_n 0, 1) := by decide +kernel
theorem dX12_waysFrom_21 : decode cX12_waysFrom 21 = .ok (.iload 5, 2) := by decide +kernel
theorem dX12_waysFrom_23 : decode cX12_waysFrom 23 = .ok (.iload_n 1, 1) := by decide +kernel
theorem dX12_waysFrom_24 : decode cX12_waysFrom 24 = .ok (.invokevirtual 162, 3) := by decide +kernel
theorem dX12_waysFrom_27 : decode cX12_waysFrom 27 = .ok (.ifCond .eq 13, 3) := by decide +kernel
theorem dX12_waysFrom_30 : decode cX12_waysFrom 30 = .ok (.aload_n 0, 1) := by decide +kernel
theorem dX12_waysFrom_31 : decode cX12_waysFrom 31 = .ok (.getfield 46, 3) := by decide +kernel
theorem dX12_waysFrom_34 : decode cX12_waysFrom 34 = .ok (.iload 5, 2) := by decide +kernel
theorem dX12_waysFrom_36 : decode cX12_waysFrom 36 = .ok (.laload, 1) := by decide +kernel
theorem dX12_waysFrom_37 : decode cX12_waysFrom 37 = .ok (.goto 4, 3) := by decide +kernel
theorem dX12_waysFrom_40 : decode cX12_waysFrom 40 = .ok (.lconst 0, 1) := by decide +kernel
theorem dX12_waysFrom_41 : decode cX12_waysFrom 41 = .ok (.ladd, 1) := by decide +kernel
theorem dX12_waysFrom_42 : decode cX12_waysFrom 42 = .ok (.lstore_n 3, 1) := by decide +kernel
theorem dX12_waysFrom_43 : decode cX12_waysFrom 43 = .ok (.iinc 5 1, 3) := by decide +kernel
theorem dX12_waysFrom_46 : decode cX12_waysFrom 46 = .ok (.goto (-36), 3) := by decide +kernel
theorem dX12_waysFrom_49 : decode cX12_waysFrom 49 = .ok (.lload_n 3, 1) := by decide +kernel
theorem dX12_waysFrom_50 : decode cX12_waysFrom 50 = .ok (.lreturn, 1) := by decide +kernel
theorem dX12_incidenceOf_0 : decode cX12_incidenceOf 0 = .ok (.aload_n 0, 1) := by decide +kernel
theorem dX12_incidenceOf_1 : decode cX12_incidenceOf 1 = .ok (.iload_n 2, 1) := by decide +kernel
theorem dX12_incidenceOf_2 : decode cX12_incidenceOf 2 = .ok (.invokevirtual 226, 3) := by decide +kernel
theorem dX12_incidenceOf_5 : decode cX12_incidenceOf 5 = .ok (.lconst 0, 1) := by decide +kernel
theorem dX12_incidenceOf_6 : decode cX12_incidenceOf 6 = .ok (.lstore_n 3, 1) := by decide +kernel
theorem dX12_incidenceOf_7 : decode cX12_incidenceOf 7 = .ok (.iconst 0, 1) := by decide +kernel
theorem dX12_incidenceOf_8 : decode cX12_incidenceOf 8 = .ok (.istore 5, 2) := by decide +kernel
theorem dX12_incidenceOf_10 : decode cX12_incidenceOf 10 = .ok (.iload 5, 2) := by decide +kernel
theorem dX12_incidenceOf_12 : decode cX12_incidenceOf 12 = .ok (.aload_n 0, 1) := by decide +kernel
theorem dX12_incidenceOf_13 : decode cX12_incidenceOf 13 = .ok (.getfield 139, 3) := by decide +kernel
theorem dX12_incidenceOf_16 : decode cX12_incidenceOf 16 = .ok (.if_icmp .ge 42, 3) := by decide +kernel
theorem dX12_incidenceOf_19 : decode cX12_incidenceOf 19 = .ok (.lload_n 3, 1) := by decide +kernel
theorem dX12_incidenceOf_20 : decode cX12_incidenceOf 20 = .ok (.aload_n 0, 1) := by decide +kernel
theorem dX12_incidenceOf_21 : decode cX12_incidenceOf 21 = .ok (.iload 5, 2) := by decide +kernel
theorem dX12_incidenceOf_23 : decode cX12_incidenceOf 23 = .ok (.iload_n 1, 1) := by decide +kernel
theorem dX12_incidenceOf_24 : decode cX12_incidenceOf 24 = .ok (.invokevirtual 162, 3) := by decide +kernel
theorem dX12_incidenceOf_27 : decode cX12_incidenceOf 27 = .ok (.ifCond .eq 22, 3) := by decide +kernel
theorem dX12_incidenceOf_30 : decode cX12_incidenceOf 30 = .ok (.aload_n 0, 1) := by decide +kernel
theorem dX12_incidenceOf_31 : decode cX12_incidenceOf 31 = .ok (.iload 5, 2) := by decide +kernel
theorem dX12_incidenceOf_33 : decode cX12_incidenceOf 33 = .ok (.iload_n 1, 1) := by decide +kernel
theorem dX12_incidenceOf_34 : decode cX12_incidenceOf 34 = .ok (.invokevirtual 166, 3) := by decide +kernel
theorem dX12_incidenceOf_37 : decode cX12_incidenceOf 37 = .ok (.i2l, 1) := by decide +kernel
theorem dX12_incidenceOf_38 : decode cX12_incidenceOf 38 = .ok (.aload_n 0, 1) := by decide +kernel
theorem dX12_incidenceOf_39 : decode cX12_incidenceOf 39 = .ok (.getfield 50, 3) := by decide +kernel
theorem dX12_incidenceOf_42 : decode cX12_incidenceOf 42 = .ok (.iload 5, 2) := by decide +kernel
theorem dX12_incidenceOf_44 : decode cX12_incidenceOf 44 = .ok (.laload, 1) := by decide +kernel
theorem dX12_incidenceOf_45 : decode cX12_incidenceOf 45 = .ok (.lmul, 1) := by decide +kernel
theorem dX12_incidenceOf_46 : decode cX12_incidenceOf 46 = .ok (.goto 4, 3) := by decide +kernel
theorem dX12_incidenceOf_49 : decode cX12_incidenceOf 49 = .ok (.lconst 0, 1) := by decide +kernel
theorem dX12_incidenceOf_50 : decode cX12_incidenceOf 50 = .ok (.ladd, 1) := by decide +kernel
theorem dX12_incidenceOf_51 : decode cX12_incidenceOf 51 = .ok (.lstore_n 3, 1) := by decide +kernel
theorem dX12_incidenceOf_52 : decode cX12_incidenceOf 52 = .ok (.iinc 5 1, 3) := by decide +kernel
theorem dX12_incidenceOf_55 : decode cX12_incidenceOf 55 = .ok (.goto (-45), 3) := by decide +kernel
theorem dX12_incidenceOf_58 : decode cX12_incidenceOf 58 = .ok (.lload_n 3, 1) := by decide +kernel
theorem dX12_incidenceOf_59 : decode cX12_incidenceOf 59 = .ok (.lreturn, 1) := by decide +kernel
theorem dX12_paths_0 : decode cX12_paths 0 = .ok (.aload_n 0, 1) := by decide +kernel
theorem dX12_paths_1 : decode cX12_paths 1 = .ok (.iload_n 1, 1) := by decide +kernel
theorem dX12_paths_2 : decode cX12_paths 2 = .ok (.iload_n 2, 1) := by decide +kernel
theorem dX12_paths_3 : decode cX12_paths 3 = .ok (.invokevirtual 229, 3) := by decide +kernel
theorem dX12_paths_6 : decode cX12_paths 6 = .ok (.ifCond .eq 12, 3) := by decide +kernel
theorem dX12_paths_9 : decode cX12_paths 9 = .ok (.aload_n 0, 1) := by decide +kernel
theorem dX12_paths_10 : decode cX12_paths 10 = .ok (.iload_n 1, 1) := by decide +kernel
theorem dX12_paths_11 : decode cX12_paths 11 = .ok (.iload_n 2, 1) := by decide +kernel
theorem dX12_paths_12 : decode cX12_paths 12 = .ok (.invokevirtual 232, 3) := by decide +kernel
theorem dX12_paths_15 : decode cX12_paths 15 = .ok (.goto 6, 3) := by decide +kernel
theorem dX12_paths_18 : decode cX12_paths 18 = .ok (.ldc2_w 236, 3) := by decide +kernel
theorem dX12_paths_21 : decode cX12_paths 21 = .ok (.lreturn, 1) := by decide +kernel
theorem dX12_incidence_0 : decode cX12_incidence 0 = .ok (.aload_n 0, 1) := by decide +kernel
theorem dX12_incidence_1 : decode cX12_incidence 1 = .ok (.iload_n 1, 1) := by decide +kernel
theorem dX12_incidence_2 : decode cX12_incidence 2 = .ok (.iload_n 2, 1) := by decide +kernel
theorem dX12_incidence_3 : decode cX12_incidence 3 = .ok (.invokevirtual 229, 3) := by decide +kernel
theorem dX12_incidence_6 : decode cX12_incidence 6 = .ok (.ifCond .eq 12, 3) := by decide +kernel
theorem dX12_incidence_9 : decode cX12_incidence 9 = .ok (.aload_n 0, 1) := by decide +kernel
theorem dX12_incidence_10 : decode cX12_incidence 10 = .ok (.iload_n 1, 1) := by decide +kernel
theorem dX12_incidence_11 : decode cX12_incidence 11 = .ok (.iload_n 2, 1) := by decide +kernel
theorem dX12_incidence_12 : decode cX12_incidence 12 = .ok (.invokevirtual 238, 3) := by decide +kernel
theorem dX12_incidence_15 : decode cX12_incidence 15 = .ok (.goto 6, 3) := by decide +kernel
theorem dX12_incidence_18 : decode cX12_incidence 18 = .ok (.ldc2_w 241, 3) := by decide +kernel
theorem dX12_incidence_21 : decode cX12_incidence 21 = .ok (.lreturn, 1) := by decide +kernel
theorem dX12_rows_0 : decode cX12_rows 0 = .ok (.aload_n 0, 1) := by decide +kernel
theorem dX12_rows_1 : decode cX12_rows 1 = .ok (.getfield 53, 3) := by decide +kernel
theorem dX12_rows_4 : decode cX12_rows 4 = .ok (.aload_n 0, 1) := by decide +kernel
theorem dX12_rows_5 : decode cX12_rows 5 = .ok (.getfield 243, 3) := by decide +kernel
theorem dX12_rows_8 : decode cX12_rows 8 = .ok (.iload_n 1, 1) := by decide +kernel
theorem dX12_rows_9 : decode cX12_rows 9 = .ok (.iastore, 1) := by decide +kernel
theorem dX12_rows_10 : decode cX12_rows 10 = .ok (.aload_n 0, 1) := by decide +kernel
theorem dX12_rows_11 : decode cX12_rows 11 = .ok (.dup, 1) := by decide +kernel
theorem dX12_rows_12 : decode cX12_rows 12 = .ok (.getfield 243, 3) := by decide +kernel
theorem dX12_rows_15 : decode cX12_rows 15 = .ok (.iconst 1, 1) := by decide +kernel
theorem dX12_rows_16 : decode cX12_rows 16 = .ok (.iadd, 1) := by decide +kernel
theorem dX12_rows_17 : decode cX12_rows 17 = .ok (.putfield 243, 3) := by decide +kernel
theorem dX12_rows_20 : decode cX12_rows 20 = .ok (.return_, 1) := by decide +kernel
theorem dX12_laysPath_0 : decode cX12_laysPath 0 = .ok (.lload_n 3, 1) := by decide +kernel
theorem dX12_laysPath_1 : decode cX12_laysPath 1 = .ok (.aload_n 0, 1) := by decide +kernel
theorem dX12_laysPath_2 : decode cX12_laysPath 2 = .ok (.iload_n 1, 1) := by decide +kernel
theorem dX12_laysPath_3 : decode cX12_laysPath 3 = .ok (.iload_n 2, 1) := by decide +kernel
theorem dX12_laysPath_4 : decode cX12_laysPath 4 = .ok (.invokevirtual 232, 3) := by decide +kernel
theorem dX12_laysPath_7 : decode cX12_laysPath 7 = .ok (.lcmp, 1) := by decide +kernel
theorem dX12_laysPath_8 : decode cX12_laysPath 8 = .ok (.ifCond .lt 5, 3) := by decide +kernel
theorem dX12_laysPath_11 : decode cX12_laysPath 11 = .ok (.iconst 0, 1) := by decide +kernel
theorem dX12_laysPath_12 : decode cX12_laysPath 12 = .ok (.ireturn, 1) := by decide +kernel
theorem dX12_laysPath_13 : decode cX12_laysPath 13 = .ok (.aload_n 0, 1) := by decide +kernel
theorem dX12_laysPath_14 : decode cX12_laysPath 14 = .ok (.iconst 0, 1) := by decide +kernel
theorem dX12_laysPath_15 : decode cX12_laysPath 15 = .ok (.putfield 243, 3) := by decide +kernel
theorem dX12_laysPath_18 : decode cX12_laysPath 18 = .ok (.aload_n 0, 1) := by decide +kernel
theorem dX12_laysPath_19 : decode cX12_laysPath 19 = .ok (.iload_n 1, 1) := by decide +kernel
theorem dX12_laysPath_20 : decode cX12_laysPath 20 = .ok (.invokevirtual 246, 3) := by decide +kernel
theorem dX12_laysPath_23 : decode cX12_laysPath 23 = .ok (.iload_n 1, 1) := by decide +kernel
theorem dX12_laysPath_24 : decode cX12_laysPath 24 = .ok (.istore 5, 2) := by decide +kernel
theorem dX12_laysPath_26 : decode cX12_laysPath 26 = .ok (.iconst (-1), 1) := by decide +kernel
theorem dX12_laysPath_27 : decode cX12_laysPath 27 = .ok (.istore 6, 2) := by decide +kernel
theorem dX12_laysPath_29 : decode cX12_laysPath 29 = .ok (.lload_n 3, 1) := by decide +kernel
theorem dX12_laysPath_30 : decode cX12_laysPath 30 = .ok (.lstore 7, 2) := by decide +kernel
theorem dX12_laysPath_32 : decode cX12_laysPath 32 = .ok (.iload 6, 2) := by decide +kernel
theorem dX12_laysPath_34 : decode cX12_laysPath 34 = .ok (.iload_n 2, 1) := by decide +kernel
theorem dX12_laysPath_35 : decode cX12_laysPath 35 = .ok (.if_icmp .eq 111, 3) := by decide +kernel
theorem dX12_laysPath_38 : decode cX12_laysPath 38 = .ok (.iconst 0, 1) := by decide +kernel
theorem dX12_laysPath_39 : decode cX12_laysPath 39 = .ok (.istore 9, 2) := by decide +kernel
theorem dX12_laysPath_41 : decode cX12_laysPath 41 = .ok (.iload 9, 2) := by decide +kernel
theorem dX12_laysPath_43 : decode cX12_laysPath 43 = .ok (.iload 6, 2) := by decide +kernel
theorem dX12_laysPath_45 : decode cX12_laysPath 45 = .ok (.if_icmp .eq 27, 3) := by decide +kernel
theorem dX12_laysPath_48 : decode cX12_laysPath 48 = .ok (.aload_n 0, 1) := by decide +kernel
theorem dX12_laysPath_49 : decode cX12_laysPath 49 = .ok (.iload 9, 2) := by decide +kernel
theorem dX12_laysPath_51 : decode cX12_laysPath 51 = .ok (.iload 5, 2) := by decide +kernel
theorem dX12_laysPath_53 : decode cX12_laysPath 53 = .ok (.invokevirtual 162, 3) := by decide +kernel
theorem dX12_laysPath_56 : decode cX12_laysPath 56 = .ok (.ifCond .eq 16, 3) := by decide +kernel
theorem dX12_laysPath_59 : decode cX12_laysPath 59 = .ok (.aload_n 0, 1) := by decide +kernel
theorem dX12_laysPath_60 : decode cX12_laysPath 60 = .ok (.getfield 46, 3) := by decide +kernel
theorem dX12_laysPath_63 : decode cX12_laysPath 63 = .ok (.iload 9, 2) := by decide +kernel
theorem dX12_laysPath_65 : decode cX12_laysPath 65 = .ok (.laload, 1) := by decide +kernel
theorem dX12_laysPath_66 : decode cX12_laysPath 66 = .ok (.lload 7, 2) := by decide +kernel
theorem dX12_laysPath_68 : decode cX12_laysPath 68 = .ok (.lcmp, 1) := by decide +kernel
theorem dX12_laysPath_69 : decode cX12_laysPath 69 = .ok (.ifCond .gt 43, 3) := by decide +kernel
theorem dX12_laysPath_72 : decode cX12_laysPath 72 = .ok (.lload 7, 2) := by decide +kernel
theorem dX12_laysPath_74 : decode cX12_laysPath 74 = .ok (.iload 9, 2) := by decide +kernel
theorem dX12_laysPath_76 : decode cX12_laysPath 76 = .ok (.iload 6, 2) := by decide +kernel
theorem dX12_laysPath_78 : decode cX12_laysPath 78 = .ok (.if_icmp .eq 24, 3) := by decide +kernel
theorem dX12_laysPath_81 : decode cX12_laysPath 81 = .ok (.aload_n 0, 1) := by decide +kernel
theorem dX12_laysPath_82 : decode cX12_laysPath 82 = .ok (.iload 9, 2) := by decide +kernel
theorem dX12_laysPath_84 : decode cX12_laysPath 84 = .ok (.iload 5, 2) := by decide +kernel
theorem dX12_laysPath_86 : decode cX12_laysPath 86 = .ok (.invokevirtual 162, 3) := by decide +kernel
theorem dX12_laysPath_89 : decode cX12_laysPath 89 = .ok (.ifCond .eq 13, 3) := by decide +kernel
theorem dX12_laysPath_92 : decode cX12_laysPath 92 = .ok (.aload_n 0, 1) := by decide +kernel
theorem dX12_laysPath_93 : decode cX12_laysPath 93 = .ok (.getfield 46, 3) := by decide +kernel
theorem dX12_laysPath_96 : decode cX12_laysPath 96 = .ok (.iload 9, 2) := by decide +kernel
theorem dX12_laysPath_98 : decode cX12_laysPath 98 = .ok (.laload, 1) := by decide +kernel
theorem dX12_laysPath_99 : decode cX12_laysPath 99 = .ok (.goto 4, 3) := by decide +kernel
theorem dX12_laysPath_102 : decode cX12_laysPath 102 = .ok (.lconst 0, 1) := by decide +kernel
theorem dX12_laysPath_103 : decode cX12_laysPath 103 = .ok (.lsub, 1) := by decide +kernel
theorem dX12_laysPath_104 : decode cX12_laysPath 104 = .ok (.lstore 7, 2) := by decide +kernel
theorem dX12_laysPath_106 : decode cX12_laysPath 106 = .ok (.iinc 9 1, 3) := by decide +kernel
theorem dX12_laysPath_109 : decode cX12_laysPath 109 = .ok (.goto (-68), 3) := by decide +kernel
theorem dX12_laysPath_112 : decode cX12_laysPath 112 = .ok (.aload_n 0, 1) := by decide +kernel
theorem dX12_laysPath_113 : decode cX12_laysPath 113 = .ok (.iload 9, 2) := by decide +kernel
theorem dX12_laysPath_115 : decode cX12_laysPath 115 = .ok (.invokevirtual 246, 3) := by decide +kernel
theorem dX12_laysPath_118 : decode cX12_laysPath 118 = .ok (.iload 9, 2) := by decide +kernel
theorem dX12_laysPath_120 : decode cX12_laysPath 120 = .ok (.istore 6, 2) := by decide +kernel
theorem dX12_laysPath_122 : decode cX12_laysPath 122 = .ok (.iload 9, 2) := by decide +kernel
theorem dX12_laysPath_124 : decode cX12_laysPath 124 = .ok (.iload_n 2, 1) := by decide +kernel
theorem dX12_laysPath_125 : decode cX12_laysPath 125 = .ok (.if_icmp .eq 18, 3) := by decide +kernel
theorem dX12_laysPath_128 : decode cX12_laysPath 128 = .ok (.aload_n 0, 1) := by decide +kernel
theorem dX12_laysPath_129 : decode cX12_laysPath 129 = .ok (.getfield 28, 3) := by decide +kernel
theorem dX12_laysPath_132 : decode cX12_laysPath 132 = .ok (.iload 9, 2) := by decide +kernel
theorem dX12_laysPath_134 : decode cX12_laysPath 134 = .ok (.iaload, 1) := by decide +kernel
theorem dX12_laysPath_135 : decode cX12_laysPath 135 = .ok (.istore 5, 2) := by decide +kernel
theorem dX12_laysPath_137 : decode cX12_laysPath 137 = .ok (.aload_n 0, 1) := by decide +kernel
theorem dX12_laysPath_138 : decode cX12_laysPath 138 = .ok (.iload 5, 2) := by decide +kernel
theorem dX12_laysPath_140 : decode cX12_laysPath 140 = .ok (.invokevirtual 246, 3) := by decide +kernel
theorem dX12_laysPath_143 : decode cX12_laysPath 143 = .ok (.goto (-111), 3) := by decide +kernel
theorem dX12_laysPath_146 : decode cX12_laysPath 146 = .ok (.iconst 1, 1) := by decide +kernel
theorem dX12_laysPath_147 : decode cX12_laysPath 147 = .ok (.ireturn, 1) := by decide +kernel
theorem dX12_path_0 : decode cX12_path 0 = .ok (.aload_n 0, 1) := by decide +kernel
theorem dX12_path_1 : decode cX12_path 1 = .ok (.iload_n 1, 1) := by decide +kernel
theorem dX12_path_2 : decode cX12_path 2 = .ok (.iload_n 2, 1) := by decide +kernel
theorem dX12_path_3 : decode cX12_path 3 = .ok (.invokevirtual 229, 3) := by decide +kernel
theorem dX12_path_6 : decode cX12_path 6 = .ok (.ifCond .eq 13, 3) := by decide +kernel
theorem dX12_path_9 : decode cX12_path 9 = .ok (.iload_n 3, 1) := by decide +kernel
theorem dX12_path_10 : decode cX12_path 10 = .ok (.ifCond .lt 9, 3) := by decide +kernel
theorem dX12_path_13 : decode cX12_path 13 = .ok (.iload 4, 2) := by decide +kernel
theorem dX12_path_15 : decode cX12_path 15 = .ok (.iconst (-1), 1) := by decide +kernel
theorem dX12_path_16 : decode cX12_path 16 = .ok (.if_icmp .ge 5, 3) := by decide +kernel
theorem dX12_path_19 : decode cX12_path 19 = .ok (.iconst (-1), 1) := by decide +kernel
theorem dX12_path_20 : decode cX12_path 20 = .ok (.ireturn, 1) := by decide +kernel
theorem dX12_path_21 : decode cX12_path 21 = .ok (.aload_n 0, 1) := by decide +kernel
theorem dX12_path_22 : decode cX12_path 22 = .ok (.iload_n 1, 1) := by decide +kernel
theorem dX12_path_23 : decode cX12_path 23 = .ok (.iload_n 2, 1) := by decide +kernel
theorem dX12_path_24 : decode cX12_path 24 = .ok (.iload_n 3, 1) := by decide +kernel
theorem dX12_path_25 : decode cX12_path 25 = .ok (.i2l, 1) := by decide +kernel
theorem dX12_path_26 : decode cX12_path 26 = .ok (.invokevirtual 249, 3) := by decide +kernel
theorem dX12_path_29 : decode cX12_path 29 = .ok (.ifCond .ne 6, 3) := by decide +kernel
theorem dX12_path_32 : decode cX12_path 32 = .ok (.bipush (-2), 2) := by decide +kernel
theorem dX12_path_34 : decode cX12_path 34 = .ok (.ireturn, 1) := by decide +kernel
theorem dX12_path_35 : decode cX12_path 35 = .ok (.iload 4, 2) := by decide +kernel
theorem dX12_path_37 : decode cX12_path 37 = .ok (.iconst (-1), 1) := by decide +kernel
theorem dX12_path_38 : decode cX12_path 38 = .ok (.if_icmp .ne 10, 3) := by decide +kernel
theorem dX12_path_41 : decode cX12_path 41 = .ok (.aload_n 0, 1) := by decide +kernel
theorem dX12_path_42 : decode cX12_path 42 = .ok (.getfield 243, 3) := by decide +kernel
theorem dX12_path_45 : decode cX12_path 45 = .ok (.goto 24, 3) := by decide +kernel
theorem dX12_path_48 : decode cX12_path 48 = .ok (.iload 4, 2) := by decide +kernel
theorem dX12_path_50 : decode cX12_path 50 = .ok (.aload_n 0, 1) := by decide +kernel
theorem dX12_path_51 : decode cX12_path 51 = .ok (.getfield 243, 3) := by decide +kernel
theorem dX12_path_54 : decode cX12_path 54 = .ok (.if_icmp .ge 13, 3) := by decide +kernel
theorem dX12_path_57 : decode cX12_path 57 = .ok (.aload_n 0, 1) := by decide +kernel
theorem dX12_path_58 : decode cX12_path 58 = .ok (.getfield 53, 3) := by decide +kernel
theorem dX12_path_61 : decode cX12_path 61 = .ok (.iload 4, 2) := by decide +kernel
theorem dX12_path_63 : decode cX12_path 63 = .ok (.iaload, 1) := by decide +kernel
theorem dX12_path_64 : decode cX12_path 64 = .ok (.goto 5, 3) := by decide +kernel
theorem dX12_path_67 : decode cX12_path 67 = .ok (.bipush (-2), 2) := by decide +kernel
theorem dX12_path_69 : decode cX12_path 69 = .ok (.ireturn, 1) := by decide +kernel
theorem dX12_cancel_0 : decode cX12_cancel 0 = .ok (.aload_n 0, 1) := by decide +kernel
theorem dX12_cancel_1 : decode cX12_cancel 1 = .ok (.iload_n 1, 1) := by decide +kernel
theorem dX12_cancel_2 : decode cX12_cancel 2 = .ok (.iload_n 2, 1) := by decide +kernel
theorem dX12_cancel_3 : decode cX12_cancel 3 = .ok (.invokevirtual 229, 3) := by decide +kernel
theorem dX12_cancel_6 : decode cX12_cancel 6 = .ok (.ifCond .ne 5, 3) := by decide +kernel
theorem dX12_cancel_9 : decode cX12_cancel 9 = .ok (.iconst (-1), 1) := by decide +kernel
theorem dX12_cancel_10 : decode cX12_cancel 10 = .ok (.ireturn, 1) := by decide +kernel
theorem dX12_cancel_11 : decode cX12_cancel 11 = .ok (.aload_n 0, 1) := by decide +kernel
theorem dX12_cancel_12 : decode cX12_cancel 12 = .ok (.iload_n 1, 1) := by decide +kernel
theorem dX12_cancel_13 : decode cX12_cancel 13 = .ok (.iload_n 2, 1) := by decide +kernel
theorem dX12_cancel_14 : decode cX12_cancel 14 = .ok (.invokevirtual 232, 3) := by decide +kernel
theorem dX12_cancel_17 : decode cX12_cancel 17 = .ok (.lconst 1, 1) := by decide +kernel
theorem dX12_cancel_18 : decode cX12_cancel 18 = .ok (.lcmp, 1) := by decide +kernel
theorem dX12_cancel_19 : decode cX12_cancel 19 = .ok (.ifCond .eq 6, 3) := by decide +kernel
theorem dX12_cancel_22 : decode cX12_cancel 22 = .ok (.bipush (-2), 2) := by decide +kernel
theorem dX12_cancel_24 : decode cX12_cancel 24 = .ok (.ireturn, 1) := by decide +kernel
theorem dX12_cancel_25 : decode cX12_cancel 25 = .ok (.aload_n 0, 1) := by decide +kernel
theorem dX12_cancel_26 : decode cX12_cancel 26 = .ok (.iload_n 1, 1) := by decide +kernel
theorem dX12_cancel_27 : decode cX12_cancel 27 = .ok (.iload_n 2, 1) := by decide +kernel
theorem dX12_cancel_28 : decode cX12_cancel 28 = .ok (.lconst 0, 1) := by decide +kernel
theorem dX12_cancel_29 : decode cX12_cancel 29 = .ok (.invokevirtual 249, 3) := by decide +kernel
theorem dX12_cancel_32 : decode cX12_cancel 32 = .ok (.pop, 1) := by decide +kernel
theorem dX12_cancel_33 : decode cX12_cancel 33 = .ok (.aload_n 0, 1) := by decide +kernel
theorem dX12_cancel_34 : decode cX12_cancel 34 = .ok (.invokevirtual 194, 3) := by decide +kernel
theorem dX12_cancel_37 : decode cX12_cancel 37 = .ok (.iconst 0, 1) := by decide +kernel
theorem dX12_cancel_38 : decode cX12_cancel 38 = .ok (.istore_n 3, 1) := by decide +kernel
theorem dX12_cancel_39 : decode cX12_cancel 39 = .ok (.iload_n 3, 1) := by decide +kernel
theorem dX12_cancel_40 : decode cX12_cancel 40 = .ok (.aload_n 0, 1) := by decide +kernel
theorem dX12_cancel_41 : decode cX12_cancel 41 = .ok (.getfield 243, 3) := by decide +kernel
theorem dX12_cancel_44 : decode cX12_cancel 44 = .ok (.if_icmp .ge 21, 3) := by decide +kernel
theorem dX12_cancel_47 : decode cX12_cancel 47 = .ok (.aload_n 0, 1) := by decide +kernel
theorem dX12_cancel_48 : decode cX12_cancel 48 = .ok (.getfield 28, 3) := by decide +kernel
theorem dX12_cancel_51 : decode cX12_cancel 51 = .ok (.aload_n 0, 1) := by decide +kernel
theorem dX12_cancel_52 : decode cX12_cancel 52 = .ok (.getfield 53, 3) := by decide +kernel
theorem dX12_cancel_55 : decode cX12_cancel 55 = .ok (.iload_n 3, 1) := by decide +kernel
theorem dX12_cancel_56 : decode cX12_cancel 56 = .ok (.iaload, 1) := by decide +kernel
theorem dX12_cancel_57 : decode cX12_cancel 57 = .ok (.iconst (-1), 1) := by decide +kernel
theorem dX12_cancel_58 : decode cX12_cancel 58 = .ok (.iastore, 1) := by decide +kernel
theorem dX12_cancel_59 : decode cX12_cancel 59 = .ok (.iinc 3 1, 3) := by decide +kernel
theorem dX12_cancel_62 : decode cX12_cancel 62 = .ok (.goto (-23), 3) := by decide +kernel
theorem dX12_cancel_65 : decode cX12_cancel 65 = .ok (.iconst 0, 1) := by decide +kernel
theorem dX12_cancel_66 : decode cX12_cancel 66 = .ok (.istore_n 3, 1) := by decide +kernel
theorem dX12_cancel_67 : decode cX12_cancel 67 = .ok (.iload_n 3, 1) := by decide +kernel
theorem dX12_cancel_68 : decode cX12_cancel 68 = .ok (.iconst 1, 1) := by decide +kernel
theorem dX12_cancel_69 : decode cX12_cancel 69 = .ok (.iadd, 1) := by decide +kernel
theorem dX12_cancel_70 : decode cX12_cancel 70 = .ok (.aload_n 0, 1) := by decide +kernel
theorem dX12_cancel_71 : decode cX12_cancel 71 = .ok (.getfield 243, 3) := by decide +kernel
theorem dX12_cancel_74 : decode cX12_cancel 74 = .ok (.if_icmp .ge 47, 3) := by decide +kernel
theorem dX12_cancel_77 : decode cX12_cancel 77 = .ok (.aload_n 0, 1) := by decide +kernel
theorem dX12_cancel_78 : decode cX12_cancel 78 = .ok (.getfield 28, 3) := by decide +kernel
theorem dX12_cancel_81 : decode cX12_cancel 81 = .ok (.aload_n 0, 1) := by decide +kernel
theorem dX12_cancel_82 : decode cX12_cancel 82 = .ok (.getfield 53, 3) := by decide +kernel
theorem dX12_cancel_85 : decode cX12_cancel 85 = .ok (.iload_n 3, 1) := by decide +kernel
theorem dX12_cancel_86 : decode cX12_cancel 86 = .ok (.iaload, 1) := by decide +kernel
theorem dX12_cancel_87 : decode cX12_cancel 87 = .ok (.aload_n 0, 1) := by decide +kernel
theorem dX12_cancel_88 : decode cX12_cancel 88 = .ok (.getfield 53, 3) := by decide +kernel
theorem dX12_cancel_91 : decode cX12_cancel 91 = .ok (.iload_n 3, 1) := by decide +kernel
theorem dX12_cancel_92 : decode cX12_cancel 92 = .ok (.iconst 1, 1) := by decide +kernel
theorem dX12_cancel_93 : decode cX12_cancel 93 = .ok (.iadd, 1) := by decide +kernel
theorem dX12_cancel_94 : decode cX12_cancel 94 = .ok (.iaload, 1) := by decide +kernel
theorem dX12_cancel_95 : decode cX12_cancel 95 = .ok (.iastore, 1) := by decide +kernel
theorem dX12_cancel_96 : decode cX12_cancel 96 = .ok (.aload_n 0, 1) := by decide +kernel
theorem dX12_cancel_97 : decode cX12_cancel 97 = .ok (.getfield 28, 3) := by decide +kernel
theorem dX12_cancel_100 : decode cX12_cancel 100 = .ok (.aload_n 0, 1) := by decide +kernel
theorem dX12_cancel_101 : decode cX12_cancel 101 = .ok (.getfield 53, 3) := by decide +kernel
theorem dX12_cancel_104 : decode cX12_cancel 104 = .ok (.iload_n 3, 1) := by decide +kernel
theorem dX12_cancel_105 : decode cX12_cancel 105 = .ok (.iconst 1, 1) := by decide +kernel
theorem dX12_cancel_106 : decode cX12_cancel 106 = .ok (.iadd, 1) := by decide +kernel
theorem dX12_cancel_107 : decode cX12_cancel 107 = .ok (.iaload, 1) := by decide +kernel
theorem dX12_cancel_108 : decode cX12_cancel 108 = .ok (.aload_n 0, 1) := by decide +kernel
theorem dX12_cancel_109 : decode cX12_cancel 109 = .ok (.getfield 53, 3) := by decide +kernel
theorem dX12_cancel_112 : decode cX12_cancel 112 = .ok (.iload_n 3, 1) := by decide +kernel
theorem dX12_cancel_113 : decode cX12_cancel 113 = .ok (.iaload, 1) := by decide +kernel
theorem dX12_cancel_114 : decode cX12_cancel 114 = .ok (.iastore, 1) := by decide +kernel
theorem dX12_cancel_115 : decode cX12_cancel 115 = .ok (.iinc 3 2, 3) := by decide +kernel
theorem dX12_cancel_118 : decode cX12_cancel 118 = .ok (.goto (-51), 3) := by decide +kernel
theorem dX12_cancel_121 : decode cX12_cancel 121 = .ok (.aload_n 0, 1) := by decide +kernel
theorem dX12_cancel_122 : decode cX12_cancel 122 = .ok (.invokevirtual 197, 3) := by decide +kernel
theorem dX12_cancel_125 : decode cX12_cancel 125 = .ok (.ireturn, 1) := by decide +kernel
theorem dX12_laysReach_0 : decode cX12_laysReach 0 = .ok (.aload_n 0, 1) := by decide +kernel
theorem dX12_laysReach_1 : decode cX12_laysReach 1 = .ok (.iload_n 1, 1) := by decide +kernel
theorem dX12_laysReach_2 : decode cX12_laysReach 2 = .ok (.iload_n 2, 1) := by decide +kernel
theorem dX12_laysReach_3 : decode cX12_laysReach 3 = .ok (.invokevirtual 162, 3) := by decide +kernel
theorem dX12_laysReach_6 : decode cX12_laysReach 6 = .ok (.invokestatic 105, 3) := by decide +kernel
theorem dX12_laysReach_9 : decode cX12_laysReach 9 = .ok (.i2l, 1) := by decide +kernel
theorem dX12_laysReach_10 : decode cX12_laysReach 10 = .ok (.lstore_n 3, 1) := by decide +kernel
theorem dX12_laysReach_11 : decode cX12_laysReach 11 = .ok (.iconst 0, 1) := by decide +kernel
theorem dX12_laysReach_12 : decode cX12_laysReach 12 = .ok (.istore 5, 2) := by decide +kernel
theorem dX12_laysReach_14 : decode cX12_laysReach 14 = .ok (.iload 5, 2) := by decide +kernel
theorem dX12_laysReach_16 : decode cX12_laysReach 16 = .ok (.aload_n 0, 1) := by decide +kernel
theorem dX12_laysReach_17 : decode cX12_laysReach 17 = .ok (.getfield 139, 3) := by decide +kernel
theorem dX12_laysReach_20 : decode cX12_laysReach 20 = .ok (.if_icmp .ge 91, 3) := by decide +kernel
theorem dX12_laysReach_23 : decode cX12_laysReach 23 = .ok (.iload 5, 2) := by decide +kernel
theorem dX12_laysReach_25 : decode cX12_laysReach 25 = .ok (.iload_n 1, 1) := by decide +kernel
theorem dX12_laysReach_26 : decode cX12_laysReach 26 = .ok (.if_icmp .eq 79, 3) := by decide +kernel
theorem dX12_laysReach_29 : decode cX12_laysReach 29 = .ok (.aload_n 0, 1) := by decide +kernel
theorem dX12_laysReach_30 : decode cX12_laysReach 30 = .ok (.iload 5, 2) := by decide +kernel
theorem dX12_laysReach_32 : decode cX12_laysReach 32 = .ok (.invokevirtual 156, 3) := by decide +kernel
theorem dX12_laysReach_35 : decode cX12_laysReach 35 = .ok (.ifCond .eq 70, 3) := by decide +kernel
theorem dX12_laysReach_38 : decode cX12_laysReach 38 = .ok (.aload_n 0, 1) := by decide +kernel
theorem dX12_laysReach_39 : decode cX12_laysReach 39 = .ok (.iload 5, 2) := by decide +kernel
theorem dX12_laysReach_41 : decode cX12_laysReach 41 = .ok (.invokevirtual 170, 3) := by decide +kernel
theorem dX12_laysReach_44 : decode cX12_laysReach 44 = .ok (.ifCond .eq 61, 3) := by decide +kernel
theorem dX12_laysReach_47 : decode cX12_laysReach 47 = .ok (.aload_n 0, 1) := by decide +kernel
theorem dX12_laysReach_48 : decode cX12_laysReach 48 = .ok (.iload 5, 2) := by decide +kernel
theorem dX12_laysReach_50 : decode cX12_laysReach 50 = .ok (.invokevirtual 149, 3) := by decide +kernel
theorem dX12_laysReach_53 : decode cX12_laysReach 53 = .ok (.aload_n 0, 1) := by decide +kernel
theorem dX12_laysReach_54 : decode cX12_laysReach 54 = .ok (.iload_n 1, 1) := by decide +kernel
theorem dX12_laysReach_55 : decode cX12_laysReach 55 = .ok (.invokevirtual 149, 3) := by decide +kernel
theorem dX12_laysReach_58 : decode cX12_laysReach 58 = .ok (.if_icmp .ne 47, 3) := by decide +kernel
theorem dX12_laysReach_61 : decode cX12_laysReach 61 = .ok (.aload_n 0, 1) := by decide +kernel
theorem dX12_laysReach_62 : decode cX12_laysReach 62 = .ok (.iload_n 1, 1) := by decide +kernel
theorem dX12_laysReach_63 : decode cX12_laysReach 63 = .ok (.aload_n 0, 1) := by decide +kernel
theorem dX12_laysReach_64 : decode cX12_laysReach 64 = .ok (.getfield 28, 3) := by decide +kernel
theorem dX12_laysReach_67 : decode cX12_laysReach 67 = .ok (.iload 5, 2) := by decide +kernel
theorem dX12_laysReach_69 : decode cX12_laysReach 69 = .ok (.iaload, 1) := by decide +kernel
theorem dX12_laysReach_70 : decode cX12_laysReach 70 = .ok (.invokevirtual 162, 3) := by decide +kernel
theorem dX12_laysReach_73 : decode cX12_laysReach 73 = .ok (.ifCond .ne 6, 3) := by decide +kernel
theorem dX12_laysReach_76 : decode cX12_laysReach 76 = .ok (.goto 29, 3) := by decide +kernel
theorem dX12_laysReach_79 : decode cX12_laysReach 79 = .ok (.aload_n 0, 1) := by decide +kernel
theorem dX12_laysReach_80 : decode cX12_laysReach 80 = .ok (.getfield 56, 3) := by decide +kernel
theorem dX12_laysReach_83 : decode cX12_laysReach 83 = .ok (.iload 5, 2) := by decide +kernel
theorem dX12_laysReach_85 : decode cX12_laysReach 85 = .ok (.laload, 1) := by decide +kernel
theorem dX12_laysReach_86 : decode cX12_laysReach 86 = .ok (.ldc2_w 221, 3) := by decide +kernel
theorem dX12_laysReach_89 : decode cX12_laysReach 89 = .ok (.lcmp, 1) := by decide +kernel
theorem dX12_laysReach_90 : decode cX12_laysReach 90 = .ok (.ifCond .ne 5, 3) := by decide +kernel
theorem dX12_laysReach_93 : decode cX12_laysReach 93 = .ok (.iconst 0, 1) := by decide +kernel
theorem dX12_laysReach_94 : decode cX12_laysReach 94 = .ok (.ireturn, 1) := by decide +kernel
theorem dX12_laysReach_95 : decode cX12_laysReach 95 = .ok (.lload_n 3, 1) := by decide +kernel
theorem dX12_laysReach_96 : decode cX12_laysReach 96 = .ok (.aload_n 0, 1) := by decide +kernel
theorem dX12_laysReach_97 : decode cX12_laysReach 97 = .ok (.getfield 56, 3) := by decide +kernel
theorem dX12_laysReach_100 : decode cX12_laysReach 100 = .ok (.iload 5, 2) := by decide +kernel
theorem dX12_laysReach_102 : decode cX12_laysReach 102 = .ok (.laload, 1) := by decide +kernel
theorem dX12_laysReach_103 : decode cX12_laysReach 103 = .ok (.ladd, 1) := by decide +kernel
theorem dX12_laysReach_104 : decode cX12_laysReach 104 = .ok (.lstore_n 3, 1) := by decide +kernel
theorem dX12_laysReach_105 : decode cX12_laysReach 105 = .ok (.iinc 5 1, 3) := by decide +kernel
theorem dX12_laysReach_108 : decode cX12_laysReach 108 = .ok (.goto (-94), 3) := by decide +kernel
theorem dX12_laysReach_111 : decode cX12_laysReach 111 = .ok (.aload_n 0, 1) := by decide +kernel
theorem dX12_laysReach_112 : decode cX12_laysReach 112 = .ok (.getfield 56, 3) := by decide +kernel
theorem dX12_laysReach_115 : decode cX12_laysReach 115 = .ok (.iload_n 1, 1) := by decide +kernel
theorem dX12_laysReach_116 : decode cX12_laysReach 116 = .ok (.lload_n 3, 1) := by decide +kernel
theorem dX12_laysReach_117 : decode cX12_laysReach 117 = .ok (.lastore, 1) := by decide +kernel
theorem dX12_laysReach_118 : decode cX12_laysReach 118 = .ok (.iconst 1, 1) := by decide +kernel
theorem dX12_laysReach_119 : decode cX12_laysReach 119 = .ok (.ireturn, 1) := by decide +kernel
theorem dX12_through_0 : decode cX12_through 0 = .ok (.aload_n 0, 1) := by decide +kernel
theorem dX12_through_1 : decode cX12_through 1 = .ok (.iload_n 1, 1) := by decide +kernel
theorem dX12_through_2 : decode cX12_through 2 = .ok (.iload_n 2, 1) := by decide +kernel
theorem dX12_through_3 : decode cX12_through 3 = .ok (.invokevirtual 229, 3) := by decide +kernel
theorem dX12_through_6 : decode cX12_through 6 = .ok (.ifCond .eq 11, 3) := by decide +kernel
theorem dX12_through_9 : decode cX12_through 9 = .ok (.aload_n 0, 1) := by decide +kernel
theorem dX12_through_10 : decode cX12_through 10 = .ok (.iload_n 3, 1) := by decide +kernel
theorem dX12_through_11 : decode cX12_through 11 = .ok (.invokevirtual 156, 3) := by decide +kernel
theorem dX12_through_14 : decode cX12_through 14 = .ok (.ifCond .ne 7, 3) := by decide +kernel
theorem dX12_through_17 : decode cX12_through 17 = .ok (.ldc2_w 236, 3) := by decide +kernel
theorem dX12_through_20 : decode cX12_through 20 = .ok (.lreturn, 1) := by decide +kernel
theorem dX12_through_21 : decode cX12_through 21 = .ok (.aload_n 0, 1) := by decide +kernel
theorem dX12_through_22 : decode cX12_through 22 = .ok (.iload_n 1, 1) := by decide +kernel
theorem dX12_through_23 : decode cX12_through 23 = .ok (.iload_n 2, 1) := by decide +kernel
theorem dX12_through_24 : decode cX12_through 24 = .ok (.invokevirtual 232, 3) := by decide +kernel
theorem dX12_through_27 : decode cX12_through 27 = .ok (.lstore 4, 2) := by decide +kernel
theorem dX12_through_29 : decode cX12_through 29 = .ok (.iload_n 3, 1) := by decide +kernel
theorem dX12_through_30 : decode cX12_through 30 = .ok (.iload_n 1, 1) := by decide +kernel
theorem dX12_through_31 : decode cX12_through 31 = .ok (.if_icmp .eq 8, 3) := by decide +kernel
theorem dX12_through_34 : decode cX12_through 34 = .ok (.iload_n 3, 1) := by decide +kernel
theorem dX12_through_35 : decode cX12_through 35 = .ok (.iload_n 2, 1) := by decide +kernel
theorem dX12_through_36 : decode cX12_through 36 = .ok (.if_icmp .ne 6, 3) := by decide +kernel
theorem dX12_through_39 : decode cX12_through 39 = .ok (.lload 4, 2) := by decide +kernel
theorem dX12_through_41 : decode cX12_through 41 = .ok (.lreturn, 1) := by decide +kernel
theorem dX12_through_42 : decode cX12_through 42 = .ok (.aload_n 0, 1) := by decide +kernel
theorem dX12_through_43 : decode cX12_through 43 = .ok (.iload_n 3, 1) := by decide +kernel
theorem dX12_through_44 : decode cX12_through 44 = .ok (.invokevirtual 149, 3) := by decide +kernel
theorem dX12_through_47 : decode cX12_through 47 = .ok (.aload_n 0, 1) := by decide +kernel
theorem dX12_through_48 : decode cX12_through 48 = .ok (.iload_n 2, 1) := by decide +kernel
theorem dX12_through_49 : decode cX12_through 49 = .ok (.invokevirtual 149, 3) := by decide +kernel
theorem dX12_through_52 : decode cX12_through 52 = .ok (.if_icmp .ne 7, 3) := by decide +kernel
theorem dX12_through_55 : decode cX12_through 55 = .ok (.iload_n 3, 1) := by decide +kernel
theorem dX12_through_56 : decode cX12_through 56 = .ok (.goto 9, 3) := by decide +kernel
theorem dX12_through_59 : decode cX12_through 59 = .ok (.aload_n 0, 1) := by decide +kernel
theorem dX12_through_60 : decode cX12_through 60 = .ok (.getfield 28, 3) := by decide +kernel
theorem dX12_through_63 : decode cX12_through 63 = .ok (.iload_n 3, 1) := by decide +kernel
theorem dX12_through_64 : decode cX12_through 64 = .ok (.iaload, 1) := by decide +kernel
theorem dX12_through_65 : decode cX12_through 65 = .ok (.istore 6, 2) := by decide +kernel
theorem dX12_through_67 : decode cX12_through 67 = .ok (.iload 6, 2) := by decide +kernel
theorem dX12_through_69 : decode cX12_through 69 = .ok (.iconst (-1), 1) := by decide +kernel
theorem dX12_through_70 : decode cX12_through 70 = .ok (.if_icmp .eq 26, 3) := by decide +kernel
theorem dX12_through_73 : decode cX12_through 73 = .ok (.aload_n 0, 1) := by decide +kernel
theorem dX12_through_74 : decode cX12_through 74 = .ok (.iload 6, 2) := by decide +kernel
theorem dX12_through_76 : decode cX12_through 76 = .ok (.invokevirtual 149, 3) := by decide +kernel
theorem dX12_through_79 : decode cX12_through 79 = .ok (.aload_n 0, 1) := by decide +kernel
theorem dX12_through_80 : decode cX12_through 80 = .ok (.iload_n 2, 1) := by decide +kernel
theorem dX12_through_81 : decode cX12_through 81 = .ok (.invokevirtual 149, 3) := by decide +kernel
theorem dX12_through_84 : decode cX12_through 84 = .ok (.if_icmp .ne 12, 3) := by decide +kernel
theorem dX12_through_87 : decode cX12_through 87 = .ok (.aload_n 0, 1) := by decide +kernel
theorem dX12_through_88 : decode cX12_through 88 = .ok (.iload 6, 2) := by decide +kernel
theorem dX12_through_90 : decode cX12_through 90 = .ok (.invokevirtual 170, 3) := by decide +kernel
theorem dX12_through_93 : decode cX12_through 93 = .ok (.ifCond .ne 5, 3) := by decide +kernel
theorem dX12_through_96 : decode cX12_through 96 = .ok (.lconst 0, 1) := by decide +kernel
theorem dX12_through_97 : decode cX12_through 97 = .ok (.lreturn, 1) := by decide +kernel
theorem dX12_through_98 : decode cX12_through 98 = .ok (.iconst 0, 1) := by decide +kernel
theorem dX12_through_99 : decode cX12_through 99 = .ok (.istore 7, 2) := by decide +kernel
theorem dX12_through_101 : decode cX12_through 101 = .ok (.iload 7, 2) := by decide +kernel
theorem dX12_through_103 : decode cX12_through 103 = .ok (.aload_n 0, 1) := by decide +kernel
theorem dX12_through_104 : decode cX12_through 104 = .ok (.getfield 139, 3) := by decide +kernel
theorem dX12_through_107 : decode cX12_through 107 = .ok (.if_icmp .ge 19, 3) := by decide +kernel
theorem dX12_through_110 : decode cX12_through 110 = .ok (.aload_n 0, 1) := by decide +kernel
theorem dX12_through_111 : decode cX12_through 111 = .ok (.getfield 56, 3) := by decide +kernel
theorem dX12_through_114 : decode cX12_through 114 = .ok (.iload 7, 2) := by decide +kernel
theorem dX12_through_116 : decode cX12_through 116 = .ok (.ldc2_w 221, 3) := by decide +kernel
theorem dX12_through_119 : decode cX12_through 119 = .ok (.lastore, 1) := by decide +kernel
theorem dX12_through_120 : decode cX12_through 120 = .ok (.iinc 7 1, 3) := by decide +kernel
theorem dX12_through_123 : decode cX12_through 123 = .ok (.goto (-22), 3) := by decide +kernel
theorem dX12_through_126 : decode cX12_through 126 = .ok (.aload_n 0, 1) := by decide +kernel
theorem dX12_through_127 : decode cX12_through 127 = .ok (.getfield 56, 3) := by decide +kernel
theorem dX12_through_130 : decode cX12_through 130 = .ok (.iload 6, 2) := by decide +kernel
theorem dX12_through_132 : decode cX12_through 132 = .ok (.laload, 1) := by decide +kernel
theorem dX12_through_133 : decode cX12_through 133 = .ok (.ldc2_w 221, 3) := by decide +kernel
theorem dX12_through_136 : decode cX12_through 136 = .ok (.lcmp, 1) := by decide +kernel
theorem dX12_through_137 : decode cX12_through 137 = .ok (.ifCond .ne 69, 3) := by decide +kernel
theorem dX12_through_140 : decode cX12_through 140 = .ok (.iconst 0, 1) := by decide +kernel
theorem dX12_through_141 : decode cX12_through 141 = .ok (.istore 7, 2) := by decide +kernel
theorem dX12_through_143 : decode cX12_through 143 = .ok (.iload 7, 2) := by decide +kernel
theorem dX12_through_145 : decode cX12_through 145 = .ok (.aload_n 0, 1) := by decide +kernel
theorem dX12_through_146 : decode cX12_through 146 = .ok (.getfield 139, 3) := by decide +kernel
theorem dX12_through_149 : decode cX12_through 149 = .ok (.if_icmp .ge 54, 3) := by decide +kernel
theorem dX12_through_152 : decode cX12_through 152 = .ok (.aload_n 0, 1) := by decide +kernel
theorem dX12_through_153 : decode cX12_through 153 = .ok (.getfield 56, 3) := by decide +kernel
theorem dX12_through_156 : decode cX12_through 156 = .ok (.iload 7, 2) := by decide +kernel
theorem dX12_through_158 : decode cX12_through 158 = .ok (.laload, 1) := by decide +kernel
theorem dX12_through_159 : decode cX12_through 159 = .ok (.ldc2_w 221, 3) := by decide +kernel
theorem dX12_through_162 : decode cX12_through 162 = .ok (.lcmp, 1) := by decide +kernel
theorem dX12_through_163 : decode cX12_through 163 = .ok (.ifCond .ne 34, 3) := by decide +kernel
theorem dX12_through_166 : decode cX12_through 166 = .ok (.aload_n 0, 1) := by decide +kernel
theorem dX12_through_167 : decode cX12_through 167 = .ok (.iload 7, 2) := by decide +kernel
theorem dX12_through_169 : decode cX12_through 169 = .ok (.invokevirtual 156, 3) := by decide +kernel
theorem dX12_through_172 : decode cX12_through 172 = .ok (.ifCond .eq 25, 3) := by decide +kernel
theorem dX12_through_175 : decode cX12_through 175 = .ok (.aload_n 0, 1) := by decide +kernel
theorem dX12_through_176 : decode cX12_through 176 = .ok (.iload 7, 2) := by decide +kernel
theorem dX12_through_178 : decode cX12_through 178 = .ok (.invokevirtual 149, 3) := by decide +kernel
theorem dX12_through_181 : decode cX12_through 181 = .ok (.aload_n 0, 1) := by decide +kernel
theorem dX12_through_182 : decode cX12_through 182 = .ok (.iload_n 2, 1) := by decide +kernel
theorem dX12_through_183 : decode cX12_through 183 = .ok (.invokevirtual 149, 3) := by decide +kernel
theorem dX12_through_186 : decode cX12_through 186 = .ok (.if_icmp .ne 11, 3) := by decide +kernel
theorem dX12_through_189 : decode cX12_through 189 = .ok (.aload_n 0, 1) := by decide +kernel
theorem dX12_through_190 : decode cX12_through 190 = .ok (.iload 7, 2) := by decide +kernel
theorem dX12_through_192 : decode cX12_through 192 = .ok (.iload_n 1, 1) := by decide +kernel
theorem dX12_through_193 : decode cX12_through 193 = .ok (.invokevirtual 253, 3) := by decide +kernel
theorem dX12_through_196 : decode cX12_through 196 = .ok (.pop, 1) := by decide +kernel
theorem dX12_through_197 : decode cX12_through 197 = .ok (.iinc 7 1, 3) := by decide +kernel
theorem dX12_through_200 : decode cX12_through 200 = .ok (.goto (-57), 3) := by decide +kernel
theorem dX12_through_203 : decode cX12_through 203 = .ok (.goto (-77), 3) := by decide +kernel
theorem dX12_through_206 : decode cX12_through 206 = .ok (.aload_n 0, 1) := by decide +kernel
theorem dX12_through_207 : decode cX12_through 207 = .ok (.getfield 56, 3) := by decide +kernel
theorem dX12_through_210 : decode cX12_through 210 = .ok (.iload 6, 2) := by decide +kernel
theorem dX12_through_212 : decode cX12_through 212 = .ok (.laload, 1) := by decide +kernel
theorem dX12_through_213 : decode cX12_through 213 = .ok (.aload_n 0, 1) := by decide +kernel
theorem dX12_through_214 : decode cX12_through 214 = .ok (.getfield 46, 3) := by decide +kernel
theorem dX12_through_217 : decode cX12_through 217 = .ok (.iload 6, 2) := by decide +kernel
theorem dX12_through_219 : decode cX12_through 219 = .ok (.laload, 1) := by decide +kernel
theorem dX12_through_220 : decode cX12_through 220 = .ok (.lmul, 1) := by decide +kernel
theorem dX12_through_221 : decode cX12_through 221 = .ok (.lreturn, 1) := by decide +kernel
theorem dX12_squares_0 : decode cX12_squares 0 = .ok (.iconst 0, 1) := by decide +kernel
theorem dX12_squares_1 : decode cX12_squares 1 = .ok (.istore_n 1, 1) := by decide +kernel
theorem dX12_squares_2 : decode cX12_squares 2 = .ok (.iconst 0, 1) := by decide +kernel
theorem dX12_squares_3 : decode cX12_squares 3 = .ok (.istore_n 2, 1) := by decide +kernel
theorem dX12_squares_4 : decode cX12_squares 4 = .ok (.iload_n 2, 1) := by decide +kernel
theorem dX12_squares_5 : decode cX12_squares 5 = .ok (.aload_n 0, 1) := by decide +kernel
theorem dX12_squares_6 : decode cX12_squares 6 = .ok (.getfield 139, 3) := by decide +kernel
theorem dX12_squares_9 : decode cX12_squares 9 = .ok (.if_icmp .ge 78, 3) := by decide +kernel
theorem dX12_squares_12 : decode cX12_squares 12 = .ok (.iconst 0, 1) := by decide +kernel
theorem dX12_squares_13 : decode cX12_squares 13 = .ok (.istore_n 3, 1) := by decide +kernel
theorem dX12_squares_14 : decode cX12_squares 14 = .ok (.iload_n 3, 1) := by decide +kernel
theorem dX12_squares_15 : decode cX12_squares 15 = .ok (.aload_n 0, 1) := by decide +kernel
theorem dX12_squares_16 : decode cX12_squares 16 = .ok (.getfield 139, 3) := by decide +kernel
theorem dX12_squares_19 : decode cX12_squares 19 = .ok (.if_icmp .ge 62, 3) := by decide +kernel
theorem dX12_squares_22 : decode cX12_squares 22 = .ok (.aload_n 0, 1) := by decide +kernel
theorem dX12_squares_23 : decode cX12_squares 23 = .ok (.iload_n 2, 1) := by decide +kernel
theorem dX12_squares_24 : decode cX12_squares 24 = .ok (.invokevirtual 159, 3) := by decide +kernel
theorem dX12_squares_27 : decode cX12_squares 27 = .ok (.ifCond .eq 48, 3) := by decide +kernel
theorem dX12_squares_30 : decode cX12_squares 30 = .ok (.aload_n 0, 1) := by decide +kernel
theorem dX12_squares_31 : decode cX12_squares 31 = .ok (.iload_n 3, 1) := by decide +kernel
theorem dX12_squares_32 : decode cX12_squares 32 = .ok (.invokevirtual 159, 3) := by decide +kernel
theorem dX12_squares_35 : decode cX12_squares 35 = .ok (.ifCond .eq 40, 3) := by decide +kernel
theorem dX12_squares_38 : decode cX12_squares 38 = .ok (.aload_n 0, 1) := by decide +kernel
theorem dX12_squares_39 : decode cX12_squares 39 = .ok (.iload_n 2, 1) := by decide +kernel
theorem dX12_squares_40 : decode cX12_squares 40 = .ok (.invokevirtual 149, 3) := by decide +kernel
theorem dX12_squares_43 : decode cX12_squares 43 = .ok (.aload_n 0, 1) := by decide +kernel
theorem dX12_squares_44 : decode cX12_squares 44 = .ok (.iload_n 3, 1) := by decide +kernel
theorem dX12_squares_45 : decode cX12_squares 45 = .ok (.invokevirtual 149, 3) := by decide +kernel
theorem dX12_squares_48 : decode cX12_squares 48 = .ok (.iconst 2, 1) := by decide +kernel
theorem dX12_squares_49 : decode cX12_squares 49 = .ok (.iadd, 1) := by decide +kernel
theorem dX12_squares_50 : decode cX12_squares 50 = .ok (.if_icmp .ne 25, 3) := by decide +kernel
theorem dX12_squares_53 : decode cX12_squares 53 = .ok (.iload_n 1, 1) := by decide +kernel
theorem dX12_squares_54 : decode cX12_squares 54 = .ok (.aload_n 0, 1) := by decide +kernel
theorem dX12_squares_55 : decode cX12_squares 55 = .ok (.iload_n 2, 1) := by decide +kernel
theorem dX12_squares_56 : decode cX12_squares 56 = .ok (.iload_n 3, 1) := by decide +kernel
theorem dX12_squares_57 : decode cX12_squares 57 = .ok (.invokevirtual 256, 3) := by decide +kernel
theorem dX12_squares_60 : decode cX12_squares 60 = .ok (.lconst 0, 1) := by decide +kernel
theorem dX12_squares_61 : decode cX12_squares 61 = .ok (.lcmp, 1) := by decide +kernel
theorem dX12_squares_62 : decode cX12_squares 62 = .ok (.ifCond .eq 7, 3) := by decide +kernel
theorem dX12_squares_65 : decode cX12_squares 65 = .ok (.iconst 1, 1) := by decide +kernel
theorem dX12_squares_66 : decode cX12_squares 66 = .ok (.goto 4, 3) := by decide +kernel
theorem dX12_squares_69 : decode cX12_squares 69 = .ok (.iconst 0, 1) := by decide +kernel
theorem dX12_squares_70 : decode cX12_squares 70 = .ok (.invokestatic 105, 3) := by decide +kernel
theorem dX12_squares_73 : decode cX12_squares 73 = .ok (.iadd, 1) := by decide +kernel
theorem dX12_squares_74 : decode cX12_squares 74 = .ok (.istore_n 1, 1) := by decide +kernel
theorem dX12_squares_75 : decode cX12_squares 75 = .ok (.iinc 3 1, 3) := by decide +kernel
theorem dX12_squares_78 : decode cX12_squares 78 = .ok (.goto (-64), 3) := by decide +kernel
theorem dX12_squares_81 : decode cX12_squares 81 = .ok (.iinc 2 1, 3) := by decide +kernel
theorem dX12_squares_84 : decode cX12_squares 84 = .ok (.goto (-80), 3) := by decide +kernel
theorem dX12_squares_87 : decode cX12_squares 87 = .ok (.iload_n 1, 1) := by decide +kernel
theorem dX12_squares_88 : decode cX12_squares 88 = .ok (.ireturn, 1) := by decide +kernel
theorem dX12_squareOf_0 : decode cX12_squareOf 0 = .ok (.lconst 0, 1) := by decide +kernel
theorem dX12_squareOf_1 : decode cX12_squareOf 1 = .ok (.lstore_n 3, 1) := by decide +kernel
theorem dX12_squareOf_2 : decode cX12_squareOf 2 = .ok (.iconst 0, 1) := by decide +kernel
theorem dX12_squareOf_3 : decode cX12_squareOf 3 = .ok (.istore 5, 2) := by decide +kernel
theorem dX12_squareOf_5 : decode cX12_squareOf 5 = .ok (.iload 5, 2) := by decide +kernel
theorem dX12_squareOf_7 : decode cX12_squareOf 7 = .ok (.aload_n 0, 1) := by decide +kernel
theorem dX12_squareOf_8 : decode cX12_squareOf 8 = .ok (.getfield 139, 3) := by decide +kernel
theorem dX12_squareOf_11 : decode cX12_squareOf 11 = .ok (.if_icmp .ge 47, 3) := by decide +kernel
theorem dX12_squareOf_14 : decode cX12_squareOf 14 = .ok (.aload_n 0, 1) := by decide +kernel
theorem dX12_squareOf_15 : decode cX12_squareOf 15 = .ok (.iload_n 1, 1) := by decide +kernel
theorem dX12_squareOf_16 : decode cX12_squareOf 16 = .ok (.iload 5, 2) := by decide +kernel
theorem dX12_squareOf_18 : decode cX12_squareOf 18 = .ok (.invokevirtual 229, 3) := by decide +kernel
theorem dX12_squareOf_21 : decode cX12_squareOf 21 = .ok (.ifCond .eq 31, 3) := by decide +kernel
theorem dX12_squareOf_24 : decode cX12_squareOf 24 = .ok (.aload_n 0, 1) := by decide +kernel
theorem dX12_squareOf_25 : decode cX12_squareOf 25 = .ok (.iload 5, 2) := by decide +kernel
theorem dX12_squareOf_27 : decode cX12_squareOf 27 = .ok (.iload_n 2, 1) := by decide +kernel
theorem dX12_squareOf_28 : decode cX12_squareOf 28 = .ok (.invokevirtual 229, 3) := by decide +kernel
theorem dX12_squareOf_31 : decode cX12_squareOf 31 = .ok (.ifCond .eq 21, 3) := by decide +kernel
theorem dX12_squareOf_34 : decode cX12_squareOf 34 = .ok (.lload_n 3, 1) := by decide +kernel
theorem dX12_squareOf_35 : decode cX12_squareOf 35 = .ok (.aload_n 0, 1) := by decide +kernel
theorem dX12_squareOf_36 : decode cX12_squareOf 36 = .ok (.iload_n 1, 1) := by decide +kernel
theorem dX12_squareOf_37 : decode cX12_squareOf 37 = .ok (.iload 5, 2) := by decide +kernel
theorem dX12_squareOf_39 : decode cX12_squareOf 39 = .ok (.invokevirtual 238, 3) := by decide +kernel
theorem dX12_squareOf_42 : decode cX12_squareOf 42 = .ok (.aload_n 0, 1) := by decide +kernel
theorem dX12_squareOf_43 : decode cX12_squareOf 43 = .ok (.iload 5, 2) := by decide +kernel
theorem dX12_squareOf_45 : decode cX12_squareOf 45 = .ok (.iload_n 2, 1) := by decide +kernel
theorem dX12_squareOf_46 : decode cX12_squareOf 46 = .ok (.invokevirtual 238, 3) := by decide +kernel
theorem dX12_squareOf_49 : decode cX12_squareOf 49 = .ok (.lmul, 1) := by decide +kernel
theorem dX12_squareOf_50 : decode cX12_squareOf 50 = .ok (.ladd, 1) := by decide +kernel
theorem dX12_squareOf_51 : decode cX12_squareOf 51 = .ok (.lstore_n 3, 1) := by decide +kernel
theorem dX12_squareOf_52 : decode cX12_squareOf 52 = .ok (.iinc 5 1, 3) := by decide +kernel
theorem dX12_squareOf_55 : decode cX12_squareOf 55 = .ok (.goto (-50), 3) := by decide +kernel
theorem dX12_squareOf_58 : decode cX12_squareOf 58 = .ok (.lload_n 3, 1) := by decide +kernel
theorem dX12_squareOf_59 : decode cX12_squareOf 59 = .ok (.lreturn, 1) := by decide +kernel
theorem dX12_laysLink_0 : decode cX12_laysLink 0 = .ok (.aload_n 0, 1) := by decide +kernel
theorem dX12_laysLink_1 : decode cX12_laysLink 1 = .ok (.getfield 28, 3) := by decide +kernel
theorem dX12_laysLink_4 : decode cX12_laysLink 4 = .ok (.iload_n 1, 1) := by decide +kernel
theorem dX12_laysLink_5 : decode cX12_laysLink 5 = .ok (.iaload, 1) := by decide +kernel
theorem dX12_laysLink_6 : decode cX12_laysLink 6 = .ok (.istore_n 2, 1) := by decide +kernel
theorem dX12_laysLink_7 : decode cX12_laysLink 7 = .ok (.lconst 0, 1) := by decide +kernel
theorem dX12_laysLink_8 : decode cX12_laysLink 8 = .ok (.lstore_n 3, 1) := by decide +kernel
theorem dX12_laysLink_9 : decode cX12_laysLink 9 = .ok (.iconst 0, 1) := by decide +kernel
theorem dX12_laysLink_10 : decode cX12_laysLink 10 = .ok (.istore 5, 2) := by decide +kernel
theorem dX12_laysLink_12 : decode cX12_laysLink 12 = .ok (.iload 5, 2) := by decide +kernel
theorem dX12_laysLink_14 : decode cX12_laysLink 14 = .ok (.aload_n 0, 1) := by decide +kernel
theorem dX12_laysLink_15 : decode cX12_laysLink 15 = .ok (.getfield 139, 3) := by decide +kernel
theorem dX12_laysLink_18 : decode cX12_laysLink 18 = .ok (.if_icmp .ge 63, 3) := by decide +kernel
theorem dX12_laysLink_21 : decode cX12_laysLink 21 = .ok (.iload 5, 2) := by decide +kernel
theorem dX12_laysLink_23 : decode cX12_laysLink 23 = .ok (.iload_n 1, 1) := by decide +kernel
theorem dX12_laysLink_24 : decode cX12_laysLink 24 = .ok (.if_icmp .eq 51, 3) := by decide +kernel
theorem dX12_laysLink_27 : decode cX12_laysLink 27 = .ok (.aload_n 0, 1) := by decide +kernel
theorem dX12_laysLink_28 : decode cX12_laysLink 28 = .ok (.iload_n 2, 1) := by decide +kernel
theorem dX12_laysLink_29 : decode cX12_laysLink 29 = .ok (.iload 5, 2) := by decide +kernel
theorem dX12_laysLink_31 : decode cX12_laysLink 31 = .ok (.invokevirtual 162, 3) := by decide +kernel
theorem dX12_laysLink_34 : decode cX12_laysLink 34 = .ok (.ifCond .ne 6, 3) := by decide +kernel
theorem dX12_laysLink_37 : decode cX12_laysLink 37 = .ok (.goto 38, 3) := by decide +kernel
theorem dX12_laysLink_40 : decode cX12_laysLink 40 = .ok (.aload_n 0, 1) := by decide +kernel
theorem dX12_laysLink_41 : decode cX12_laysLink 41 = .ok (.getfield 59, 3) := by decide +kernel
theorem dX12_laysLink_44 : decode cX12_laysLink 44 = .ok (.iload 5, 2) := by decide +kernel
theorem dX12_laysLink_46 : decode cX12_laysLink 46 = .ok (.laload, 1) := by decide +kernel
theorem dX12_laysLink_47 : decode cX12_laysLink 47 = .ok (.ldc2_w 221, 3) := by decide +kernel
theorem dX12_laysLink_50 : decode cX12_laysLink 50 = .ok (.lcmp, 1) := by decide +kernel
theorem dX12_laysLink_51 : decode cX12_laysLink 51 = .ok (.ifCond .ne 5, 3) := by decide +kernel
theorem dX12_laysLink_54 : decode cX12_laysLink 54 = .ok (.iconst 0, 1) := by decide +kernel
theorem dX12_laysLink_55 : decode cX12_laysLink 55 = .ok (.ireturn, 1) := by decide +kernel
theorem dX12_laysLink_56 : decode cX12_laysLink 56 = .ok (.lload_n 3, 1) := by decide +kernel
theorem dX12_laysLink_57 : decode cX12_laysLink 57 = .ok (.aload_n 0, 1) := by decide +kernel
theorem dX12_laysLink_58 : decode cX12_laysLink 58 = .ok (.iload_n 2, 1) := by decide +kernel
theorem dX12_laysLink_59 : decode cX12_laysLink 59 = .ok (.iload 5, 2) := by decide +kernel
theorem dX12_laysLink_61 : decode cX12_laysLink 61 = .ok (.invokevirtual 166, 3) := by decide +kernel
theorem dX12_laysLink_64 : decode cX12_laysLink 64 = .ok (.i2l, 1) := by decide +kernel
theorem dX12_laysLink_65 : decode cX12_laysLink 65 = .ok (.aload_n 0, 1) := by decide +kernel
theorem dX12_laysLink_66 : decode cX12_laysLink 66 = .ok (.getfield 59, 3) := by decide +kernel
theorem dX12_laysLink_69 : decode cX12_laysLink 69 = .ok (.iload 5, 2) := by decide +kernel
theorem dX12_laysLink_71 : decode cX12_laysLink 71 = .ok (.laload, 1) := by decide +kernel
theorem dX12_laysLink_72 : decode cX12_laysLink 72 = .ok (.lmul, 1) := by decide +kernel
theorem dX12_laysLink_73 : decode cX12_laysLink 73 = .ok (.ladd, 1) := by decide +kernel
theorem dX12_laysLink_74 : decode cX12_laysLink 74 = .ok (.lstore_n 3, 1) := by decide +kernel
theorem dX12_laysLink_75 : decode cX12_laysLink 75 = .ok (.iinc 5 1, 3) := by decide +kernel
theorem dX12_laysLink_78 : decode cX12_laysLink 78 = .ok (.goto (-66), 3) := by decide +kernel
theorem dX12_laysLink_81 : decode cX12_laysLink 81 = .ok (.aload_n 0, 1) := by decide +kernel
theorem dX12_laysLink_82 : decode cX12_laysLink 82 = .ok (.getfield 59, 3) := by decide +kernel
theorem dX12_laysLink_85 : decode cX12_laysLink 85 = .ok (.iload_n 1, 1) := by decide +kernel
theorem dX12_laysLink_86 : decode cX12_laysLink 86 = .ok (.aload_n 0, 1) := by decide +kernel
theorem dX12_laysLink_87 : decode cX12_laysLink 87 = .ok (.iload_n 2, 1) := by decide +kernel
theorem dX12_laysLink_88 : decode cX12_laysLink 88 = .ok (.iload_n 1, 1) := by decide +kernel
theorem dX12_laysLink_89 : decode cX12_laysLink 89 = .ok (.invokevirtual 166, 3) := by decide +kernel
theorem dX12_laysLink_92 : decode cX12_laysLink 92 = .ok (.ineg, 1) := by decide +kernel
theorem dX12_laysLink_93 : decode cX12_laysLink 93 = .ok (.i2l, 1) := by decide +kernel
theorem dX12_laysLink_94 : decode cX12_laysLink 94 = .ok (.lload_n 3, 1) := by decide +kernel
theorem dX12_laysLink_95 : decode cX12_laysLink 95 = .ok (.lmul, 1) := by decide +kernel
theorem dX12_laysLink_96 : decode cX12_laysLink 96 = .ok (.lastore, 1) := by decide +kernel
theorem dX12_laysLink_97 : decode cX12_laysLink 97 = .ok (.iconst 1, 1) := by decide +kernel
theorem dX12_laysLink_98 : decode cX12_laysLink 98 = .ok (.ireturn, 1) := by decide +kernel
theorem dX12_chain_0 : decode cX12_chain 0 = .ok (.aload_n 0, 1) := by decide +kernel
theorem dX12_chain_1 : decode cX12_chain 1 = .ok (.iload_n 1, 1) := by decide +kernel
theorem dX12_chain_2 : decode cX12_chain 2 = .ok (.invokevirtual 159, 3) := by decide +kernel
theorem dX12_chain_5 : decode cX12_chain 5 = .ok (.ifCond .eq 24, 3) := by decide +kernel
theorem dX12_chain_8 : decode cX12_chain 8 = .ok (.aload_n 0, 1) := by decide +kernel
theorem dX12_chain_9 : decode cX12_chain 9 = .ok (.iload_n 2, 1) := by decide +kernel
theorem dX12_chain_10 : decode cX12_chain 10 = .ok (.invokevirtual 156, 3) := by decide +kernel
theorem dX12_chain_13 : decode cX12_chain 13 = .ok (.ifCond .eq 16, 3) := by decide +kernel
theorem dX12_chain_16 : decode cX12_chain 16 = .ok (.aload_n 0, 1) := by decide +kernel
theorem dX12_chain_17 : decode cX12_chain 17 = .ok (.iload_n 2, 1) := by decide +kernel
theorem dX12_chain_18 : decode cX12_chain 18 = .ok (.invokevirtual 149, 3) := by decide +kernel
theorem dX12_chain_21 : decode cX12_chain 21 = .ok (.aload_n 0, 1) := by decide +kernel
theorem dX12_chain_22 : decode cX12_chain 22 = .ok (.iload_n 1, 1) := by decide +kernel
theorem dX12_chain_23 : decode cX12_chain 23 = .ok (.invokevirtual 149, 3) := by decide +kernel
theorem dX12_chain_26 : decode cX12_chain 26 = .ok (.if_icmp .eq 7, 3) := by decide +kernel
theorem dX12_chain_29 : decode cX12_chain 29 = .ok (.ldc2_w 241, 3) := by decide +kernel
theorem dX12_chain_32 : decode cX12_chain 32 = .ok (.lreturn, 1) := by decide +kernel
theorem dX12_chain_33 : decode cX12_chain 33 = .ok (.iconst 0, 1) := by decide +kernel
theorem dX12_chain_34 : decode cX12_chain 34 = .ok (.istore_n 3, 1) := by decide +kernel
theorem dX12_chain_35 : decode cX12_chain 35 = .ok (.iload_n 3, 1) := by decide +kernel
theorem dX12_chain_36 : decode cX12_chain 36 = .ok (.aload_n 0, 1) := by decide +kernel
theorem dX12_chain_37 : decode cX12_chain 37 = .ok (.getfield 139, 3) := by decide +kernel
theorem dX12_chain_40 : decode cX12_chain 40 = .ok (.if_icmp .ge 86, 3) := by decide +kernel
theorem dX12_chain_43 : decode cX12_chain 43 = .ok (.aload_n 0, 1) := by decide +kernel
theorem dX12_chain_44 : decode cX12_chain 44 = .ok (.iload_n 3, 1) := by decide +kernel
theorem dX12_chain_45 : decode cX12_chain 45 = .ok (.invokevirtual 156, 3) := by decide +kernel
theorem dX12_chain_48 : decode cX12_chain 48 = .ok (.ifCond .eq 38, 3) := by decide +kernel
theorem dX12_chain_51 : decode cX12_chain 51 = .ok (.aload_n 0, 1) := by decide +kernel
theorem dX12_chain_52 : decode cX12_chain 52 = .ok (.getfield 28, 3) := by decide +kernel
theorem dX12_chain_55 : decode cX12_chain 55 = .ok (.iload_n 3, 1) := by decide +kernel
theorem dX12_chain_56 : decode cX12_chain 56 = .ok (.iaload, 1) := by decide +kernel
theorem dX12_chain_57 : decode cX12_chain 57 = .ok (.iconst (-1), 1) := by decide +kernel
theorem dX12_chain_58 : decode cX12_chain 58 = .ok (.if_icmp .eq 28, 3) := by decide +kernel
theorem dX12_chain_61 : decode cX12_chain 61 = .ok (.aload_n 0, 1) := by decide +kernel
theorem dX12_chain_62 : decode cX12_chain 62 = .ok (.iload_n 3, 1) := by decide +kernel
theorem dX12_chain_63 : decode cX12_chain 63 = .ok (.invokevirtual 170, 3) := by decide +kernel
theorem dX12_chain_66 : decode cX12_chain 66 = .ok (.ifCond .ne 20, 3) := by decide +kernel
theorem dX12_chain_69 : decode cX12_chain 69 = .ok (.aload_n 0, 1) := by decide +kernel
theorem dX12_chain_70 : decode cX12_chain 70 = .ok (.iload_n 3, 1) := by decide +kernel
theorem dX12_chain_71 : decode cX12_chain 71 = .ok (.invokevirtual 149, 3) := by decide +kernel
theorem dX12_chain_74 : decode cX12_chain 74 = .ok (.aload_n 0, 1) := by decide +kernel
theorem dX12_chain_75 : decode cX12_chain 75 = .ok (.iload_n 2, 1) := by decide +kernel
theorem dX12_chain_76 : decode cX12_chain 76 = .ok (.invokevirtual 149, 3) := by decide +kernel
theorem dX12_chain_79 : decode cX12_chain 79 = .ok (.if_icmp .ne 7, 3) := by decide +kernel
theorem dX12_chain_82 : decode cX12_chain 82 = .ok (.iconst 1, 1) := by decide +kernel
theorem dX12_chain_83 : decode cX12_chain 83 = .ok (.goto 4, 3) := by decide +kernel
theorem dX12_chain_86 : decode cX12_chain 86 = .ok (.iconst 0, 1) := by decide +kernel
theorem dX12_chain_87 : decode cX12_chain 87 = .ok (.istore 4, 2) := by decide +kernel
theorem dX12_chain_89 : decode cX12_chain 89 = .ok (.aload_n 0, 1) := by decide +kernel
theorem dX12_chain_90 : decode cX12_chain 90 = .ok (.getfield 59, 3) := by decide +kernel
theorem dX12_chain_93 : decode cX12_chain 93 = .ok (.iload_n 3, 1) := by decide +kernel
theorem dX12_chain_94 : decode cX12_chain 94 = .ok (.iload 4, 2) := by decide +kernel
theorem dX12_chain_96 : decode cX12_chain 96 = .ok (.ifCond .eq 9, 3) := by decide +kernel
theorem dX12_chain_99 : decode cX12_chain 99 = .ok (.ldc2_w 221, 3) := by decide +kernel
theorem dX12_chain_102 : decode cX12_chain 102 = .ok (.goto 17, 3) := by decide +kernel
theorem dX12_chain_105 : decode cX12_chain 105 = .ok (.iload_n 3, 1) := by decide +kernel
theorem dX12_chain_106 : decode cX12_chain 106 = .ok (.iload_n 1, 1) := by decide +kernel
theorem dX12_chain_107 : decode cX12_chain 107 = .ok (.if_icmp .ne 7, 3) := by decide +kernel
theorem dX12_chain_110 : decode cX12_chain 110 = .ok (.iconst 1, 1) := by decide +kernel
theorem dX12_chain_111 : decode cX12_chain 111 = .ok (.goto 4, 3) := by decide +kernel
theorem dX12_chain_114 : decode cX12_chain 114 = .ok (.iconst 0, 1) := by decide +kernel
theorem dX12_chain_115 : decode cX12_chain 115 = .ok (.invokestatic 105, 3) := by decide +kernel
theorem dX12_chain_118 : decode cX12_chain 118 = .ok (.i2l, 1) := by decide +kernel
theorem dX12_chain_119 : decode cX12_chain 119 = .ok (.lastore, 1) := by decide +kernel
theorem dX12_chain_120 : decode cX12_chain 120 = .ok (.iinc 3 1, 3) := by decide +kernel
theorem dX12_chain_123 : decode cX12_chain 123 = .ok (.goto (-88), 3) := by decide +kernel
theorem dX12_chain_126 : decode cX12_chain 126 = .ok (.iconst 1, 1) := by decide +kernel
theorem dX12_chain_127 : decode cX12_chain 127 = .ok (.istore_n 3, 1) := by decide +kernel
theorem dX12_chain_128 : decode cX12_chain 128 = .ok (.iload_n 3, 1) := by decide +kernel
theorem dX12_chain_129 : decode cX12_chain 129 = .ok (.ifCond .eq 59, 3) := by decide +kernel
theorem dX12_chain_132 : decode cX12_chain 132 = .ok (.iconst 0, 1) := by decide +kernel
theorem dX12_chain_133 : decode cX12_chain 133 = .ok (.istore_n 3, 1) := by decide +kernel
theorem dX12_chain_134 : decode cX12_chain 134 = .ok (.iconst 0, 1) := by decide +kernel
theorem dX12_chain_135 : decode cX12_chain 135 = .ok (.istore 4, 2) := by decide +kernel
theorem dX12_chain_137 : decode cX12_chain 137 = .ok (.iload 4, 2) := by decide +kernel
theorem dX12_chain_139 : decode cX12_chain 139 = .ok (.aload_n 0, 1) := by decide +kernel
theorem dX12_chain_140 : decode cX12_chain 140 = .ok (.getfield 139, 3) := by decide +kernel
theorem dX12_chain_143 : decode cX12_chain 143 = .ok (.if_icmp .ge 42, 3) := by decide +kernel
theorem dX12_chain_146 : decode cX12_chain 146 = .ok (.aload_n 0, 1) := by decide +kernel
theorem dX12_chain_147 : decode cX12_chain 147 = .ok (.getfield 59, 3) := by decide +kernel
theorem dX12_chain_150 : decode cX12_chain 150 = .ok (.iload 4, 2) := by decide +kernel
theorem dX12_chain_152 : decode cX12_chain 152 = .ok (.laload, 1) := by decide +kernel
theorem dX12_chain_153 : decode cX12_chain 153 = .ok (.ldc2_w 221, 3) := by decide +kernel
theorem dX12_chain_156 : decode cX12_chain 156 = .ok (.lcmp, 1) := by decide +kernel
theorem dX12_chain_157 : decode cX12_chain 157 = .ok (.ifCond .ne 22, 3) := by decide +kernel
theorem dX12_chain_160 : decode cX12_chain 160 = .ok (.aload_n 0, 1) := by decide +kernel
theorem dX12_chain_161 : decode cX12_chain 161 = .ok (.iload 4, 2) := by decide +kernel
theorem dX12_chain_163 : decode cX12_chain 163 = .ok (.invokevirtual 259, 3) := by decide +kernel
theorem dX12_chain_166 : decode cX12_chain 166 = .ok (.ifCond .ne 7, 3) := by decide +kernel
theorem dX12_chain_169 : decode cX12_chain 169 = .ok (.iload_n 3, 1) := by decide +kernel
theorem dX12_chain_170 : decode cX12_chain 170 = .ok (.ifCond .eq 7, 3) := by decide +kernel
theorem dX12_chain_173 : decode cX12_chain 173 = .ok (.iconst 1, 1) := by decide +kernel
theorem dX12_chain_174 : decode cX12_chain 174 = .ok (.goto 4, 3) := by decide +kernel
theorem dX12_chain_177 : decode cX12_chain 177 = .ok (.iconst 0, 1) := by decide +kernel
theorem dX12_chain_178 : decode cX12_chain 178 = .ok (.istore_n 3, 1) := by decide +kernel
theorem dX12_chain_179 : decode cX12_chain 179 = .ok (.iinc 4 1, 3) := by decide +kernel
theorem dX12_chain_182 : decode cX12_chain 182 = .ok (.goto (-45), 3) := by decide +kernel
theorem dX12_chain_185 : decode cX12_chain 185 = .ok (.goto (-57), 3) := by decide +kernel
theorem dX12_chain_188 : decode cX12_chain 188 = .ok (.aload_n 0, 1) := by decide +kernel
theorem dX12_chain_189 : decode cX12_chain 189 = .ok (.getfield 59, 3) := by decide +kernel
theorem dX12_chain_192 : decode cX12_chain 192 = .ok (.iload_n 2, 1) := by decide +kernel
theorem dX12_chain_193 : decode cX12_chain 193 = .ok (.laload, 1) := by decide +kernel
theorem dX12_chain_194 : decode cX12_chain 194 = .ok (.lreturn, 1) := by decide +kernel
theorem dX12_root_0 : decode cX12_root 0 = .ok (.aload_n 0, 1) := by decide +kernel
theorem dX12_root_1 : decode cX12_root 1 = .ok (.iload_n 1, 1) := by decide +kernel
theorem dX12_root_2 : decode cX12_root 2 = .ok (.invokevirtual 156, 3) := by decide +kernel
theorem dX12_root_5 : decode cX12_root 5 = .ok (.ifCond .eq 20, 3) := by decide +kernel
theorem dX12_root_8 : decode cX12_root 8 = .ok (.aload_n 0, 1) := by decide +kernel
theorem dX12_root_9 : decode cX12_root 9 = .ok (.iload_n 1, 1) := by decide +kernel
theorem dX12_root_10 : decode cX12_root 10 = .ok (.invokevirtual 149, 3) := by decide +kernel
theorem dX12_root_13 : decode cX12_root 13 = .ok (.ifCond .ne 12, 3) := by decide +kernel
theorem dX12_root_16 : decode cX12_root 16 = .ok (.iload_n 2, 1) := by decide +kernel
theorem dX12_root_17 : decode cX12_root 17 = .ok (.iconst 0, 1) := by decide +kernel
theorem dX12_root_18 : decode cX12_root 18 = .ok (.iconst 1, 1) := by decide +kernel
theorem dX12_root_19 : decode cX12_root 19 = .ok (.invokestatic 101, 3) := by decide +kernel
theorem dX12_root_22 : decode cX12_root 22 = .ok (.ifCond .ne 5, 3) := by decide +kernel
theorem dX12_root_25 : decode cX12_root 25 = .ok (.iconst (-1), 1) := by decide +kernel
theorem dX12_root_26 : decode cX12_root 26 = .ok (.ireturn, 1) := by decide +kernel
theorem dX12_root_27 : decode cX12_root 27 = .ok (.iload_n 1, 1) := by decide +kernel
theorem dX12_root_28 : decode cX12_root 28 = .ok (.istore_n 3, 1) := by decide +kernel
theorem dX12_root_29 : decode cX12_root 29 = .ok (.iconst 0, 1) := by decide +kernel
theorem dX12_root_30 : decode cX12_root 30 = .ok (.istore 4, 2) := by decide +kernel
theorem dX12_root_32 : decode cX12_root 32 = .ok (.aload_n 0, 1) := by decide +kernel
theorem dX12_root_33 : decode cX12_root 33 = .ok (.getfield 28, 3) := by decide +kernel
theorem dX12_root_36 : decode cX12_root 36 = .ok (.iload_n 3, 1) := by decide +kernel
theorem dX12_root_37 : decode cX12_root 37 = .ok (.iaload, 1) := by decide +kernel
theorem dX12_root_38 : decode cX12_root 38 = .ok (.iconst (-1), 1) := by decide +kernel
theorem dX12_root_39 : decode cX12_root 39 = .ok (.if_icmp .eq 35, 3) := by decide +kernel
theorem dX12_root_42 : decode cX12_root 42 = .ok (.aload_n 0, 1) := by decide +kernel
theorem dX12_root_43 : decode cX12_root 43 = .ok (.getfield 25, 3) := by decide +kernel
theorem dX12_root_46 : decode cX12_root 46 = .ok (.aload_n 0, 1) := by decide +kernel
theorem dX12_root_47 : decode cX12_root 47 = .ok (.getfield 21, 3) := by decide +kernel
theorem dX12_root_50 : decode cX12_root 50 = .ok (.aload_n 0, 1) := by decide +kernel
theorem dX12_root_51 : decode cX12_root 51 = .ok (.getfield 28, 3) := by decide +kernel
theorem dX12_root_54 : decode cX12_root 54 = .ok (.iload_n 3, 1) := by decide +kernel
theorem dX12_root_55 : decode cX12_root 55 = .ok (.iaload, 1) := by decide +kernel
theorem dX12_root_56 : decode cX12_root 56 = .ok (.iaload, 1) := by decide +kernel
theorem dX12_root_57 : decode cX12_root 57 = .ok (.aload_n 0, 1) := by decide +kernel
theorem dX12_root_58 : decode cX12_root 58 = .ok (.getfield 21, 3) := by decide +kernel
theorem dX12_root_61 : decode cX12_root 61 = .ok (.iload_n 3, 1) := by decide +kernel
theorem dX12_root_62 : decode cX12_root 62 = .ok (.iaload, 1) := by decide +kernel
theorem dX12_root_63 : decode cX12_root 63 = .ok (.iconst (-1), 1) := by decide +kernel
theorem dX12_root_64 : decode cX12_root 64 = .ok (.ixor, 1) := by decide +kernel
theorem dX12_root_65 : decode cX12_root 65 = .ok (.iand, 1) := by decide +kernel
theorem dX12_root_66 : decode cX12_root 66 = .ok (.iaload, 1) := by decide +kernel
theorem dX12_root_67 : decode cX12_root 67 = .ok (.istore_n 3, 1) := by decide +kernel
theorem dX12_root_68 : decode cX12_root 68 = .ok (.iinc 4 1, 3) := by decide +kernel
theorem dX12_root_71 : decode cX12_root 71 = .ok (.goto (-39), 3) := by decide +kernel
theorem dX12_root_74 : decode cX12_root 74 = .ok (.iload_n 2, 1) := by decide +kernel
theorem dX12_root_75 : decode cX12_root 75 = .ok (.ifCond .ne 7, 3) := by decide +kernel
theorem dX12_root_78 : decode cX12_root 78 = .ok (.iload_n 3, 1) := by decide +kernel
theorem dX12_root_79 : decode cX12_root 79 = .ok (.goto 5, 3) := by decide +kernel
theorem dX12_root_82 : decode cX12_root 82 = .ok (.iload 4, 2) := by decide +kernel
theorem dX12_root_84 : decode cX12_root 84 = .ok (.ireturn, 1) := by decide +kernel
theorem dX12_isFreeFace_0 : decode cX12_isFreeFace 0 = .ok (.aload_n 0, 1) := by decide +kernel
theorem dX12_isFreeFace_1 : decode cX12_isFreeFace 1 = .ok (.iload_n 1, 1) := by decide +kernel
theorem dX12_isFreeFace_2 : decode cX12_isFreeFace 2 = .ok (.invokevirtual 156, 3) := by decide +kernel
theorem dX12_isFreeFace_5 : decode cX12_isFreeFace 5 = .ok (.ifCond .eq 12, 3) := by decide +kernel
theorem dX12_isFreeFace_8 : decode cX12_isFreeFace 8 = .ok (.aload_n 0, 1) := by decide +kernel
theorem dX12_isFreeFace_9 : decode cX12_isFreeFace 9 = .ok (.iload_n 1, 1) := by decide +kernel
theorem dX12_isFreeFace_10 : decode cX12_isFreeFace 10 = .ok (.invokevirtual 176, 3) := by decide +kernel
theorem dX12_isFreeFace_13 : decode cX12_isFreeFace 13 = .ok (.iconst 1, 1) := by decide +kernel
theorem dX12_isFreeFace_14 : decode cX12_isFreeFace 14 = .ok (.if_icmp .eq 5, 3) := by decide +kernel
theorem dX12_isFreeFace_17 : decode cX12_isFreeFace 17 = .ok (.iconst 0, 1) := by decide +kernel
theorem dX12_isFreeFace_18 : decode cX12_isFreeFace 18 = .ok (.ireturn, 1) := by decide +kernel
theorem dX12_isFreeFace_19 : decode cX12_isFreeFace 19 = .ok (.aload_n 0, 1) := by decide +kernel
theorem dX12_isFreeFace_20 : decode cX12_isFreeFace 20 = .ok (.aload_n 0, 1) := by decide +kernel
theorem dX12_isFreeFace_21 : decode cX12_isFreeFace 21 = .ok (.iload_n 1, 1) := by decide +kernel
theorem dX12_isFreeFace_22 : decode cX12_isFreeFace 22 = .ok (.invokevirtual 262, 3) := by decide +kernel
theorem dX12_isFreeFace_25 : decode cX12_isFreeFace 25 = .ok (.invokevirtual 176, 3) := by decide +kernel
theorem dX12_isFreeFace_28 : decode cX12_isFreeFace 28 = .ok (.ifCond .ne 7, 3) := by decide +kernel
theorem dX12_isFreeFace_31 : decode cX12_isFreeFace 31 = .ok (.iconst 1, 1) := by decide +kernel
theorem dX12_isFreeFace_32 : decode cX12_isFreeFace 32 = .ok (.goto 4, 3) := by decide +kernel
theorem dX12_isFreeFace_35 : decode cX12_isFreeFace 35 = .ok (.iconst 0, 1) := by decide +kernel
theorem dX12_isFreeFace_36 : decode cX12_isFreeFace 36 = .ok (.ireturn, 1) := by decide +kernel
theorem dX12_overOf_0 : decode cX12_overOf 0 = .ok (.iconst 0, 1) := by decide +kernel
theorem dX12_overOf_1 : decode cX12_overOf 1 = .ok (.istore_n 2, 1) := by decide +kernel
theorem dX12_overOf_2 : decode cX12_overOf 2 = .ok (.aload_n 0, 1) := by decide +kernel
theorem dX12_overOf_3 : decode cX12_overOf 3 = .ok (.iload_n 1, 1) := by decide +kernel
theorem dX12_overOf_4 : decode cX12_overOf 4 = .ok (.iload_n 2, 1) := by decide +kernel
theorem dX12_overOf_5 : decode cX12_overOf 5 = .ok (.invokevirtual 162, 3) := by decide +kernel
theorem dX12_overOf_8 : decode cX12_overOf 8 = .ok (.ifCond .ne 9, 3) := by decide +kernel
theorem dX12_overOf_11 : decode cX12_overOf 11 = .ok (.iinc 2 1, 3) := by decide +kernel
theorem dX12_overOf_14 : decode cX12_overOf 14 = .ok (.goto (-12), 3) := by decide +kernel
theorem dX12_overOf_17 : decode cX12_overOf 17 = .ok (.iload_n 2, 1) := by decide +kernel
theorem dX12_overOf_18 : decode cX12_overOf 18 = .ok (.ireturn, 1) := by decide +kernel
theorem dX12_collapse_0 : decode cX12_collapse 0 = .ok (.aload_n 0, 1) := by decide +kernel
theorem dX12_collapse_1 : decode cX12_collapse 1 = .ok (.iload_n 1, 1) := by decide +kernel
theorem dX12_collapse_2 : decode cX12_collapse 2 = .ok (.invokevirtual 156, 3) := by decide +kernel
theorem dX12_collapse_5 : decode cX12_collapse 5 = .ok (.ifCond .ne 5, 3) := by decide +kernel
theorem dX12_collapse_8 : decode cX12_collapse 8 = .ok (.iconst (-1), 1) := by decide +kernel
theorem dX12_collapse_9 : decode cX12_collapse 9 = .ok (.ireturn, 1) := by decide +kernel
theorem dX12_collapse_10 : decode cX12_collapse 10 = .ok (.aload_n 0, 1) := by decide +kernel
theorem dX12_collapse_11 : decode cX12_collapse 11 = .ok (.iload_n 1, 1) := by decide +kernel
theorem dX12_collapse_12 : decode cX12_collapse 12 = .ok (.invokevirtual 265, 3) := by decide +kernel
theorem dX12_collapse_15 : decode cX12_collapse 15 = .ok (.ifCond .ne 6, 3) := by decide +kernel
theorem dX12_collapse_18 : decode cX12_collapse 18 = .ok (.bipush (-2), 2) := by decide +kernel
theorem dX12_collapse_20 : decode cX12_collapse 20 = .ok (.ireturn, 1) := by decide +kernel
theorem dX12_collapse_21 : decode cX12_collapse 21 = .ok (.aload_n 0, 1) := by decide +kernel
theorem dX12_collapse_22 : decode cX12_collapse 22 = .ok (.invokevirtual 194, 3) := by decide +kernel
theorem dX12_collapse_25 : decode cX12_collapse 25 = .ok (.aload_n 0, 1) := by decide +kernel
theorem dX12_collapse_26 : decode cX12_collapse 26 = .ok (.iload_n 1, 1) := by decide +kernel
theorem dX12_collapse_27 : decode cX12_collapse 27 = .ok (.invokevirtual 262, 3) := by decide +kernel
theorem dX12_collapse_30 : decode cX12_collapse 30 = .ok (.istore_n 2, 1) := by decide +kernel
theorem dX12_collapse_31 : decode cX12_collapse 31 = .ok (.aload_n 0, 1) := by decide +kernel
theorem dX12_collapse_32 : decode cX12_collapse 32 = .ok (.iload_n 1, 1) := by decide +kernel
theorem dX12_collapse_33 : decode cX12_collapse 33 = .ok (.invokevirtual 191, 3) := by decide +kernel
theorem dX12_collapse_36 : decode cX12_collapse 36 = .ok (.aload_n 0, 1) := by decide +kernel
theorem dX12_collapse_37 : decode cX12_collapse 37 = .ok (.iload_n 2, 1) := by decide +kernel
theorem dX12_collapse_38 : decode cX12_collapse 38 = .ok (.invokevirtual 191, 3) := by decide +kernel
theorem dX12_collapse_41 : decode cX12_collapse 41 = .ok (.aload_n 0, 1) := by decide +kernel
theorem dX12_collapse_42 : decode cX12_collapse 42 = .ok (.getfield 31, 3) := by decide +kernel
theorem dX12_collapse_45 : decode cX12_collapse 45 = .ok (.iload_n 1, 1) := by decide +kernel
theorem dX12_collapse_46 : decode cX12_collapse 46 = .ok (.iconst 1, 1) := by decide +kernel
theorem dX12_collapse_47 : decode cX12_collapse 47 = .ok (.bastore, 1) := by decide +kernel
theorem dX12_collapse_48 : decode cX12_collapse 48 = .ok (.aload_n 0, 1) := by decide +kernel
theorem dX12_collapse_49 : decode cX12_collapse 49 = .ok (.getfield 31, 3) := by decide +kernel
theorem dX12_collapse_52 : decode cX12_collapse 52 = .ok (.iload_n 2, 1) := by decide +kernel
theorem dX12_collapse_53 : decode cX12_collapse 53 = .ok (.iconst 1, 1) := by decide +kernel
theorem dX12_collapse_54 : decode cX12_collapse 54 = .ok (.bastore, 1) := by decide +kernel
theorem dX12_collapse_55 : decode cX12_collapse 55 = .ok (.aload_n 0, 1) := by decide +kernel
theorem dX12_collapse_56 : decode cX12_collapse 56 = .ok (.invokevirtual 268, 3) := by decide +kernel
theorem dX12_collapse_59 : decode cX12_collapse 59 = .ok (.ireturn, 1) := by decide +kernel
theorem dX12_thereMany_0 : decode cX12_thereMany 0 = .ok (.iconst 0, 1) := by decide +kernel
theorem dX12_thereMany_1 : decode cX12_thereMany 1 = .ok (.istore_n 1, 1) := by decide +kernel
theorem dX12_thereMany_2 : decode cX12_thereMany 2 = .ok (.iconst 0, 1) := by decide +kernel
theorem dX12_thereMany_3 : decode cX12_thereMany 3 = .ok (.istore_n 2, 1) := by decide +kernel
theorem dX12_thereMany_4 : decode cX12_thereMany 4 = .ok (.iload_n 2, 1) := by decide +kernel
theorem dX12_thereMany_5 : decode cX12_thereMany 5 = .ok (.aload_n 0, 1) := by decide +kernel
theorem dX12_thereMany_6 : decode cX12_thereMany 6 = .ok (.getfield 139, 3) := by decide +kernel
theorem dX12_thereMany_9 : decode cX12_thereMany 9 = .ok (.if_icmp .ge 29, 3) := by decide +kernel
theorem dX12_thereMany_12 : decode cX12_thereMany 12 = .ok (.iload_n 1, 1) := by decide +kernel
theorem dX12_thereMany_13 : decode cX12_thereMany 13 = .ok (.aload_n 0, 1) := by decide +kernel
theorem dX12_thereMany_14 : decode cX12_thereMany 14 = .ok (.getfield 31, 3) := by decide +kernel
theorem dX12_thereMany_17 : decode cX12_thereMany 17 = .ok (.iload_n 2, 1) := by decide +kernel
theorem dX12_thereMany_18 : decode cX12_thereMany 18 = .ok (.baload, 1) := by decide +kernel
theorem dX12_thereMany_19 : decode cX12_thereMany 19 = .ok (.ifCond .ne 7, 3) := by decide +kernel
theorem dX12_thereMany_22 : decode cX12_thereMany 22 = .ok (.iconst 1, 1) := by decide +kernel
theorem dX12_thereMany_23 : decode cX12_thereMany 23 = .ok (.goto 4, 3) := by decide +kernel
theorem dX12_thereMany_26 : decode cX12_thereMany 26 = .ok (.iconst 0, 1) := by decide +kernel
theorem dX12_thereMany_27 : decode cX12_thereMany 27 = .ok (.invokestatic 105, 3) := by decide +kernel
theorem dX12_thereMany_30 : decode cX12_thereMany 30 = .ok (.iadd, 1) := by decide +kernel
theorem dX12_thereMany_31 : decode cX12_thereMany 31 = .ok (.istore_n 1, 1) := by decide +kernel
theorem dX12_thereMany_32 : decode cX12_thereMany 32 = .ok (.iinc 2 1, 3) := by decide +kernel
theorem dX12_thereMany_35 : decode cX12_thereMany 35 = .ok (.goto (-31), 3) := by decide +kernel
theorem dX12_thereMany_38 : decode cX12_thereMany 38 = .ok (.iload_n 1, 1) := by decide +kernel
theorem dX12_thereMany_39 : decode cX12_thereMany 39 = .ok (.ireturn, 1) := by decide +kernel
theorem dX12_free_0 : decode cX12_free 0 = .ok (.iload_n 1, 1) := by decide +kernel
theorem dX12_free_1 : decode cX12_free 1 = .ok (.iconst (-1), 1) := by decide +kernel
theorem dX12_free_2 : decode cX12_free 2 = .ok (.if_icmp .ge 5, 3) := by decide +kernel
theorem dX12_free_5 : decode cX12_free 5 = .ok (.iconst (-1), 1) := by decide +kernel
theorem dX12_free_6 : decode cX12_free 6 = .ok (.ireturn, 1) := by decide +kernel
theorem dX12_free_7 : decode cX12_free 7 = .ok (.iconst 0, 1) := by decide +kernel
theorem dX12_free_8 : decode cX12_free 8 = .ok (.istore_n 2, 1) := by decide +kernel
theorem dX12_free_9 : decode cX12_free 9 = .ok (.iconst 0, 1) := by decide +kernel
theorem dX12_free_10 : decode cX12_free 10 = .ok (.istore_n 3, 1) := by decide +kernel
theorem dX12_free_11 : decode cX12_free 11 = .ok (.iload_n 3, 1) := by decide +kernel
theorem dX12_free_12 : decode cX12_free 12 = .ok (.aload_n 0, 1) := by decide +kernel
theorem dX12_free_13 : decode cX12_free 13 = .ok (.getfield 139, 3) := by decide +kernel
theorem dX12_free_16 : decode cX12_free 16 = .ok (.if_icmp .ge 27, 3) := by decide +kernel
theorem dX12_free_19 : decode cX12_free 19 = .ok (.aload_n 0, 1) := by decide +kernel
theorem dX12_free_20 : decode cX12_free 20 = .ok (.iload_n 3, 1) := by decide +kernel
theorem dX12_free_21 : decode cX12_free 21 = .ok (.invokevirtual 265, 3) := by decide +kernel
theorem dX12_free_24 : decode cX12_free 24 = .ok (.ifCond .eq 13, 3) := by decide +kernel
theorem dX12_free_27 : decode cX12_free 27 = .ok (.iload_n 2, 1) := by decide +kernel
theorem dX12_free_28 : decode cX12_free 28 = .ok (.iload_n 1, 1) := by decide +kernel
theorem dX12_free_29 : decode cX12_free 29 = .ok (.if_icmp .ne 5, 3) := by decide +kernel
theorem dX12_free_32 : decode cX12_free 32 = .ok (.iload_n 3, 1) := by decide +kernel
theorem dX12_free_33 : decode cX12_free 33 = .ok (.ireturn, 1) := by decide +kernel
theorem dX12_free_34 : decode cX12_free 34 = .ok (.iinc 2 1, 3) := by decide +kernel
theorem dX12_free_37 : decode cX12_free 37 = .ok (.iinc 3 1, 3) := by decide +kernel
theorem dX12_free_40 : decode cX12_free 40 = .ok (.goto (-29), 3) := by decide +kernel
theorem dX12_free_43 : decode cX12_free 43 = .ok (.iload_n 1, 1) := by decide +kernel
theorem dX12_free_44 : decode cX12_free 44 = .ok (.iconst (-1), 1) := by decide +kernel
theorem dX12_free_45 : decode cX12_free 45 = .ok (.if_icmp .ne 7, 3) := by decide +kernel
theorem dX12_free_48 : decode cX12_free 48 = .ok (.iload_n 2, 1) := by decide +kernel
theorem dX12_free_49 : decode cX12_free 49 = .ok (.goto 5, 3) := by decide +kernel
theorem dX12_free_52 : decode cX12_free 52 = .ok (.bipush (-2), 2) := by decide +kernel
theorem dX12_free_54 : decode cX12_free 54 = .ok (.ireturn, 1) := by decide +kernel
theorem dX12_facet_0 : decode cX12_facet 0 = .ok (.iload_n 1, 1) := by decide +kernel
theorem dX12_facet_1 : decode cX12_facet 1 = .ok (.iconst (-1), 1) := by decide +kernel
theorem dX12_facet_2 : decode cX12_facet 2 = .ok (.if_icmp .ge 5, 3) := by decide +kernel
theorem dX12_facet_5 : decode cX12_facet 5 = .ok (.iconst (-1), 1) := by decide +kernel
theorem dX12_facet_6 : decode cX12_facet 6 = .ok (.ireturn, 1) := by decide +kernel
theorem dX12_facet_7 : decode cX12_facet 7 = .ok (.iconst 0, 1) := by decide +kernel
theorem dX12_facet_8 : decode cX12_facet 8 = .ok (.istore_n 2, 1) := by decide +kernel
theorem dX12_facet_9 : decode cX12_facet 9 = .ok (.iconst 0, 1) := by decide +kernel
theorem dX12_facet_10 : decode cX12_facet 10 = .ok (.istore_n 3, 1) := by decide +kernel
theorem dX12_facet_11 : decode cX12_facet 11 = .ok (.iload_n 3, 1) := by decide +kernel
theorem dX12_facet_12 : decode cX12_facet 12 = .ok (.aload_n 0, 1) := by decide +kernel
theorem dX12_facet_13 : decode cX12_facet 13 = .ok (.getfield 139, 3) := by decide +kernel
theorem dX12_facet_16 : decode cX12_facet 16 = .ok (.if_icmp .ge 35, 3) := by decide +kernel
theorem dX12_facet_19 : decode cX12_facet 19 = .ok (.aload_n 0, 1) := by decide +kernel
theorem dX12_facet_20 : decode cX12_facet 20 = .ok (.iload_n 3, 1) := by decide +kernel
theorem dX12_facet_21 : decode cX12_facet 21 = .ok (.invokevirtual 156, 3) := by decide +kernel
theorem dX12_facet_24 : decode cX12_facet 24 = .ok (.ifCond .eq 21, 3) := by decide +kernel
theorem dX12_facet_27 : decode cX12_facet 27 = .ok (.aload_n 0, 1) := by decide +kernel
theorem dX12_facet_28 : decode cX12_facet 28 = .ok (.iload_n 3, 1) := by decide +kernel
theorem dX12_facet_29 : decode cX12_facet 29 = .ok (.invokevirtual 176, 3) := by decide +kernel
theorem dX12_facet_32 : decode cX12_facet 32 = .ok (.ifCond .ne 13, 3) := by decide +kernel
theorem dX12_facet_35 : decode cX12_facet 35 = .ok (.iload_n 2, 1) := by decide +kernel
theorem dX12_facet_36 : decode cX12_facet 36 = .ok (.iload_n 1, 1) := by decide +kernel
theorem dX12_facet_37 : decode cX12_facet 37 = .ok (.if_icmp .ne 5, 3) := by decide +kernel
theorem dX12_facet_40 : decode cX12_facet 40 = .ok (.iload_n 3, 1) := by decide +kernel
theorem dX12_facet_41 : decode cX12_facet 41 = .ok (.ireturn, 1) := by decide +kernel
theorem dX12_facet_42 : decode cX12_facet 42 = .ok (.iinc 2 1, 3) := by decide +kernel
theorem dX12_facet_45 : decode cX12_facet 45 = .ok (.iinc 3 1, 3) := by decide +kernel
theorem dX12_facet_48 : decode cX12_facet 48 = .ok (.goto (-37), 3) := by decide +kernel
theorem dX12_facet_51 : decode cX12_facet 51 = .ok (.iload_n 1, 1) := by decide +kernel
theorem dX12_facet_52 : decode cX12_facet 52 = .ok (.iconst (-1), 1) := by decide +kernel
theorem dX12_facet_53 : decode cX12_facet 53 = .ok (.if_icmp .ne 7, 3) := by decide +kernel
theorem dX12_facet_56 : decode cX12_facet 56 = .ok (.iload_n 2, 1) := by decide +kernel
theorem dX12_facet_57 : decode cX12_facet 57 = .ok (.goto 5, 3) := by decide +kernel
theorem dX12_facet_60 : decode cX12_facet 60 = .ok (.bipush (-2), 2) := by decide +kernel
theorem dX12_facet_62 : decode cX12_facet 62 = .ok (.ireturn, 1) := by decide +kernel
theorem dX12_critical_0 : decode cX12_critical 0 = .ok (.iload_n 1, 1) := by decide +kernel
theorem dX12_critical_1 : decode cX12_critical 1 = .ok (.iconst 0, 1) := by decide +kernel
theorem dX12_critical_2 : decode cX12_critical 2 = .ok (.iconst 4, 1) := by decide +kernel
theorem dX12_critical_3 : decode cX12_critical 3 = .ok (.invokestatic 101, 3) := by decide +kernel
theorem dX12_critical_6 : decode cX12_critical 6 = .ok (.ifCond .eq 8, 3) := by decide +kernel
theorem dX12_critical_9 : decode cX12_critical 9 = .ok (.iload_n 2, 1) := by decide +kernel
theorem dX12_critical_10 : decode cX12_critical 10 = .ok (.iconst (-1), 1) := by decide +kernel
theorem dX12_critical_11 : decode cX12_critical 11 = .ok (.if_icmp .ge 5, 3) := by decide +kernel
theorem dX12_critical_14 : decode cX12_critical 14 = .ok (.iconst (-1), 1) := by decide +kernel
theorem dX12_critical_15 : decode cX12_critical 15 = .ok (.ireturn, 1) := by decide +kernel
theorem dX12_critical_16 : decode cX12_critical 16 = .ok (.iconst 0, 1) := by decide +kernel
theorem dX12_critical_17 : decode cX12_critical 17 = .ok (.istore_n 3, 1) := by decide +kernel
theorem dX12_critical_18 : decode cX12_critical 18 = .ok (.iconst 0, 1) := by decide +kernel
theorem dX12_critical_19 : decode cX12_critical 19 = .ok (.istore 4, 2) := by decide +kernel
theorem dX12_critical_21 : decode cX12_critical 21 = .ok (.iload 4, 2) := by decide +kernel
theorem dX12_critical_23 : decode cX12_critical 23 = .ok (.aload_n 0, 1) := by decide +kernel
theorem dX12_critical_24 : decode cX12_critical 24 = .ok (.getfield 139, 3) := by decide +kernel
theorem dX12_critical_27 : decode cX12_critical 27 = .ok (.if_icmp .ge 39, 3) := by decide +kernel
theorem dX12_critical_30 : decode cX12_critical 30 = .ok (.aload_n 0, 1) := by decide +kernel
theorem dX12_critical_31 : decode cX12_critical 31 = .ok (.iload 4, 2) := by decide +kernel
theorem dX12_critical_33 : decode cX12_critical 33 = .ok (.invokevirtual 159, 3) := by decide +kernel
theorem dX12_critical_36 : decode cX12_critical 36 = .ok (.ifCond .eq 24, 3) := by decide +kernel
theorem dX12_critical_39 : decode cX12_critical 39 = .ok (.aload_n 0, 1) := by decide +kernel
theorem dX12_critical_40 : decode cX12_critical 40 = .ok (.iload 4, 2) := by decide +kernel
theorem dX12_critical_42 : decode cX12_critical 42 = .ok (.invokevirtual 149, 3) := by decide +kernel
theorem dX12_critical_45 : decode cX12_critical 45 = .ok (.iload_n 1, 1) := by decide +kernel
theorem dX12_critical_46 : decode cX12_critical 46 = .ok (.if_icmp .ne 14, 3) := by decide +kernel
theorem dX12_critical_49 : decode cX12_critical 49 = .ok (.iload_n 3, 1) := by decide +kernel
theorem dX12_critical_50 : decode cX12_critical 50 = .ok (.iload_n 2, 1) := by decide +kernel
theorem dX12_critical_51 : decode cX12_critical 51 = .ok (.if_icmp .ne 6, 3) := by decide +kernel
theorem dX12_critical_54 : decode cX12_critical 54 = .ok (.iload 4, 2) := by decide +kernel
theorem dX12_critical_56 : decode cX12_critical 56 = .ok (.ireturn, 1) := by decide +kernel
theorem dX12_critical_57 : decode cX12_critical 57 = .ok (.iinc 3 1, 3) := by decide +kernel
theorem dX12_critical_60 : decode cX12_critical 60 = .ok (.iinc 4 1, 3) := by decide +kernel
theorem dX12_critical_63 : decode cX12_critical 63 = .ok (.goto (-42), 3) := by decide +kernel
theorem dX12_critical_66 : decode cX12_critical 66 = .ok (.iload_n 2, 1) := by decide +kernel
theorem dX12_critical_67 : decode cX12_critical 67 = .ok (.iconst (-1), 1) := by decide +kernel
theorem dX12_critical_68 : decode cX12_critical 68 = .ok (.if_icmp .ne 7, 3) := by decide +kernel
theorem dX12_critical_71 : decode cX12_critical 71 = .ok (.iload_n 3, 1) := by decide +kernel
theorem dX12_critical_72 : decode cX12_critical 72 = .ok (.goto 5, 3) := by decide +kernel
theorem dX12_critical_75 : decode cX12_critical 75 = .ok (.bipush (-2), 2) := by decide +kernel
theorem dX12_critical_77 : decode cX12_critical 77 = .ok (.ireturn, 1) := by decide +kernel
theorem dX12_takes_0 : decode cX12_takes 0 = .ok (.iconst 0, 1) := by decide +kernel
theorem dX12_takes_1 : decode cX12_takes 1 = .ok (.istore_n 2, 1) := by decide +kernel
theorem dX12_takes_2 : decode cX12_takes 2 = .ok (.iload_n 2, 1) := by decide +kernel
theorem dX12_takes_3 : decode cX12_takes 3 = .ok (.aload_n 0, 1) := by decide +kernel
theorem dX12_takes_4 : decode cX12_takes 4 = .ok (.getfield 139, 3) := by decide +kernel
theorem dX12_takes_7 : decode cX12_takes 7 = .ok (.if_icmp .ge 41, 3) := by decide +kernel
theorem dX12_takes_10 : decode cX12_takes 10 = .ok (.aload_n 0, 1) := by decide +kernel
theorem dX12_takes_11 : decode cX12_takes 11 = .ok (.getfield 62, 3) := by decide +kernel
theorem dX12_takes_14 : decode cX12_takes 14 = .ok (.iload_n 2, 1) := by decide +kernel
theorem dX12_takes_15 : decode cX12_takes 15 = .ok (.iload_n 1, 1) := by decide +kernel
theorem dX12_takes_16 : decode cX12_takes 16 = .ok (.ifCond .ne 20, 3) := by decide +kernel
theorem dX12_takes_19 : decode cX12_takes 19 = .ok (.aload_n 0, 1) := by decide +kernel
theorem dX12_takes_20 : decode cX12_takes 20 = .ok (.getfield 31, 3) := by decide +kernel
theorem dX12_takes_23 : decode cX12_takes 23 = .ok (.iload_n 2, 1) := by decide +kernel
theorem dX12_takes_24 : decode cX12_takes 24 = .ok (.baload, 1) := by decide +kernel
theorem dX12_takes_25 : decode cX12_takes 25 = .ok (.ifCond .ne 7, 3) := by decide +kernel
theorem dX12_takes_28 : decode cX12_takes 28 = .ok (.iconst 1, 1) := by decide +kernel
theorem dX12_takes_29 : decode cX12_takes 29 = .ok (.goto 12, 3) := by decide +kernel
theorem dX12_takes_32 : decode cX12_takes 32 = .ok (.iconst 0, 1) := by decide +kernel
theorem dX12_takes_33 : decode cX12_takes 33 = .ok (.goto 8, 3) := by decide +kernel
theorem dX12_takes_36 : decode cX12_takes 36 = .ok (.aload_n 0, 1) := by decide +kernel
theorem dX12_takes_37 : decode cX12_takes 37 = .ok (.iload_n 2, 1) := by decide +kernel
theorem dX12_takes_38 : decode cX12_takes 38 = .ok (.invokevirtual 159, 3) := by decide +kernel
theorem dX12_takes_41 : decode cX12_takes 41 = .ok (.bastore, 1) := by decide +kernel
theorem dX12_takes_42 : decode cX12_takes 42 = .ok (.iinc 2 1, 3) := by decide +kernel
theorem dX12_takes_45 : decode cX12_takes 45 = .ok (.goto (-43), 3) := by decide +kernel
theorem dX12_takes_48 : decode cX12_takes 48 = .ok (.return_, 1) := by decide +kernel
theorem dX12_takenOf_0 : decode cX12_takenOf 0 = .ok (.iconst 0, 1) := by decide +kernel
theorem dX12_takenOf_1 : decode cX12_takenOf 1 = .ok (.istore_n 2, 1) := by decide +kernel
theorem dX12_takenOf_2 : decode cX12_takenOf 2 = .ok (.iconst 0, 1) := by decide +kernel
theorem dX12_takenOf_3 : decode cX12_takenOf 3 = .ok (.istore_n 3, 1) := by decide +kernel
theorem dX12_takenOf_4 : decode cX12_takenOf 4 = .ok (.iload_n 3, 1) := by decide +kernel
theorem dX12_takenOf_5 : decode cX12_takenOf 5 = .ok (.aload_n 0, 1) := by decide +kernel
theorem dX12_takenOf_6 : decode cX12_takenOf 6 = .ok (.getfield 139, 3) := by decide +kernel
theorem dX12_takenOf_9 : decode cX12_takenOf 9 = .ok (.if_icmp .ge 38, 3) := by decide +kernel
theorem dX12_takenOf_12 : decode cX12_takenOf 12 = .ok (.iload_n 2, 1) := by decide +kernel
theorem dX12_takenOf_13 : decode cX12_takenOf 13 = .ok (.aload_n 0, 1) := by decide +kernel
theorem dX12_takenOf_14 : decode cX12_takenOf 14 = .ok (.getfield 62, 3) := by decide +kernel
theorem dX12_takenOf_17 : decode cX12_takenOf 17 = .ok (.iload_n 3, 1) := by decide +kernel
theorem dX12_takenOf_18 : decode cX12_takenOf 18 = .ok (.baload, 1) := by decide +kernel
theorem dX12_takenOf_19 : decode cX12_takenOf 19 = .ok (.ifCond .eq 16, 3) := by decide +kernel
theorem dX12_takenOf_22 : decode cX12_takenOf 22 = .ok (.aload_n 0, 1) := by decide +kernel
theorem dX12_takenOf_23 : decode cX12_takenOf 23 = .ok (.iload_n 3, 1) := by decide +kernel
theorem dX12_takenOf_24 : decode cX12_takenOf 24 = .ok (.invokevirtual 149, 3) := by decide +kernel
theorem dX12_takenOf_27 : decode cX12_takenOf 27 = .ok (.iload_n 1, 1) := by decide +kernel
theorem dX12_takenOf_28 : decode cX12_takenOf 28 = .ok (.if_icmp .ne 7, 3) := by decide +kernel
theorem dX12_takenOf_31 : decode cX12_takenOf 31 = .ok (.iconst 1, 1) := by decide +kernel
theorem dX12_takenOf_32 : decode cX12_takenOf 32 = .ok (.goto 4, 3) := by decide +kernel
theorem dX12_takenOf_35 : decode cX12_takenOf 35 = .ok (.iconst 0, 1) := by decide +kernel
theorem dX12_takenOf_36 : decode cX12_takenOf 36 = .ok (.invokestatic 105, 3) := by decide +kernel
theorem dX12_takenOf_39 : decode cX12_takenOf 39 = .ok (.iadd, 1) := by decide +kernel
theorem dX12_takenOf_40 : decode cX12_takenOf 40 = .ok (.istore_n 2, 1) := by decide +kernel
theorem dX12_takenOf_41 : decode cX12_takenOf 41 = .ok (.iinc 3 1, 3) := by decide +kernel
theorem dX12_takenOf_44 : decode cX12_takenOf 44 = .ok (.goto (-40), 3) := by decide +kernel
theorem dX12_takenOf_47 : decode cX12_takenOf 47 = .ok (.iload_n 2, 1) := by decide +kernel
theorem dX12_takenOf_48 : decode cX12_takenOf 48 = .ok (.ireturn, 1) := by decide +kernel
theorem dX12_laysTable_0 : decode cX12_laysTable 0 = .ok (.aload_n 0, 1) := by decide +kernel
theorem dX12_laysTable_1 : decode cX12_laysTable 1 = .ok (.aload_n 0, 1) := by decide +kernel
theorem dX12_laysTable_2 : decode cX12_laysTable 2 = .ok (.iload_n 1, 1) := by decide +kernel
theorem dX12_laysTable_3 : decode cX12_laysTable 3 = .ok (.invokevirtual 271, 3) := by decide +kernel
theorem dX12_laysTable_6 : decode cX12_laysTable 6 = .ok (.putfield 274, 3) := by decide +kernel
theorem dX12_laysTable_9 : decode cX12_laysTable 9 = .ok (.aload_n 0, 1) := by decide +kernel
theorem dX12_laysTable_10 : decode cX12_laysTable 10 = .ok (.aload_n 0, 1) := by decide +kernel
theorem dX12_laysTable_11 : decode cX12_laysTable 11 = .ok (.iload_n 1, 1) := by decide +kernel
theorem dX12_laysTable_12 : decode cX12_laysTable 12 = .ok (.iconst 1, 1) := by decide +kernel
theorem dX12_laysTable_13 : decode cX12_laysTable 13 = .ok (.isub, 1) := by decide +kernel
theorem dX12_laysTable_14 : decode cX12_laysTable 14 = .ok (.invokevirtual 271, 3) := by decide +kernel
theorem dX12_laysTable_17 : decode cX12_laysTable 17 = .ok (.putfield 277, 3) := by decide +kernel
theorem dX12_laysTable_20 : decode cX12_laysTable 20 = .ok (.iconst 0, 1) := by decide +kernel
theorem dX12_laysTable_21 : decode cX12_laysTable 21 = .ok (.istore_n 3, 1) := by decide +kernel
theorem dX12_laysTable_22 : decode cX12_laysTable 22 = .ok (.iconst 0, 1) := by decide +kernel
theorem dX12_laysTable_23 : decode cX12_laysTable 23 = .ok (.istore 4, 2) := by decide +kernel
theorem dX12_laysTable_25 : decode cX12_laysTable 25 = .ok (.iload 4, 2) := by decide +kernel
theorem dX12_laysTable_27 : decode cX12_laysTable 27 = .ok (.aload_n 0, 1) := by decide +kernel
theorem dX12_laysTable_28 : decode cX12_laysTable 28 = .ok (.getfield 139, 3) := by decide +kernel
theorem dX12_laysTable_31 : decode cX12_laysTable 31 = .ok (.if_icmp .ge 133, 3) := by decide +kernel
theorem dX12_laysTable_34 : decode cX12_laysTable 34 = .ok (.aload_n 0, 1) := by decide +kernel
theorem dX12_laysTable_35 : decode cX12_laysTable 35 = .ok (.getfield 62, 3) := by decide +kernel
theorem dX12_laysTable_38 : decode cX12_laysTable 38 = .ok (.iload 4, 2) := by decide +kernel
theorem dX12_laysTable_40 : decode cX12_laysTable 40 = .ok (.baload, 1) := by decide +kernel
theorem dX12_laysTable_41 : decode cX12_laysTable 41 = .ok (.ifCond .eq 117, 3) := by decide +kernel
theorem dX12_laysTable_44 : decode cX12_laysTable 44 = .ok (.aload_n 0, 1) := by decide +kernel
theorem dX12_laysTable_45 : decode cX12_laysTable 45 = .ok (.iload 4, 2) := by decide +kernel
theorem dX12_laysTable_47 : decode cX12_laysTable 47 = .ok (.invokevirtual 149, 3) := by decide +kernel
theorem dX12_laysTable_50 : decode cX12_laysTable 50 = .ok (.iload_n 1, 1) := by decide +kernel
theorem dX12_laysTable_51 : decode cX12_laysTable 51 = .ok (.if_icmp .eq 6, 3) := by decide +kernel
theorem dX12_laysTable_54 : decode cX12_laysTable 54 = .ok (.goto 104, 3) := by decide +kernel
theorem dX12_laysTable_57 : decode cX12_laysTable 57 = .ok (.iconst 0, 1) := by decide +kernel
theorem dX12_laysTable_58 : decode cX12_laysTable 58 = .ok (.istore 5, 2) := by decide +kernel
theorem dX12_laysTable_60 : decode cX12_laysTable 60 = .ok (.iconst 0, 1) := by decide +kernel
theorem dX12_laysTable_61 : decode cX12_laysTable 61 = .ok (.istore 6, 2) := by decide +kernel
theorem dX12_laysTable_63 : decode cX12_laysTable 63 = .ok (.iload 6, 2) := by decide +kernel
theorem dX12_laysTable_65 : decode cX12_laysTable 65 = .ok (.aload_n 0, 1) := by decide +kernel
theorem dX12_laysTable_66 : decode cX12_laysTable 66 = .ok (.getfield 139, 3) := by decide +kernel
theorem dX12_laysTable_69 : decode cX12_laysTable 69 = .ok (.if_icmp .ge 86, 3) := by decide +kernel
theorem dX12_laysTable_72 : decode cX12_laysTable 72 = .ok (.aload_n 0, 1) := by decide +kernel
theorem dX12_laysTable_73 : decode cX12_laysTable 73 = .ok (.getfield 62, 3) := by decide +kernel
theorem dX12_laysTable_76 : decode cX12_laysTable 76 = .ok (.iload 6, 2) := by decide +kernel
theorem dX12_laysTable_78 : decode cX12_laysTable 78 = .ok (.baload, 1) := by decide +kernel
theorem dX12_laysTable_79 : decode cX12_laysTable 79 = .ok (.ifCond .eq 70, 3) := by decide +kernel
theorem dX12_laysTable_82 : decode cX12_laysTable 82 = .ok (.aload_n 0, 1) := by decide +kernel
theorem dX12_laysTable_83 : decode cX12_laysTable 83 = .ok (.iload 6, 2) := by decide +kernel
theorem dX12_laysTable_85 : decode cX12_laysTable 85 = .ok (.invokevirtual 149, 3) := by decide +kernel
theorem dX12_laysTable_88 : decode cX12_laysTable 88 = .ok (.iload_n 1, 1) := by decide +kernel
theorem dX12_laysTable_89 : decode cX12_laysTable 89 = .ok (.iconst 1, 1) := by decide +kernel
theorem dX12_laysTable_90 : decode cX12_laysTable 90 = .ok (.isub, 1) := by decide +kernel
theorem dX12_laysTable_91 : decode cX12_laysTable 91 = .ok (.if_icmp .ne 58, 3) := by decide +kernel
theorem dX12_laysTable_94 : decode cX12_laysTable 94 = .ok (.aload_n 0, 1) := by decide +kernel
theorem dX12_laysTable_95 : decode cX12_laysTable 95 = .ok (.getfield 65, 3) := by decide +kernel
theorem dX12_laysTable_98 : decode cX12_laysTable 98 = .ok (.bipush 60, 2) := by decide +kernel
theorem dX12_laysTable_100 : decode cX12_laysTable 100 = .ok (.iload_n 3, 1) := by decide +kernel
theorem dX12_laysTable_101 : decode cX12_laysTable 101 = .ok (.imul, 1) := by decide +kernel
theorem dX12_laysTable_102 : decode cX12_laysTable 102 = .ok (.iload 5, 2) := by decide +kernel
theorem dX12_laysTable_104 : decode cX12_laysTable 104 = .ok (.iadd, 1) := by decide +kernel
theorem dX12_laysTable_105 : decode cX12_laysTable 105 = .ok (.iload_n 2, 1) := by decide +kernel
theorem dX12_laysTable_106 : decode cX12_laysTable 106 = .ok (.iconst 1, 1) := by decide +kernel
theorem dX12_laysTable_107 : decode cX12_laysTable 107 = .ok (.if_icmp .ne 14, 3) := by decide +kernel
theorem dX12_laysTable_110 : decode cX12_laysTable 110 = .ok (.aload_n 0, 1) := by decide +kernel
theorem dX12_laysTable_111 : decode cX12_laysTable 111 = .ok (.iload 4, 2) := by decide +kernel
theorem dX12_laysTable_113 : decode cX12_laysTable 113 = .ok (.iload 6, 2) := by decide +kernel
theorem dX12_laysTable_115 : decode cX12_laysTable 115 = .ok (.invokevirtual 238, 3) := by decide +kernel
theorem dX12_laysTable_118 : decode cX12_laysTable 118 = .ok (.goto 27, 3) := by decide +kernel
theorem dX12_laysTable_121 : decode cX12_laysTable 121 = .ok (.aload_n 0, 1) := by decide +kernel
theorem dX12_laysTable_122 : decode cX12_laysTable 122 = .ok (.iload 6, 2) := by decide +kernel
theorem dX12_laysTable_124 : decode cX12_laysTable 124 = .ok (.iload 4, 2) := by decide +kernel
theorem dX12_laysTable_126 : decode cX12_laysTable 126 = .ok (.invokevirtual 152, 3) := by decide +kernel
theorem dX12_laysTable_129 : decode cX12_laysTable 129 = .ok (.ifCond .eq 15, 3) := by decide +kernel
theorem dX12_laysTable_132 : decode cX12_laysTable 132 = .ok (.aload_n 0, 1) := by decide +kernel
theorem dX12_laysTable_133 : decode cX12_laysTable 133 = .ok (.iload 6, 2) := by decide +kernel
theorem dX12_laysTable_135 : decode cX12_laysTable 135 = .ok (.iload 4, 2) := by decide +kernel
theorem dX12_laysTable_137 : decode cX12_laysTable 137 = .ok (.invokevirtual 166, 3) := by decide +kernel
theorem dX12_laysTable_140 : decode cX12_laysTable 140 = .ok (.i2l, 1) := by decide +kernel
theorem dX12_laysTable_141 : decode cX12_laysTable 141 = .ok (.goto 4, 3) := by decide +kernel
theorem dX12_laysTable_144 : decode cX12_laysTable 144 = .ok (.lconst 0, 1) := by decide +kernel
theorem dX12_laysTable_145 : decode cX12_laysTable 145 = .ok (.lastore, 1) := by decide +kernel
theorem dX12_laysTable_146 : decode cX12_laysTable 146 = .ok (.iinc 5 1, 3) := by decide +kernel
theorem dX12_laysTable_149 : decode cX12_laysTable 149 = .ok (.iinc 6 1, 3) := by decide +kernel
theorem dX12_laysTable_152 : decode cX12_laysTable 152 = .ok (.goto (-89), 3) := by decide +kernel
theorem dX12_laysTable_155 : decode cX12_laysTable 155 = .ok (.iinc 3 1, 3) := by decide +kernel
theorem dX12_laysTable_158 : decode cX12_laysTable 158 = .ok (.iinc 4 1, 3) := by decide +kernel
theorem dX12_laysTable_161 : decode cX12_laysTable 161 = .ok (.goto (-136), 3) := by decide +kernel
theorem dX12_laysTable_164 : decode cX12_laysTable 164 = .ok (.return_, 1) := by decide +kernel
theorem dX12_cell_0 : decode cX12_cell 0 = .ok (.aload_n 0, 1) := by decide +kernel
theorem dX12_cell_1 : decode cX12_cell 1 = .ok (.getfield 65, 3) := by decide +kernel
theorem dX12_cell_4 : decode cX12_cell 4 = .ok (.bipush 60, 2) := by decide +kernel
theorem dX12_cell_6 : decode cX12_cell 6 = .ok (.iload_n 1, 1) := by decide +kernel
theorem dX12_cell_7 : decode cX12_cell 7 = .ok (.imul, 1) := by decide +kernel
theorem dX12_cell_8 : decode cX12_cell 8 = .ok (.iload_n 2, 1) := by decide +kernel
theorem dX12_cell_9 : decode cX12_cell 9 = .ok (.iadd, 1) := by decide +kernel
theorem dX12_cell_10 : decode cX12_cell 10 = .ok (.laload, 1) := by decide +kernel
theorem dX12_cell_11 : decode cX12_cell 11 = .ok (.lreturn, 1) := by decide +kernel
theorem dX12_addsRow_0 : decode cX12_addsRow 0 = .ok (.iconst 0, 1) := by decide +kernel
theorem dX12_addsRow_1 : decode cX12_addsRow 1 = .ok (.istore 5, 2) := by decide +kernel
theorem dX12_addsRow_3 : decode cX12_addsRow 3 = .ok (.iload 5, 2) := by decide +kernel
theorem dX12_addsRow_5 : decode cX12_addsRow 5 = .ok (.aload_n 0, 1) := by decide +kernel
theorem dX12_addsRow_6 : decode cX12_addsRow 6 = .ok (.getfield 277, 3) := by decide +kernel
theorem dX12_addsRow_9 : decode cX12_addsRow 9 = .ok (.if_icmp .ge 33, 3) := by decide +kernel
theorem dX12_addsRow_12 : decode cX12_addsRow 12 = .ok (.aload_n 0, 1) := by decide +kernel
theorem dX12_addsRow_13 : decode cX12_addsRow 13 = .ok (.getfield 65, 3) := by decide +kernel
theorem dX12_addsRow_16 : decode cX12_addsRow 16 = .ok (.bipush 60, 2) := by decide +kernel
theorem dX12_addsRow_18 : decode cX12_addsRow 18 = .ok (.iload_n 1, 1) := by decide +kernel
theorem dX12_addsRow_19 : decode cX12_addsRow 19 = .ok (.imul, 1) := by decide +kernel
theorem dX12_addsRow_20 : decode cX12_addsRow 20 = .ok (.iload 5, 2) := by decide +kernel
theorem dX12_addsRow_22 : decode cX12_addsRow 22 = .ok (.iadd, 1) := by decide +kernel
theorem dX12_addsRow_23 : decode cX12_addsRow 23 = .ok (.dup2, 1) := by decide +kernel
theorem dX12_addsRow_24 : decode cX12_addsRow 24 = .ok (.laload, 1) := by decide +kernel
theorem dX12_addsRow_25 : decode cX12_addsRow 25 = .ok (.lload_n 3, 1) := by decide +kernel
theorem dX12_addsRow_26 : decode cX12_addsRow 26 = .ok (.aload_n 0, 1) := by decide +kernel
theorem dX12_addsRow_27 : decode cX12_addsRow 27 = .ok (.iload_n 2, 1) := by decide +kernel
theorem dX12_addsRow_28 : decode cX12_addsRow 28 = .ok (.iload 5, 2) := by decide +kernel
theorem dX12_addsRow_30 : decode cX12_addsRow 30 = .ok (.invokevirtual 280, 3) := by decide +kernel
theorem dX12_addsRow_33 : decode cX12_addsRow 33 = .ok (.lmul, 1) := by decide +kernel
theorem dX12_addsRow_34 : decode cX12_addsRow 34 = .ok (.ladd, 1) := by decide +kernel
theorem dX12_addsRow_35 : decode cX12_addsRow 35 = .ok (.lastore, 1) := by decide +kernel
theorem dX12_addsRow_36 : decode cX12_addsRow 36 = .ok (.iinc 5 1, 3) := by decide +kernel
theorem dX12_addsRow_39 : decode cX12_addsRow 39 = .ok (.goto (-36), 3) := by decide +kernel
theorem dX12_addsRow_42 : decode cX12_addsRow 42 = .ok (.return_, 1) := by decide +kernel
theorem dX12_addsColumn_0 : decode cX12_addsColumn 0 = .ok (.iconst 0, 1) := by decide +kernel
theorem dX12_addsColumn_1 : decode cX12_addsColumn 1 = .ok (.istore 5, 2) := by decide +kernel
theorem dX12_addsColumn_3 : decode cX12_addsColumn 3 = .ok (.iload 5, 2) := by decide +kernel
theorem dX12_addsColumn_5 : decode cX12_addsColumn 5 = .ok (.aload_n 0, 1) := by decide +kernel
theorem dX12_addsColumn_6 : decode cX12_addsColumn 6 = .ok (.getfield 274, 3) := by decide +kernel
theorem dX12_addsColumn_9 : decode cX12_addsColumn 9 = .ok (.if_icmp .ge 33, 3) := by decide +kernel
theorem dX12_addsColumn_12 : decode cX12_addsColumn 12 = .ok (.aload_n 0, 1) := by decide +kernel
theorem dX12_addsColumn_13 : decode cX12_addsColumn 13 = .ok (.getfield 65, 3) := by decide +kernel
theorem dX12_addsColumn_16 : decode cX12_addsColumn 16 = .ok (.bipush 60, 2) := by decide +kernel
theorem dX12_addsColumn_18 : decode cX12_addsColumn 18 = .ok (.iload 5, 2) := by decide +kernel
theorem dX12_addsColumn_20 : decode cX12_addsColumn 20 = .ok (.imul, 1) := by decide +kernel
theorem dX12_addsColumn_21 : decode cX12_addsColumn 21 = .ok (.iload_n 1, 1) := by decide +kernel
theorem dX12_addsColumn_22 : decode cX12_addsColumn 22 = .ok (.iadd, 1) := by decide +kernel
theorem dX12_addsColumn_23 : decode cX12_addsColumn 23 = .ok (.dup2, 1) := by decide +kernel
theorem dX12_addsColumn_24 : decode cX12_addsColumn 24 = .ok (.laload, 1) := by decide +kernel
theorem dX12_addsColumn_25 : decode cX12_addsColumn 25 = .ok (.lload_n 3, 1) := by decide +kernel
theorem dX12_addsColumn_26 : decode cX12_addsColumn 26 = .ok (.aload_n 0, 1) := by decide +kernel
theorem dX12_addsColumn_27 : decode cX12_addsColumn 27 = .ok (.iload 5, 2) := by decide +kernel
theorem dX12_addsColumn_29 : decode cX12_addsColumn 29 = .ok (.iload_n 2, 1) := by decide +kernel
theorem dX12_addsColumn_30 : decode cX12_addsColumn 30 = .ok (.invokevirtual 280, 3) := by decide +kernel
theorem dX12_addsColumn_33 : decode cX12_addsColumn 33 = .ok (.lmul, 1) := by decide +kernel
theorem dX12_addsColumn_34 : decode cX12_addsColumn 34 = .ok (.ladd, 1) := by decide +kernel
theorem dX12_addsColumn_35 : decode cX12_addsColumn 35 = .ok (.lastore, 1) := by decide +kernel
theorem dX12_addsColumn_36 : decode cX12_addsColumn 36 = .ok (.iinc 5 1, 3) := by decide +kernel
theorem dX12_addsColumn_39 : decode cX12_addsColumn 39 = .ok (.goto (-36), 3) := by decide +kernel
theorem dX12_addsColumn_42 : decode cX12_addsColumn 42 = .ok (.return_, 1) := by decide +kernel
theorem dX12_swapsRows_0 : decode cX12_swapsRows 0 = .ok (.iconst 0, 1) := by decide +kernel
theorem dX12_swapsRows_1 : decode cX12_swapsRows 1 = .ok (.istore_n 3, 1) := by decide +kernel
theorem dX12_swapsRows_2 : decode cX12_swapsRows 2 = .ok (.iload_n 3, 1) := by decide +kernel
theorem dX12_swapsRows_3 : decode cX12_swapsRows 3 = .ok (.aload_n 0, 1) := by decide +kernel
theorem dX12_swapsRows_4 : decode cX12_swapsRows 4 = .ok (.getfield 277, 3) := by decide +kernel
theorem dX12_swapsRows_7 : decode cX12_swapsRows 7 = .ok (.if_icmp .ge 47, 3) := by decide +kernel
theorem dX12_swapsRows_10 : decode cX12_swapsRows 10 = .ok (.aload_n 0, 1) := by decide +kernel
theorem dX12_swapsRows_11 : decode cX12_swapsRows 11 = .ok (.iload_n 1, 1) := by decide +kernel
theorem dX12_swapsRows_12 : decode cX12_swapsRows 12 = .ok (.iload_n 3, 1) := by decide +kernel
theorem dX12_swapsRows_13 : decode cX12_swapsRows 13 = .ok (.invokevirtual 280, 3) := by decide +kernel
theorem dX12_swapsRows_16 : decode cX12_swapsRows 16 = .ok (.lstore 4, 2) := by decide +kernel
theorem dX12_swapsRows_18 : decode cX12_swapsRows 18 = .ok (.aload_n 0, 1) := by decide +kernel
theorem dX12_swapsRows_19 : decode cX12_swapsRows 19 = .ok (.getfield 65, 3) := by decide +kernel
theorem dX12_swapsRows_22 : decode cX12_swapsRows 22 = .ok (.bipush 60, 2) := by decide +kernel
theorem dX12_swapsRows_24 : decode cX12_swapsRows 24 = .ok (.iload_n 1, 1) := by decide +kernel
theorem dX12_swapsRows_25 : decode cX12_swapsRows 25 = .ok (.imul, 1) := by decide +kernel
theorem dX12_swapsRows_26 : decode cX12_swapsRows 26 = .ok (.iload_n 3, 1) := by decide +kernel
theorem dX12_swapsRows_27 : decode cX12_swapsRows 27 = .ok (.iadd, 1) := by decide +kernel
theorem dX12_swapsRows_28 : decode cX12_swapsRows 28 = .ok (.aload_n 0, 1) := by decide +kernel
theorem dX12_swapsRows_29 : decode cX12_swapsRows 29 = .ok (.iload_n 2, 1) := by decide +kernel
theorem dX12_swapsRows_30 : decode cX12_swapsRows 30 = .ok (.iload_n 3, 1) := by decide +kernel
theorem dX12_swapsRows_31 : decode cX12_swapsRows 31 = .ok (.invokevirtual 280, 3) := by decide +kernel
theorem dX12_swapsRows_34 : decode cX12_swapsRows 34 = .ok (.lastore, 1) := by decide +kernel
theorem dX12_swapsRows_35 : decode cX12_swapsRows 35 = .ok (.aload_n 0, 1) := by decide +kernel
theorem dX12_swapsRows_36 : decode cX12_swapsRows 36 = .ok (.getfield 65, 3) := by decide +kernel
theorem dX12_swapsRows_39 : decode cX12_swapsRows 39 = .ok (.bipush 60, 2) := by decide +kernel
theorem dX12_swapsRows_41 : decode cX12_swapsRows 41 = .ok (.iload_n 2, 1) := by decide +kernel
theorem dX12_swapsRows_42 : decode cX12_swapsRows 42 = .ok (.imul, 1) := by decide +kernel
theorem dX12_swapsRows_43 : decode cX12_swapsRows 43 = .ok (.iload_n 3, 1) := by decide +kernel
theorem dX12_swapsRows_44 : decode cX12_swapsRows 44 = .ok (.iadd, 1) := by decide +kernel
theorem dX12_swapsRows_45 : decode cX12_swapsRows 45 = .ok (.lload 4, 2) := by decide +kernel
theorem dX12_swapsRows_47 : decode cX12_swapsRows 47 = .ok (.lastore, 1) := by decide +kernel
theorem dX12_swapsRows_48 : decode cX12_swapsRows 48 = .ok (.iinc 3 1, 3) := by decide +kernel
theorem dX12_swapsRows_51 : decode cX12_swapsRows 51 = .ok (.goto (-49), 3) := by decide +kernel
theorem dX12_swapsRows_54 : decode cX12_swapsRows 54 = .ok (.return_, 1) := by decide +kernel
theorem dX12_swapsColumns_0 : decode cX12_swapsColumns 0 = .ok (.iconst 0, 1) := by decide +kernel
theorem dX12_swapsColumns_1 : decode cX12_swapsColumns 1 = .ok (.istore_n 3, 1) := by decide +kernel
theorem dX12_swapsColumns_2 : decode cX12_swapsColumns 2 = .ok (.iload_n 3, 1) := by decide +kernel
theorem dX12_swapsColumns_3 : decode cX12_swapsColumns 3 = .ok (.aload_n 0, 1) := by decide +kernel
theorem dX12_swapsColumns_4 : decode cX12_swapsColumns 4 = .ok (.getfield 274, 3) := by decide +kernel
theorem dX12_swapsColumns_7 : decode cX12_swapsColumns 7 = .ok (.if_icmp .ge 47, 3) := by decide +kernel
theorem dX12_swapsColumns_10 : decode cX12_swapsColumns 10 = .ok (.aload_n 0, 1) := by decide +kernel
theorem dX12_swapsColumns_11 : decode cX12_swapsColumns 11 = .ok (.iload_n 3, 1) := by decide +kernel
theorem dX12_swapsColumns_12 : decode cX12_swapsColumns 12 = .ok (.iload_n 1, 1) := by decide +kernel
theorem dX12_swapsColumns_13 : decode cX12_swapsColumns 13 = .ok (.invokevirtual 280, 3) := by decide +kernel
theorem dX12_swapsColumns_16 : decode cX12_swapsColumns 16 = .ok (.lstore 4, 2) := by decide +kernel
theorem dX12_swapsColumns_18 : decode cX12_swapsColumns 18 = .ok (.aload_n 0, 1) := by decide +kernel
theorem dX12_swapsColumns_19 : decode cX12_swapsColumns 19 = .ok (.getfield 65, 3) := by decide +kernel
theorem dX12_swapsColumns_22 : decode cX12_swapsColumns 22 = .ok (.bipush 60, 2) := by decide +kernel
theorem dX12_swapsColumns_24 : decode cX12_swapsColumns 24 = .ok (.iload_n 3, 1) := by decide +kernel
theorem dX12_swapsColumns_25 : decode cX12_swapsColumns 25 = .ok (.imul, 1) := by decide +kernel
theorem dX12_swapsColumns_26 : decode cX12_swapsColumns 26 = .ok (.iload_n 1, 1) := by decide +kernel
theorem dX12_swapsColumns_27 : decode cX12_swapsColumns 27 = .ok (.iadd, 1) := by decide +kernel
theorem dX12_swapsColumns_28 : decode cX12_swapsColumns 28 = .ok (.aload_n 0, 1) := by decide +kernel
theorem dX12_swapsColumns_29 : decode cX12_swapsColumns 29 = .ok (.iload_n 3, 1) := by decide +kernel
theorem dX12_swapsColumns_30 : decode cX12_swapsColumns 30 = .ok (.iload_n 2, 1) := by decide +kernel
theorem dX12_swapsColumns_31 : decode cX12_swapsColumns 31 = .ok (.invokevirtual 280, 3) := by decide +kernel
theorem dX12_swapsColumns_34 : decode cX12_swapsColumns 34 = .ok (.lastore, 1) := by decide +kernel
theorem dX12_swapsColumns_35 : decode cX12_swapsColumns 35 = .ok (.aload_n 0, 1) := by decide +kernel
theorem dX12_swapsColumns_36 : decode cX12_swapsColumns 36 = .ok (.getfield 65, 3) := by decide +kernel
theorem dX12_swapsColumns_39 : decode cX12_swapsColumns 39 = .ok (.bipush 60, 2) := by decide +kernel
theorem dX12_swapsColumns_41 : decode cX12_swapsColumns 41 = .ok (.iload_n 3, 1) := by decide +kernel
theorem dX12_swapsColumns_42 : decode cX12_swapsColumns 42 = .ok (.imul, 1) := by decide +kernel
theorem dX12_swapsColumns_43 : decode cX12_swapsColumns 43 = .ok (.iload_n 2, 1) := by decide +kernel
theorem dX12_swapsColumns_44 : decode cX12_swapsColumns 44 = .ok (.iadd, 1) := by decide +kernel
theorem dX12_swapsColumns_45 : decode cX12_swapsColumns 45 = .ok (.lload 4, 2) := by decide +kernel
theorem dX12_swapsColumns_47 : decode cX12_swapsColumns 47 = .ok (.lastore, 1) := by decide +kernel
theorem dX12_swapsColumns_48 : decode cX12_swapsColumns 48 = .ok (.iinc 3 1, 3) := by decide +kernel
theorem dX12_swapsColumns_51 : decode cX12_swapsColumns 51 = .ok (.goto (-49), 3) := by decide +kernel
theorem dX12_swapsColumns_54 : decode cX12_swapsColumns 54 = .ok (.return_, 1) := by decide +kernel
theorem dX12_bringsLeast_0 : decode cX12_bringsLeast 0 = .ok (.iconst (-1), 1) := by decide +kernel
theorem dX12_bringsLeast_1 : decode cX12_bringsLeast 1 = .ok (.istore_n 2, 1) := by decide +kernel
theorem dX12_bringsLeast_2 : decode cX12_bringsLeast 2 = .ok (.iconst (-1), 1) := by decide +kernel
theorem dX12_bringsLeast_3 : decode cX12_bringsLeast 3 = .ok (.istore_n 3, 1) := by decide +kernel
theorem dX12_bringsLeast_4 : decode cX12_bringsLeast 4 = .ok (.iload_n 1, 1) := by decide +kernel
theorem dX12_bringsLeast_5 : decode cX12_bringsLeast 5 = .ok (.istore 4, 2) := by decide +kernel
theorem dX12_bringsLeast_7 : decode cX12_bringsLeast 7 = .ok (.iload 4, 2) := by decide +kernel
theorem dX12_bringsLeast_9 : decode cX12_bringsLeast 9 = .ok (.aload_n 0, 1) := by decide +kernel
theorem dX12_bringsLeast_10 : decode cX12_bringsLeast 10 = .ok (.getfield 274, 3) := by decide +kernel
theorem dX12_bringsLeast_13 : decode cX12_bringsLeast 13 = .ok (.if_icmp .ge 100, 3) := by decide +kernel
theorem dX12_bringsLeast_16 : decode cX12_bringsLeast 16 = .ok (.iload_n 1, 1) := by decide +kernel
theorem dX12_bringsLeast_17 : decode cX12_bringsLeast 17 = .ok (.istore 5, 2) := by decide +kernel
theorem dX12_bringsLeast_19 : decode cX12_bringsLeast 19 = .ok (.iload 5, 2) := by decide +kernel
theorem dX12_bringsLeast_21 : decode cX12_bringsLeast 21 = .ok (.aload_n 0, 1) := by decide +kernel
theorem dX12_bringsLeast_22 : decode cX12_bringsLeast 22 = .ok (.getfield 277, 3) := by decide +kernel
theorem dX12_bringsLeast_25 : decode cX12_bringsLeast 25 = .ok (.if_icmp .ge 82, 3) := by decide +kernel
theorem dX12_bringsLeast_28 : decode cX12_bringsLeast 28 = .ok (.aload_n 0, 1) := by decide +kernel
theorem dX12_bringsLeast_29 : decode cX12_bringsLeast 29 = .ok (.iload 4, 2) := by decide +kernel
theorem dX12_bringsLeast_31 : decode cX12_bringsLeast 31 = .ok (.iload 5, 2) := by decide +kernel
theorem dX12_bringsLeast_33 : decode cX12_bringsLeast 33 = .ok (.invokevirtual 280, 3) := by decide +kernel
theorem dX12_bringsLeast_36 : decode cX12_bringsLeast 36 = .ok (.lconst 0, 1) := by decide +kernel
theorem dX12_bringsLeast_37 : decode cX12_bringsLeast 37 = .ok (.lcmp, 1) := by decide +kernel
theorem dX12_bringsLeast_38 : decode cX12_bringsLeast 38 = .ok (.ifCond .eq 36, 3) := by decide +kernel
theorem dX12_bringsLeast_41 : decode cX12_bringsLeast 41 = .ok (.iload_n 2, 1) := by decide +kernel
theorem dX12_bringsLeast_42 : decode cX12_bringsLeast 42 = .ok (.iconst (-1), 1) := by decide +kernel
theorem dX12_bringsLeast_43 : decode cX12_bringsLeast 43 = .ok (.if_icmp .eq 27, 3) := by decide +kernel
theorem dX12_bringsLeast_46 : decode cX12_bringsLeast 46 = .ok (.aload_n 0, 1) := by decide +kernel
theorem dX12_bringsLeast_47 : decode cX12_bringsLeast 47 = .ok (.iload 4, 2) := by decide +kernel
theorem dX12_bringsLeast_49 : decode cX12_bringsLeast 49 = .ok (.iload 5, 2) := by decide +kernel
theorem dX12_bringsLeast_51 : decode cX12_bringsLeast 51 = .ok (.invokevirtual 280, 3) := by decide +kernel
theorem dX12_bringsLeast_54 : decode cX12_bringsLeast 54 = .ok (.invokestatic 283, 3) := by decide +kernel
theorem dX12_bringsLeast_57 : decode cX12_bringsLeast 57 = .ok (.aload_n 0, 1) := by decide +kernel
theorem dX12_bringsLeast_58 : decode cX12_bringsLeast 58 = .ok (.iload_n 2, 1) := by decide +kernel
theorem dX12_bringsLeast_59 : decode cX12_bringsLeast 59 = .ok (.iload_n 3, 1) := by decide +kernel
theorem dX12_bringsLeast_60 : decode cX12_bringsLeast 60 = .ok (.invokevirtual 280, 3) := by decide +kernel
theorem dX12_bringsLeast_63 : decode cX12_bringsLeast 63 = .ok (.invokestatic 283, 3) := by decide +kernel
theorem dX12_bringsLeast_66 : decode cX12_bringsLeast 66 = .ok (.lcmp, 1) := by decide +kernel
theorem dX12_bringsLeast_67 : decode cX12_bringsLeast 67 = .ok (.ifCond .ge 7, 3) := by decide +kernel
theorem dX12_bringsLeast_70 : decode cX12_bringsLeast 70 = .ok (.iconst 1, 1) := by decide +kernel
theorem dX12_bringsLeast_71 : decode cX12_bringsLeast 71 = .ok (.goto 4, 3) := by decide +kernel
theorem dX12_bringsLeast_74 : decode cX12_bringsLeast 74 = .ok (.iconst 0, 1) := by decide +kernel
theorem dX12_bringsLeast_75 : decode cX12_bringsLeast 75 = .ok (.istore 6, 2) := by decide +kernel
theorem dX12_bringsLeast_77 : decode cX12_bringsLeast 77 = .ok (.iload 6, 2) := by decide +kernel
theorem dX12_bringsLeast_79 : decode cX12_bringsLeast 79 = .ok (.ifCond .eq 8, 3) := by decide +kernel
theorem dX12_bringsLeast_82 : decode cX12_bringsLeast 82 = .ok (.iload 4, 2) := by decide +kernel
theorem dX12_bringsLeast_84 : decode cX12_bringsLeast 84 = .ok (.goto 4, 3) := by decide +kernel
theorem dX12_bringsLeast_87 : decode cX12_bringsLeast 87 = .ok (.iload_n 2, 1) := by decide +kernel
theorem dX12_bringsLeast_88 : decode cX12_bringsLeast 88 = .ok (.istore_n 2, 1) := by decide +kernel
theorem dX12_bringsLeast_89 : decode cX12_bringsLeast 89 = .ok (.iload 6, 2) := by decide +kernel
theorem dX12_bringsLeast_91 : decode cX12_bringsLeast 91 = .ok (.ifCond .eq 8, 3) := by decide +kernel
theorem dX12_bringsLeast_94 : decode cX12_bringsLeast 94 = .ok (.iload 5, 2) := by decide +kernel
theorem dX12_bringsLeast_96 : decode cX12_bringsLeast 96 = .ok (.goto 4, 3) := by decide +kernel
theorem dX12_bringsLeast_99 : decode cX12_bringsLeast 99 = .ok (.iload_n 3, 1) := by decide +kernel
theorem dX12_bringsLeast_100 : decode cX12_bringsLeast 100 = .ok (.istore_n 3, 1) := by decide +kernel
theorem dX12_bringsLeast_101 : decode cX12_bringsLeast 101 = .ok (.iinc 5 1, 3) := by decide +kernel
theorem dX12_bringsLeast_104 : decode cX12_bringsLeast 104 = .ok (.goto (-85), 3) := by decide +kernel
theorem dX12_bringsLeast_107 : decode cX12_bringsLeast 107 = .ok (.iinc 4 1, 3) := by decide +kernel
theorem dX12_bringsLeast_110 : decode cX12_bringsLeast 110 = .ok (.goto (-103), 3) := by decide +kernel
theorem dX12_bringsLeast_113 : decode cX12_bringsLeast 113 = .ok (.iload_n 2, 1) := by decide +kernel
theorem dX12_bringsLeast_114 : decode cX12_bringsLeast 114 = .ok (.iconst (-1), 1) := by decide +kernel
theorem dX12_bringsLeast_115 : decode cX12_bringsLeast 115 = .ok (.if_icmp .ne 5, 3) := by decide +kernel
theorem dX12_bringsLeast_118 : decode cX12_bringsLeast 118 = .ok (.iconst 0, 1) := by decide +kernel
theorem dX12_bringsLeast_119 : decode cX12_bringsLeast 119 = .ok (.ireturn, 1) := by decide +kernel
theorem dX12_bringsLeast_120 : decode cX12_bringsLeast 120 = .ok (.aload_n 0, 1) := by decide +kernel
theorem dX12_bringsLeast_121 : decode cX12_bringsLeast 121 = .ok (.iload_n 1, 1) := by decide +kernel
theorem dX12_bringsLeast_122 : decode cX12_bringsLeast 122 = .ok (.iload_n 2, 1) := by decide +kernel
theorem dX12_bringsLeast_123 : decode cX12_bringsLeast 123 = .ok (.invokevirtual 289, 3) := by decide +kernel
theorem dX12_bringsLeast_126 : decode cX12_bringsLeast 126 = .ok (.aload_n 0, 1) := by decide +kernel
theorem dX12_bringsLeast_127 : decode cX12_bringsLeast 127 = .ok (.iload_n 1, 1) := by decide +kernel
theorem dX12_bringsLeast_128 : decode cX12_bringsLeast 128 = .ok (.iload_n 3, 1) := by decide +kernel
theorem dX12_bringsLeast_129 : decode cX12_bringsLeast 129 = .ok (.invokevirtual 292, 3) := by decide +kernel
theorem dX12_bringsLeast_132 : decode cX12_bringsLeast 132 = .ok (.iconst 1, 1) := by decide +kernel
theorem dX12_bringsLeast_133 : decode cX12_bringsLeast 133 = .ok (.ireturn, 1) := by decide +kernel
theorem dX12_clears_0 : decode cX12_clears 0 = .ok (.iconst 1, 1) := by decide +kernel
theorem dX12_clears_1 : decode cX12_clears 1 = .ok (.istore_n 2, 1) := by decide +kernel
theorem dX12_clears_2 : decode cX12_clears 2 = .ok (.iload_n 1, 1) := by decide +kernel
theorem dX12_clears_3 : decode cX12_clears 3 = .ok (.iconst 1, 1) := by decide +kernel
theorem dX12_clears_4 : decode cX12_clears 4 = .ok (.iadd, 1) := by decide +kernel
theorem dX12_clears_5 : decode cX12_clears 5 = .ok (.istore_n 3, 1) := by decide +kernel
theorem dX12_clears_6 : decode cX12_clears 6 = .ok (.iload_n 3, 1) := by decide +kernel
theorem dX12_clears_7 : decode cX12_clears 7 = .ok (.aload_n 0, 1) := by decide +kernel
theorem dX12_clears_8 : decode cX12_clears 8 = .ok (.getfield 274, 3) := by decide +kernel
theorem dX12_clears_11 : decode cX12_clears 11 = .ok (.if_icmp .ge 50, 3) := by decide +kernel
theorem dX12_clears_14 : decode cX12_clears 14 = .ok (.aload_n 0, 1) := by decide +kernel
theorem dX12_clears_15 : decode cX12_clears 15 = .ok (.iload_n 3, 1) := by decide +kernel
theorem dX12_clears_16 : decode cX12_clears 16 = .ok (.iload_n 1, 1) := by decide +kernel
theorem dX12_clears_17 : decode cX12_clears 17 = .ok (.aload_n 0, 1) := by decide +kernel
theorem dX12_clears_18 : decode cX12_clears 18 = .ok (.iload_n 3, 1) := by decide +kernel
theorem dX12_clears_19 : decode cX12_clears 19 = .ok (.iload_n 1, 1) := by decide +kernel
theorem dX12_clears_20 : decode cX12_clears 20 = .ok (.invokevirtual 280, 3) := by decide +kernel
theorem dX12_clears_23 : decode cX12_clears 23 = .ok (.aload_n 0, 1) := by decide +kernel
theorem dX12_clears_24 : decode cX12_clears 24 = .ok (.iload_n 1, 1) := by decide +kernel
theorem dX12_clears_25 : decode cX12_clears 25 = .ok (.iload_n 1, 1) := by decide +kernel
theorem dX12_clears_26 : decode cX12_clears 26 = .ok (.invokevirtual 280, 3) := by decide +kernel
theorem dX12_clears_29 : decode cX12_clears 29 = .ok (.ldiv, 1) := by decide +kernel
theorem dX12_clears_30 : decode cX12_clears 30 = .ok (.lneg, 1) := by decide +kernel
theorem dX12_clears_31 : decode cX12_clears 31 = .ok (.invokevirtual 295, 3) := by decide +kernel
theorem dX12_clears_34 : decode cX12_clears 34 = .ok (.iload_n 2, 1) := by decide +kernel
theorem dX12_clears_35 : decode cX12_clears 35 = .ok (.ifCond .eq 18, 3) := by decide +kernel
theorem dX12_clears_38 : decode cX12_clears 38 = .ok (.aload_n 0, 1) := by decide +kernel
theorem dX12_clears_39 : decode cX12_clears 39 = .ok (.iload_n 3, 1) := by decide +kernel
theorem dX12_clears_40 : decode cX12_clears 40 = .ok (.iload_n 1, 1) := by decide +kernel
theorem dX12_clears_41 : decode cX12_clears 41 = .ok (.invokevirtual 280, 3) := by decide +kernel
theorem dX12_clears_44 : decode cX12_clears 44 = .ok (.lconst 0, 1) := by decide +kernel
theorem dX12_clears_45 : decode cX12_clears 45 = .ok (.lcmp, 1) := by decide +kernel
theorem dX12_clears_46 : decode cX12_clears 46 = .ok (.ifCond .ne 7, 3) := by decide +kernel
theorem dX12_clears_49 : decode cX12_clears 49 = .ok (.iconst 1, 1) := by decide +kernel
theorem dX12_clears_50 : decode cX12_clears 50 = .ok (.goto 4, 3) := by decide +kernel
theorem dX12_clears_53 : decode cX12_clears 53 = .ok (.iconst 0, 1) := by decide +kernel
theorem dX12_clears_54 : decode cX12_clears 54 = .ok (.istore_n 2, 1) := by decide +kernel
theorem dX12_clears_55 : decode cX12_clears 55 = .ok (.iinc 3 1, 3) := by decide +kernel
theorem dX12_clears_58 : decode cX12_clears 58 = .ok (.goto (-52), 3) := by decide +kernel
theorem dX12_clears_61 : decode cX12_clears 61 = .ok (.iload_n 1, 1) := by decide +kernel
theorem dX12_clears_62 : decode cX12_clears 62 = .ok (.iconst 1, 1) := by decide +kernel
theorem dX12_clears_63 : decode cX12_clears 63 = .ok (.iadd, 1) := by decide +kernel
theorem dX12_clears_64 : decode cX12_clears 64 = .ok (.istore_n 3, 1) := by decide +kernel
theorem dX12_clears_65 : decode cX12_clears 65 = .ok (.iload_n 3, 1) := by decide +kernel
theorem dX12_clears_66 : decode cX12_clears 66 = .ok (.aload_n 0, 1) := by decide +kernel
theorem dX12_clears_67 : decode cX12_clears 67 = .ok (.getfield 277, 3) := by decide +kernel
theorem dX12_clears_70 : decode cX12_clears 70 = .ok (.if_icmp .ge 50, 3) := by decide +kernel
theorem dX12_clears_73 : decode cX12_clears 73 = .ok (.aload_n 0, 1) := by decide +kernel
theorem dX12_clears_74 : decode cX12_clears 74 = .ok (.iload_n 3, 1) := by decide +kernel
theorem dX12_clears_75 : decode cX12_clears 75 = .ok (.iload_n 1, 1) := by decide +kernel
theorem dX12_clears_76 : decode cX12_clears 76 = .ok (.aload_n 0, 1) := by decide +kernel
theorem dX12_clears_77 : decode cX12_clears 77 = .ok (.iload_n 1, 1) := by decide +kernel
theorem dX12_clears_78 : decode cX12_clears 78 = .ok (.iload_n 3, 1) := by decide +kernel
theorem dX12_clears_79 : decode cX12_clears 79 = .ok (.invokevirtual 280, 3) := by decide +kernel
theorem dX12_clears_82 : decode cX12_clears 82 = .ok (.aload_n 0, 1) := by decide +kernel
theorem dX12_clears_83 : decode cX12_clears 83 = .ok (.iload_n 1, 1) := by decide +kernel
theorem dX12_clears_84 : decode cX12_clears 84 = .ok (.iload_n 1, 1) := by decide +kernel
theorem dX12_clears_85 : decode cX12_clears 85 = .ok (.invokevirtual 280, 3) := by decide +kernel
theorem dX12_clears_88 : decode cX12_clears 88 = .ok (.ldiv, 1) := by decide +kernel
theorem dX12_clears_89 : decode cX12_clears 89 = .ok (.lneg, 1) := by decide +kernel
theorem dX12_clears_90 : decode cX12_clears 90 = .ok (.invokevirtual 299, 3) := by decide +kernel
theorem dX12_clears_93 : decode cX12_clears 93 = .ok (.iload_n 2, 1) := by decide +kernel
theorem dX12_clears_94 : decode cX12_clears 94 = .ok (.ifCond .eq 18, 3) := by decide +kernel
theorem dX12_clears_97 : decode cX12_clears 97 = .ok (.aload_n 0, 1) := by decide +kernel
theorem dX12_clears_98 : decode cX12_clears 98 = .ok (.iload_n 1, 1) := by decide +kernel
theorem dX12_clears_99 : decode cX12_clears 99 = .ok (.iload_n 3, 1) := by decide +kernel
theorem dX12_clears_100 : decode cX12_clears 100 = .ok (.invokevirtual 280, 3) := by decide +kernel
theorem dX12_clears_103 : decode cX12_clears 103 = .ok (.lconst 0, 1) := by decide +kernel
theorem dX12_clears_104 : decode cX12_clears 104 = .ok (.lcmp, 1) := by decide +kernel
theorem dX12_clears_105 : decode cX12_clears 105 = .ok (.ifCond .ne 7, 3) := by decide +kernel
theorem dX12_clears_108 : decode cX12_clears 108 = .ok (.iconst 1, 1) := by decide +kernel
theorem dX12_clears_109 : decode cX12_clears 109 = .ok (.goto 4, 3) := by decide +kernel
theorem dX12_clears_112 : decode cX12_clears 112 = .ok (.iconst 0, 1) := by decide +kernel
theorem dX12_clears_113 : decode cX12_clears 113 = .ok (.istore_n 2, 1) := by decide +kernel
theorem dX12_clears_114 : decode cX12_clears 114 = .ok (.iinc 3 1, 3) := by decide +kernel
theorem dX12_clears_117 : decode cX12_clears 117 = .ok (.goto (-52), 3) := by decide +kernel
theorem dX12_clears_120 : decode cX12_clears 120 = .ok (.iload_n 2, 1) := by decide +kernel
theorem dX12_clears_121 : decode cX12_clears 121 = .ok (.ireturn, 1) := by decide +kernel
theorem dX12_undivided_0 : decode cX12_undivided 0 = .ok (.iload_n 1, 1) := by decide +kernel
theorem dX12_undivided_1 : decode cX12_undivided 1 = .ok (.iconst 1, 1) := by decide +kernel
theorem dX12_undivided_2 : decode cX12_undivided 2 = .ok (.iadd, 1) := by decide +kernel
theorem dX12_undivided_3 : decode cX12_undivided 3 = .ok (.istore_n 2, 1) := by decide +kernel
theorem dX12_undivided_4 : decode cX12_undivided 4 = .ok (.iload_n 2, 1) := by decide +kernel
theorem dX12_undivided_5 : decode cX12_undivided 5 = .ok (.aload_n 0, 1) := by decide +kernel
theorem dX12_undivided_6 : decode cX12_undivided 6 = .ok (.getfield 274, 3) := by decide +kernel
theorem dX12_undivided_9 : decode cX12_undivided 9 = .ok (.if_icmp .ge 47, 3) := by decide +kernel
theorem dX12_undivided_12 : decode cX12_undivided 12 = .ok (.iload_n 1, 1) := by decide +kernel
theorem dX12_undivided_13 : decode cX12_undivided 13 = .ok (.iconst 1, 1) := by decide +kernel
theorem dX12_undivided_14 : decode cX12_undivided 14 = .ok (.iadd, 1) := by decide +kernel
theorem dX12_undivided_15 : decode cX12_undivided 15 = .ok (.istore_n 3, 1) := by decide +kernel
theorem dX12_undivided_16 : decode cX12_undivided 16 = .ok (.iload_n 3, 1) := by decide +kernel
theorem dX12_undivided_17 : decode cX12_undivided 17 = .ok (.aload_n 0, 1) := by decide +kernel
theorem dX12_undivided_18 : decode cX12_undivided 18 = .ok (.getfield 277, 3) := by decide +kernel
theorem dX12_undivided_21 : decode cX12_undivided 21 = .ok (.if_icmp .ge 29, 3) := by decide +kernel
theorem dX12_undivided_24 : decode cX12_undivided 24 = .ok (.aload_n 0, 1) := by decide +kernel
theorem dX12_undivided_25 : decode cX12_undivided 25 = .ok (.iload_n 2, 1) := by decide +kernel
theorem dX12_undivided_26 : decode cX12_undivided 26 = .ok (.iload_n 3, 1) := by decide +kernel
theorem dX12_undivided_27 : decode cX12_undivided 27 = .ok (.invokevirtual 280, 3) := by decide +kernel
theorem dX12_undivided_30 : decode cX12_undivided 30 = .ok (.aload_n 0, 1) := by decide +kernel
theorem dX12_undivided_31 : decode cX12_undivided 31 = .ok (.iload_n 1, 1) := by decide +kernel
theorem dX12_undivided_32 : decode cX12_undivided 32 = .ok (.iload_n 1, 1) := by decide +kernel
theorem dX12_undivided_33 : decode cX12_undivided 33 = .ok (.invokevirtual 280, 3) := by decide +kernel
theorem dX12_undivided_36 : decode cX12_undivided 36 = .ok (.lrem, 1) := by decide +kernel
theorem dX12_undivided_37 : decode cX12_undivided 37 = .ok (.lconst 0, 1) := by decide +kernel
theorem dX12_undivided_38 : decode cX12_undivided 38 = .ok (.lcmp, 1) := by decide +kernel
theorem dX12_undivided_39 : decode cX12_undivided 39 = .ok (.ifCond .eq 5, 3) := by decide +kernel
theorem dX12_undivided_42 : decode cX12_undivided 42 = .ok (.iload_n 2, 1) := by decide +kernel
theorem dX12_undivided_43 : decode cX12_undivided 43 = .ok (.ireturn, 1) := by decide +kernel
theorem dX12_undivided_44 : decode cX12_undivided 44 = .ok (.iinc 3 1, 3) := by decide +kernel
theorem dX12_undivided_47 : decode cX12_undivided 47 = .ok (.goto (-31), 3) := by decide +kernel
theorem dX12_undivided_50 : decode cX12_undivided 50 = .ok (.iinc 2 1, 3) := by decide +kernel
theorem dX12_undivided_53 : decode cX12_undivided 53 = .ok (.goto (-49), 3) := by decide +kernel
theorem dX12_undivided_56 : decode cX12_undivided 56 = .ok (.iconst (-1), 1) := by decide +kernel
theorem dX12_undivided_57 : decode cX12_undivided 57 = .ok (.ireturn, 1) := by decide +kernel
theorem dX12_laysSteps_0 : decode cX12_laysSteps 0 = .ok (.iconst 0, 1) := by decide +kernel
theorem dX12_laysSteps_1 : decode cX12_laysSteps 1 = .ok (.istore_n 1, 1) := by decide +kernel
theorem dX12_laysSteps_2 : decode cX12_laysSteps 2 = .ok (.iload_n 1, 1) := by decide +kernel
theorem dX12_laysSteps_3 : decode cX12_laysSteps 3 = .ok (.aload_n 0, 1) := by decide +kernel
theorem dX12_laysSteps_4 : decode cX12_laysSteps 4 = .ok (.getfield 274, 3) := by decide +kernel
theorem dX12_laysSteps_7 : decode cX12_laysSteps 7 = .ok (.if_icmp .ge 72, 3) := by decide +kernel
theorem dX12_laysSteps_10 : decode cX12_laysSteps 10 = .ok (.iload_n 1, 1) := by decide +kernel
theorem dX12_laysSteps_11 : decode cX12_laysSteps 11 = .ok (.aload_n 0, 1) := by decide +kernel
theorem dX12_laysSteps_12 : decode cX12_laysSteps 12 = .ok (.getfield 277, 3) := by decide +kernel
theorem dX12_laysSteps_15 : decode cX12_laysSteps 15 = .ok (.if_icmp .ge 64, 3) := by decide +kernel
theorem dX12_laysSteps_18 : decode cX12_laysSteps 18 = .ok (.aload_n 0, 1) := by decide +kernel
theorem dX12_laysSteps_19 : decode cX12_laysSteps 19 = .ok (.iload_n 1, 1) := by decide +kernel
theorem dX12_laysSteps_20 : decode cX12_laysSteps 20 = .ok (.invokevirtual 302, 3) := by decide +kernel
theorem dX12_laysSteps_23 : decode cX12_laysSteps 23 = .ok (.ifCond .eq 56, 3) := by decide +kernel
theorem dX12_laysSteps_26 : decode cX12_laysSteps 26 = .ok (.aload_n 0, 1) := by decide +kernel
theorem dX12_laysSteps_27 : decode cX12_laysSteps 27 = .ok (.iload_n 1, 1) := by decide +kernel
theorem dX12_laysSteps_28 : decode cX12_laysSteps 28 = .ok (.invokevirtual 305, 3) := by decide +kernel
theorem dX12_laysSteps_31 : decode cX12_laysSteps 31 = .ok (.ifCond .ne 6, 3) := by decide +kernel
theorem dX12_laysSteps_34 : decode cX12_laysSteps 34 = .ok (.goto (-32), 3) := by decide +kernel
theorem dX12_laysSteps_37 : decode cX12_laysSteps 37 = .ok (.aload_n 0, 1) := by decide +kernel
theorem dX12_laysSteps_38 : decode cX12_laysSteps 38 = .ok (.iload_n 1, 1) := by decide +kernel
theorem dX12_laysSteps_39 : decode cX12_laysSteps 39 = .ok (.invokevirtual 308, 3) := by decide +kernel
theorem dX12_laysSteps_42 : decode cX12_laysSteps 42 = .ok (.istore_n 2, 1) := by decide +kernel
theorem dX12_laysSteps_43 : decode cX12_laysSteps 43 = .ok (.iload_n 2, 1) := by decide +kernel
theorem dX12_laysSteps_44 : decode cX12_laysSteps 44 = .ok (.iconst (-1), 1) := by decide +kernel
theorem dX12_laysSteps_45 : decode cX12_laysSteps 45 = .ok (.if_icmp .eq 13, 3) := by decide +kernel
theorem dX12_laysSteps_48 : decode cX12_laysSteps 48 = .ok (.aload_n 0, 1) := by decide +kernel
theorem dX12_laysSteps_49 : decode cX12_laysSteps 49 = .ok (.iload_n 1, 1) := by decide +kernel
theorem dX12_laysSteps_50 : decode cX12_laysSteps 50 = .ok (.iload_n 2, 1) := by decide +kernel
theorem dX12_laysSteps_51 : decode cX12_laysSteps 51 = .ok (.lconst 1, 1) := by decide +kernel
theorem dX12_laysSteps_52 : decode cX12_laysSteps 52 = .ok (.invokevirtual 295, 3) := by decide +kernel
theorem dX12_laysSteps_55 : decode cX12_laysSteps 55 = .ok (.goto (-53), 3) := by decide +kernel
theorem dX12_laysSteps_58 : decode cX12_laysSteps 58 = .ok (.aload_n 0, 1) := by decide +kernel
theorem dX12_laysSteps_59 : decode cX12_laysSteps 59 = .ok (.getfield 68, 3) := by decide +kernel
theorem dX12_laysSteps_62 : decode cX12_laysSteps 62 = .ok (.iload_n 1, 1) := by decide +kernel
theorem dX12_laysSteps_63 : decode cX12_laysSteps 63 = .ok (.aload_n 0, 1) := by decide +kernel
theorem dX12_laysSteps_64 : decode cX12_laysSteps 64 = .ok (.iload_n 1, 1) := by decide +kernel
theorem dX12_laysSteps_65 : decode cX12_laysSteps 65 = .ok (.iload_n 1, 1) := by decide +kernel
theorem dX12_laysSteps_66 : decode cX12_laysSteps 66 = .ok (.invokevirtual 280, 3) := by decide +kernel
theorem dX12_laysSteps_69 : decode cX12_laysSteps 69 = .ok (.invokestatic 283, 3) := by decide +kernel
theorem dX12_laysSteps_72 : decode cX12_laysSteps 72 = .ok (.lastore, 1) := by decide +kernel
theorem dX12_laysSteps_73 : decode cX12_laysSteps 73 = .ok (.iinc 1 1, 3) := by decide +kernel
theorem dX12_laysSteps_76 : decode cX12_laysSteps 76 = .ok (.goto (-74), 3) := by decide +kernel
theorem dX12_laysSteps_79 : decode cX12_laysSteps 79 = .ok (.iload_n 1, 1) := by decide +kernel
theorem dX12_laysSteps_80 : decode cX12_laysSteps 80 = .ok (.ireturn, 1) := by decide +kernel
theorem dX12_rankOf_0 : decode cX12_rankOf 0 = .ok (.iload_n 1, 1) := by decide +kernel
theorem dX12_rankOf_1 : decode cX12_rankOf 1 = .ok (.iconst 1, 1) := by decide +kernel
theorem dX12_rankOf_2 : decode cX12_rankOf 2 = .ok (.iconst 4, 1) := by decide +kernel
theorem dX12_rankOf_3 : decode cX12_rankOf 3 = .ok (.invokestatic 101, 3) := by decide +kernel
theorem dX12_rankOf_6 : decode cX12_rankOf 6 = .ok (.ifCond .ne 5, 3) := by decide +kernel
theorem dX12_rankOf_9 : decode cX12_rankOf 9 = .ok (.iconst 0, 1) := by decide +kernel
theorem dX12_rankOf_10 : decode cX12_rankOf 10 = .ok (.ireturn, 1) := by decide +kernel
theorem dX12_rankOf_11 : decode cX12_rankOf 11 = .ok (.aload_n 0, 1) := by decide +kernel
theorem dX12_rankOf_12 : decode cX12_rankOf 12 = .ok (.iload_n 1, 1) := by decide +kernel
theorem dX12_rankOf_13 : decode cX12_rankOf 13 = .ok (.iload_n 2, 1) := by decide +kernel
theorem dX12_rankOf_14 : decode cX12_rankOf 14 = .ok (.invokevirtual 311, 3) := by decide +kernel
theorem dX12_rankOf_17 : decode cX12_rankOf 17 = .ok (.aload_n 0, 1) := by decide +kernel
theorem dX12_rankOf_18 : decode cX12_rankOf 18 = .ok (.invokevirtual 314, 3) := by decide +kernel
theorem dX12_rankOf_21 : decode cX12_rankOf 21 = .ok (.ireturn, 1) := by decide +kernel
theorem dX12_bettiTaken_0 : decode cX12_bettiTaken 0 = .ok (.aload_n 0, 1) := by decide +kernel
theorem dX12_bettiTaken_1 : decode cX12_bettiTaken 1 = .ok (.iload_n 1, 1) := by decide +kernel
theorem dX12_bettiTaken_2 : decode cX12_bettiTaken 2 = .ok (.invokevirtual 271, 3) := by decide +kernel
theorem dX12_bettiTaken_5 : decode cX12_bettiTaken 5 = .ok (.aload_n 0, 1) := by decide +kernel
theorem dX12_bettiTaken_6 : decode cX12_bettiTaken 6 = .ok (.iload_n 1, 1) := by decide +kernel
theorem dX12_bettiTaken_7 : decode cX12_bettiTaken 7 = .ok (.iload_n 2, 1) := by decide +kernel
theorem dX12_bettiTaken_8 : decode cX12_bettiTaken 8 = .ok (.invokevirtual 317, 3) := by decide +kernel
theorem dX12_bettiTaken_11 : decode cX12_bettiTaken 11 = .ok (.isub, 1) := by decide +kernel
theorem dX12_bettiTaken_12 : decode cX12_bettiTaken 12 = .ok (.aload_n 0, 1) := by decide +kernel
theorem dX12_bettiTaken_13 : decode cX12_bettiTaken 13 = .ok (.iload_n 1, 1) := by decide +kernel
theorem dX12_bettiTaken_14 : decode cX12_bettiTaken 14 = .ok (.iconst 1, 1) := by decide +kernel
theorem dX12_bettiTaken_15 : decode cX12_bettiTaken 15 = .ok (.iadd, 1) := by decide +kernel
theorem dX12_bettiTaken_16 : decode cX12_bettiTaken 16 = .ok (.iload_n 2, 1) := by decide +kernel
theorem dX12_bettiTaken_17 : decode cX12_bettiTaken 17 = .ok (.invokevirtual 317, 3) := by decide +kernel
theorem dX12_bettiTaken_20 : decode cX12_bettiTaken 20 = .ok (.isub, 1) := by decide +kernel
theorem dX12_bettiTaken_21 : decode cX12_bettiTaken 21 = .ok (.ireturn, 1) := by decide +kernel
theorem dX12_betti_0 : decode cX12_betti 0 = .ok (.iload_n 1, 1) := by decide +kernel
theorem dX12_betti_1 : decode cX12_betti 1 = .ok (.iconst 0, 1) := by decide +kernel
theorem dX12_betti_2 : decode cX12_betti 2 = .ok (.iconst 4, 1) := by decide +kernel
theorem dX12_betti_3 : decode cX12_betti 3 = .ok (.invokestatic 101, 3) := by decide +kernel
theorem dX12_betti_6 : decode cX12_betti 6 = .ok (.ifCond .eq 12, 3) := by decide +kernel
theorem dX12_betti_9 : decode cX12_betti 9 = .ok (.iload_n 2, 1) := by decide +kernel
theorem dX12_betti_10 : decode cX12_betti 10 = .ok (.iconst 0, 1) := by decide +kernel
theorem dX12_betti_11 : decode cX12_betti 11 = .ok (.iconst 1, 1) := by decide +kernel
theorem dX12_betti_12 : decode cX12_betti 12 = .ok (.invokestatic 101, 3) := by decide +kernel
theorem dX12_betti_15 : decode cX12_betti 15 = .ok (.ifCond .ne 5, 3) := by decide +kernel
theorem dX12_betti_18 : decode cX12_betti 18 = .ok (.iconst (-1), 1) := by decide +kernel
theorem dX12_betti_19 : decode cX12_betti 19 = .ok (.ireturn, 1) := by decide +kernel
theorem dX12_betti_20 : decode cX12_betti 20 = .ok (.aload_n 0, 1) := by decide +kernel
theorem dX12_betti_21 : decode cX12_betti 21 = .ok (.iload_n 2, 1) := by decide +kernel
theorem dX12_betti_22 : decode cX12_betti 22 = .ok (.invokevirtual 320, 3) := by decide +kernel
theorem dX12_betti_25 : decode cX12_betti 25 = .ok (.aload_n 0, 1) := by decide +kernel
theorem dX12_betti_26 : decode cX12_betti 26 = .ok (.iload_n 1, 1) := by decide +kernel
theorem dX12_betti_27 : decode cX12_betti 27 = .ok (.iload_n 2, 1) := by decide +kernel
theorem dX12_betti_28 : decode cX12_betti 28 = .ok (.invokevirtual 323, 3) := by decide +kernel
theorem dX12_betti_31 : decode cX12_betti 31 = .ok (.ireturn, 1) := by decide +kernel
theorem dX12_torsion_0 : decode cX12_torsion 0 = .ok (.iload_n 1, 1) := by decide +kernel
theorem dX12_torsion_1 : decode cX12_torsion 1 = .ok (.iconst 0, 1) := by decide +kernel
theorem dX12_torsion_2 : decode cX12_torsion 2 = .ok (.iconst 4, 1) := by decide +kernel
theorem dX12_torsion_3 : decode cX12_torsion 3 = .ok (.invokestatic 101, 3) := by decide +kernel
theorem dX12_torsion_6 : decode cX12_torsion 6 = .ok (.ifCond .eq 17, 3) := by decide +kernel
theorem dX12_torsion_9 : decode cX12_torsion 9 = .ok (.iload_n 3, 1) := by decide +kernel
theorem dX12_torsion_10 : decode cX12_torsion 10 = .ok (.iconst 0, 1) := by decide +kernel
theorem dX12_torsion_11 : decode cX12_torsion 11 = .ok (.iconst 1, 1) := by decide +kernel
theorem dX12_torsion_12 : decode cX12_torsion 12 = .ok (.invokestatic 101, 3) := by decide +kernel
theorem dX12_torsion_15 : decode cX12_torsion 15 = .ok (.ifCond .eq 8, 3) := by decide +kernel
theorem dX12_torsion_18 : decode cX12_torsion 18 = .ok (.iload_n 2, 1) := by decide +kernel
theorem dX12_torsion_19 : decode cX12_torsion 19 = .ok (.iconst (-1), 1) := by decide +kernel
theorem dX12_torsion_20 : decode cX12_torsion 20 = .ok (.if_icmp .ge 7, 3) := by decide +kernel
theorem dX12_torsion_23 : decode cX12_torsion 23 = .ok (.ldc2_w 236, 3) := by decide +kernel
theorem dX12_torsion_26 : decode cX12_torsion 26 = .ok (.lreturn, 1) := by decide +kernel
theorem dX12_torsion_27 : decode cX12_torsion 27 = .ok (.aload_n 0, 1) := by decide +kernel
theorem dX12_torsion_28 : decode cX12_torsion 28 = .ok (.iload_n 3, 1) := by decide +kernel
theorem dX12_torsion_29 : decode cX12_torsion 29 = .ok (.invokevirtual 320, 3) := by decide +kernel
theorem dX12_torsion_32 : decode cX12_torsion 32 = .ok (.aload_n 0, 1) := by decide +kernel
theorem dX12_torsion_33 : decode cX12_torsion 33 = .ok (.iload_n 1, 1) := by decide +kernel
theorem dX12_torsion_34 : decode cX12_torsion 34 = .ok (.iconst 1, 1) := by decide +kernel
theorem dX12_torsion_35 : decode cX12_torsion 35 = .ok (.iadd, 1) := by decide +kernel
theorem dX12_torsion_36 : decode cX12_torsion 36 = .ok (.iload_n 3, 1) := by decide +kernel
theorem dX12_torsion_37 : decode cX12_torsion 37 = .ok (.invokevirtual 317, 3) := by decide +kernel
theorem dX12_torsion_40 : decode cX12_torsion 40 = .ok (.istore 4, 2) := by decide +kernel
theorem dX12_torsion_42 : decode cX12_torsion 42 = .ok (.iconst 0, 1) := by decide +kernel
theorem dX12_torsion_43 : decode cX12_torsion 43 = .ok (.istore 5, 2) := by decide +kernel
theorem dX12_torsion_45 : decode cX12_torsion 45 = .ok (.iconst 0, 1) := by decide +kernel
theorem dX12_torsion_46 : decode cX12_torsion 46 = .ok (.istore 6, 2) := by decide +kernel
theorem dX12_torsion_48 : decode cX12_torsion 48 = .ok (.iload 6, 2) := by decide +kernel
theorem dX12_torsion_50 : decode cX12_torsion 50 = .ok (.iload 4, 2) := by decide +kernel
theorem dX12_torsion_52 : decode cX12_torsion 52 = .ok (.if_icmp .ge 38, 3) := by decide +kernel
theorem dX12_torsion_55 : decode cX12_torsion 55 = .ok (.aload_n 0, 1) := by decide +kernel
theorem dX12_torsion_56 : decode cX12_torsion 56 = .ok (.getfield 68, 3) := by decide +kernel
theorem dX12_torsion_59 : decode cX12_torsion 59 = .ok (.iload 6, 2) := by decide +kernel
theorem dX12_torsion_61 : decode cX12_torsion 61 = .ok (.laload, 1) := by decide +kernel
theorem dX12_torsion_62 : decode cX12_torsion 62 = .ok (.lconst 1, 1) := by decide +kernel
theorem dX12_torsion_63 : decode cX12_torsion 63 = .ok (.lcmp, 1) := by decide +kernel
theorem dX12_torsion_64 : decode cX12_torsion 64 = .ok (.ifCond .le 20, 3) := by decide +kernel
theorem dX12_torsion_67 : decode cX12_torsion 67 = .ok (.iload 5, 2) := by decide +kernel
theorem dX12_torsion_69 : decode cX12_torsion 69 = .ok (.iload_n 2, 1) := by decide +kernel
theorem dX12_torsion_70 : decode cX12_torsion 70 = .ok (.if_icmp .ne 11, 3) := by decide +kernel
theorem dX12_torsion_73 : decode cX12_torsion 73 = .ok (.aload_n 0, 1) := by decide +kernel
theorem dX12_torsion_74 : decode cX12_torsion 74 = .ok (.getfield 68, 3) := by decide +kernel
theorem dX12_torsion_77 : decode cX12_torsion 77 = .ok (.iload 6, 2) := by decide +kernel
theorem dX12_torsion_79 : decode cX12_torsion 79 = .ok (.laload, 1) := by decide +kernel
theorem dX12_torsion_80 : decode cX12_torsion 80 = .ok (.lreturn, 1) := by decide +kernel
theorem dX12_torsion_81 : decode cX12_torsion 81 = .ok (.iinc 5 1, 3) := by decide +kernel
theorem dX12_torsion_84 : decode cX12_torsion 84 = .ok (.iinc 6 1, 3) := by decide +kernel
theorem dX12_torsion_87 : decode cX12_torsion 87 = .ok (.goto (-39), 3) := by decide +kernel
theorem dX12_torsion_90 : decode cX12_torsion 90 = .ok (.iload_n 2, 1) := by decide +kernel
theorem dX12_torsion_91 : decode cX12_torsion 91 = .ok (.iconst (-1), 1) := by decide +kernel
theorem dX12_torsion_92 : decode cX12_torsion 92 = .ok (.if_icmp .ne 9, 3) := by decide +kernel
theorem dX12_torsion_95 : decode cX12_torsion 95 = .ok (.iload 5, 2) := by decide +kernel
theorem dX12_torsion_97 : decode cX12_torsion 97 = .ok (.i2l, 1) := by decide +kernel
theorem dX12_torsion_98 : decode cX12_torsion 98 = .ok (.goto 6, 3) := by decide +kernel
theorem dX12_torsion_101 : decode cX12_torsion 101 = .ok (.ldc2_w 326, 3) := by decide +kernel
theorem dX12_torsion_104 : decode cX12_torsion 104 = .ok (.lreturn, 1) := by decide +kernel
theorem dX12_slack_0 : decode cX12_slack 0 = .ok (.iload_n 1, 1) := by decide +kernel
theorem dX12_slack_1 : decode cX12_slack 1 = .ok (.iconst 0, 1) := by decide +kernel
theorem dX12_slack_2 : decode cX12_slack 2 = .ok (.iconst 4, 1) := by decide +kernel
theorem dX12_slack_3 : decode cX12_slack 3 = .ok (.invokestatic 101, 3) := by decide +kernel
theorem dX12_slack_6 : decode cX12_slack 6 = .ok (.ifCond .ne 6, 3) := by decide +kernel
theorem dX12_slack_9 : decode cX12_slack 9 = .ok (.ldc 165, 2) := by decide +kernel
theorem dX12_slack_11 : decode cX12_slack 11 = .ok (.ireturn, 1) := by decide +kernel
theorem dX12_slack_12 : decode cX12_slack 12 = .ok (.iconst 0, 1) := by decide +kernel
theorem dX12_slack_13 : decode cX12_slack 13 = .ok (.istore_n 2, 1) := by decide +kernel
theorem dX12_slack_14 : decode cX12_slack 14 = .ok (.iconst 0, 1) := by decide +kernel
theorem dX12_slack_15 : decode cX12_slack 15 = .ok (.istore_n 3, 1) := by decide +kernel
theorem dX12_slack_16 : decode cX12_slack 16 = .ok (.iload_n 3, 1) := by decide +kernel
theorem dX12_slack_17 : decode cX12_slack 17 = .ok (.iload_n 1, 1) := by decide +kernel
theorem dX12_slack_18 : decode cX12_slack 18 = .ok (.if_icmp .gt 25, 3) := by decide +kernel
theorem dX12_slack_21 : decode cX12_slack 21 = .ok (.aload_n 0, 1) := by decide +kernel
theorem dX12_slack_22 : decode cX12_slack 22 = .ok (.iload_n 3, 1) := by decide +kernel
theorem dX12_slack_23 : decode cX12_slack 23 = .ok (.iconst (-1), 1) := by decide +kernel
theorem dX12_slack_24 : decode cX12_slack 24 = .ok (.invokevirtual 328, 3) := by decide +kernel
theorem dX12_slack_27 : decode cX12_slack 27 = .ok (.aload_n 0, 1) := by decide +kernel
theorem dX12_slack_28 : decode cX12_slack 28 = .ok (.iload_n 3, 1) := by decide +kernel
theorem dX12_slack_29 : decode cX12_slack 29 = .ok (.iconst 0, 1) := by decide +kernel
theorem dX12_slack_30 : decode cX12_slack 30 = .ok (.invokevirtual 331, 3) := by decide +kernel
theorem dX12_slack_33 : decode cX12_slack 33 = .ok (.isub, 1) := by decide +kernel
theorem dX12_slack_34 : decode cX12_slack 34 = .ok (.iload_n 2, 1) := by decide +kernel
theorem dX12_slack_35 : decode cX12_slack 35 = .ok (.isub, 1) := by decide +kernel
theorem dX12_slack_36 : decode cX12_slack 36 = .ok (.istore_n 2, 1) := by decide +kernel
theorem dX12_slack_37 : decode cX12_slack 37 = .ok (.iinc 3 1, 3) := by decide +kernel
theorem dX12_slack_40 : decode cX12_slack 40 = .ok (.goto (-24), 3) := by decide +kernel
theorem dX12_slack_43 : decode cX12_slack 43 = .ok (.iload_n 2, 1) := by decide +kernel
theorem dX12_slack_44 : decode cX12_slack 44 = .ok (.ireturn, 1) := by decide +kernel
theorem dX12_alternating_0 : decode cX12_alternating 0 = .ok (.aload_n 0, 1) := by decide +kernel
theorem dX12_alternating_1 : decode cX12_alternating 1 = .ok (.iload_n 1, 1) := by decide +kernel
theorem dX12_alternating_2 : decode cX12_alternating 2 = .ok (.invokevirtual 149, 3) := by decide +kernel
theorem dX12_alternating_5 : decode cX12_alternating 5 = .ok (.iconst 2, 1) := by decide +kernel
theorem dX12_alternating_6 : decode cX12_alternating 6 = .ok (.irem, 1) := by decide +kernel
theorem dX12_alternating_7 : decode cX12_alternating 7 = .ok (.ifCond .ne 7, 3) := by decide +kernel
theorem dX12_alternating_10 : decode cX12_alternating 10 = .ok (.iconst 1, 1) := by decide +kernel
theorem dX12_alternating_11 : decode cX12_alternating 11 = .ok (.goto 4, 3) := by decide +kernel
theorem dX12_alternating_14 : decode cX12_alternating 14 = .ok (.iconst (-1), 1) := by decide +kernel
theorem dX12_alternating_15 : decode cX12_alternating 15 = .ok (.ireturn, 1) := by decide +kernel
theorem dX12_level_0 : decode cX12_level 0 = .ok (.iload_n 1, 1) := by decide +kernel
theorem dX12_level_1 : decode cX12_level 1 = .ok (.ifCond .lt 12, 3) := by decide +kernel
theorem dX12_level_4 : decode cX12_level 4 = .ok (.iload_n 2, 1) := by decide +kernel
theorem dX12_level_5 : decode cX12_level 5 = .ok (.iconst 0, 1) := by decide +kernel
theorem dX12_level_6 : decode cX12_level 6 = .ok (.iconst 1, 1) := by decide +kernel
theorem dX12_level_7 : decode cX12_level 7 = .ok (.invokestatic 101, 3) := by decide +kernel
theorem dX12_level_10 : decode cX12_level 10 = .ok (.ifCond .ne 5, 3) := by decide +kernel
theorem dX12_level_13 : decode cX12_level 13 = .ok (.iconst (-1), 1) := by decide +kernel
theorem dX12_level_14 : decode cX12_level 14 = .ok (.ireturn, 1) := by decide +kernel
theorem dX12_level_15 : decode cX12_level 15 = .ok (.aload_n 0, 1) := by decide +kernel
theorem dX12_level_16 : decode cX12_level 16 = .ok (.invokevirtual 173, 3) := by decide +kernel
theorem dX12_level_19 : decode cX12_level 19 = .ok (.iconst 0, 1) := by decide +kernel
theorem dX12_level_20 : decode cX12_level 20 = .ok (.istore_n 3, 1) := by decide +kernel
theorem dX12_level_21 : decode cX12_level 21 = .ok (.iconst 0, 1) := by decide +kernel
theorem dX12_level_22 : decode cX12_level 22 = .ok (.istore 4, 2) := by decide +kernel
theorem dX12_level_24 : decode cX12_level 24 = .ok (.iload 4, 2) := by decide +kernel
theorem dX12_level_26 : decode cX12_level 26 = .ok (.aload_n 0, 1) := by decide +kernel
theorem dX12_level_27 : decode cX12_level 27 = .ok (.getfield 139, 3) := by decide +kernel
theorem dX12_level_30 : decode cX12_level 30 = .ok (.if_icmp .ge 46, 3) := by decide +kernel
theorem dX12_level_33 : decode cX12_level 33 = .ok (.aload_n 0, 1) := by decide +kernel
theorem dX12_level_34 : decode cX12_level 34 = .ok (.iload 4, 2) := by decide +kernel
theorem dX12_level_36 : decode cX12_level 36 = .ok (.invokevirtual 156, 3) := by decide +kernel
theorem dX12_level_39 : decode cX12_level 39 = .ok (.ifCond .eq 31, 3) := by decide +kernel
theorem dX12_level_42 : decode cX12_level 42 = .ok (.aload_n 0, 1) := by decide +kernel
theorem dX12_level_43 : decode cX12_level 43 = .ok (.getfield 34, 3) := by decide +kernel
theorem dX12_level_46 : decode cX12_level 46 = .ok (.iload 4, 2) := by decide +kernel
theorem dX12_level_48 : decode cX12_level 48 = .ok (.iaload, 1) := by decide +kernel
theorem dX12_level_49 : decode cX12_level 49 = .ok (.iload_n 1, 1) := by decide +kernel
theorem dX12_level_50 : decode cX12_level 50 = .ok (.if_icmp .gt 20, 3) := by decide +kernel
theorem dX12_level_53 : decode cX12_level 53 = .ok (.iload_n 3, 1) := by decide +kernel
theorem dX12_level_54 : decode cX12_level 54 = .ok (.iload_n 2, 1) := by decide +kernel
theorem dX12_level_55 : decode cX12_level 55 = .ok (.ifCond .ne 7, 3) := by decide +kernel
theorem dX12_level_58 : decode cX12_level 58 = .ok (.iconst 1, 1) := by decide +kernel
theorem dX12_level_59 : decode cX12_level 59 = .ok (.goto 9, 3) := by decide +kernel
theorem dX12_level_62 : decode cX12_level 62 = .ok (.aload_n 0, 1) := by decide +kernel
theorem dX12_level_63 : decode cX12_level 63 = .ok (.iload 4, 2) := by decide +kernel
theorem dX12_level_65 : decode cX12_level 65 = .ok (.invokevirtual 334, 3) := by decide +kernel
theorem dX12_level_68 : decode cX12_level 68 = .ok (.iadd, 1) := by decide +kernel
theorem dX12_level_69 : decode cX12_level 69 = .ok (.istore_n 3, 1) := by decide +kernel
theorem dX12_level_70 : decode cX12_level 70 = .ok (.iinc 4 1, 3) := by decide +kernel
theorem dX12_level_73 : decode cX12_level 73 = .ok (.goto (-49), 3) := by decide +kernel
theorem dX12_level_76 : decode cX12_level 76 = .ok (.iload_n 3, 1) := by decide +kernel
theorem dX12_level_77 : decode cX12_level 77 = .ok (.ireturn, 1) := by decide +kernel
theorem dX12_levelBetti_0 : decode cX12_levelBetti 0 = .ok (.iload_n 1, 1) := by decide +kernel
theorem dX12_levelBetti_1 : decode cX12_levelBetti 1 = .ok (.ifCond .lt 12, 3) := by decide +kernel
theorem dX12_levelBetti_4 : decode cX12_levelBetti 4 = .ok (.iload_n 2, 1) := by decide +kernel
theorem dX12_levelBetti_5 : decode cX12_levelBetti 5 = .ok (.iconst 0, 1) := by decide +kernel
theorem dX12_levelBetti_6 : decode cX12_levelBetti 6 = .ok (.iconst 4, 1) := by decide +kernel
theorem dX12_levelBetti_7 : decode cX12_levelBetti 7 = .ok (.invokestatic 101, 3) := by decide +kernel
theorem dX12_levelBetti_10 : decode cX12_levelBetti 10 = .ok (.ifCond .ne 5, 3) := by decide +kernel
theorem dX12_levelBetti_13 : decode cX12_levelBetti 13 = .ok (.iconst (-1), 1) := by decide +kernel
theorem dX12_levelBetti_14 : decode cX12_levelBetti 14 = .ok (.ireturn, 1) := by decide +kernel
theorem dX12_levelBetti_15 : decode cX12_levelBetti 15 = .ok (.aload_n 0, 1) := by decide +kernel
theorem dX12_levelBetti_16 : decode cX12_levelBetti 16 = .ok (.invokevirtual 173, 3) := by decide +kernel
theorem dX12_levelBetti_19 : decode cX12_levelBetti 19 = .ok (.iconst 0, 1) := by decide +kernel
theorem dX12_levelBetti_20 : decode cX12_levelBetti 20 = .ok (.istore_n 3, 1) := by decide +kernel
theorem dX12_levelBetti_21 : decode cX12_levelBetti 21 = .ok (.iload_n 3, 1) := by decide +kernel
theorem dX12_levelBetti_22 : decode cX12_levelBetti 22 = .ok (.aload_n 0, 1) := by decide +kernel
theorem dX12_levelBetti_23 : decode cX12_levelBetti 23 = .ok (.getfield 139, 3) := by decide +kernel
theorem dX12_levelBetti_26 : decode cX12_levelBetti 26 = .ok (.if_icmp .ge 113, 3) := by decide +kernel
theorem dX12_levelBetti_29 : decode cX12_levelBetti 29 = .ok (.aload_n 0, 1) := by decide +kernel
theorem dX12_levelBetti_30 : decode cX12_levelBetti 30 = .ok (.getfield 62, 3) := by decide +kernel
theorem dX12_levelBetti_33 : decode cX12_levelBetti 33 = .ok (.iload_n 3, 1) := by decide +kernel
theorem dX12_levelBetti_34 : decode cX12_levelBetti 34 = .ok (.iconst 0, 1) := by decide +kernel
theorem dX12_levelBetti_35 : decode cX12_levelBetti 35 = .ok (.bastore, 1) := by decide +kernel
theorem dX12_levelBetti_36 : decode cX12_levelBetti 36 = .ok (.iconst 0, 1) := by decide +kernel
theorem dX12_levelBetti_37 : decode cX12_levelBetti 37 = .ok (.istore 4, 2) := by decide +kernel
theorem dX12_levelBetti_39 : decode cX12_levelBetti 39 = .ok (.iload 4, 2) := by decide +kernel
theorem dX12_levelBetti_41 : decode cX12_levelBetti 41 = .ok (.aload_n 0, 1) := by decide +kernel
theorem dX12_levelBetti_42 : decode cX12_levelBetti 42 = .ok (.getfield 139, 3) := by decide +kernel
theorem dX12_levelBetti_45 : decode cX12_levelBetti 45 = .ok (.if_icmp .ge 88, 3) := by decide +kernel
theorem dX12_levelBetti_48 : decode cX12_levelBetti 48 = .ok (.aload_n 0, 1) := by decide +kernel
theorem dX12_levelBetti_49 : decode cX12_levelBetti 49 = .ok (.iload 4, 2) := by decide +kernel
theorem dX12_levelBetti_51 : decode cX12_levelBetti 51 = .ok (.invokevirtual 156, 3) := by decide +kernel
theorem dX12_levelBetti_54 : decode cX12_levelBetti 54 = .ok (.ifCond .eq 37, 3) := by decide +kernel
theorem dX12_levelBetti_57 : decode cX12_levelBetti 57 = .ok (.aload_n 0, 1) := by decide +kernel
theorem dX12_levelBetti_58 : decode cX12_levelBetti 58 = .ok (.getfield 34, 3) := by decide +kernel
theorem dX12_levelBetti_61 : decode cX12_levelBetti 61 = .ok (.iload 4, 2) := by decide +kernel
theorem dX12_levelBetti_63 : decode cX12_levelBetti 63 = .ok (.iaload, 1) := by decide +kernel
theorem dX12_levelBetti_64 : decode cX12_levelBetti 64 = .ok (.iload_n 1, 1) := by decide +kernel
theorem dX12_levelBetti_65 : decode cX12_levelBetti 65 = .ok (.if_icmp .gt 26, 3) := by decide +kernel
theorem dX12_levelBetti_68 : decode cX12_levelBetti 68 = .ok (.aload_n 0, 1) := by decide +kernel
theorem dX12_levelBetti_69 : decode cX12_levelBetti 69 = .ok (.getfield 21, 3) := by decide +kernel
theorem dX12_levelBetti_72 : decode cX12_levelBetti 72 = .ok (.iload_n 3, 1) := by decide +kernel
theorem dX12_levelBetti_73 : decode cX12_levelBetti 73 = .ok (.iaload, 1) := by decide +kernel
theorem dX12_levelBetti_74 : decode cX12_levelBetti 74 = .ok (.aload_n 0, 1) := by decide +kernel
theorem dX12_levelBetti_75 : decode cX12_levelBetti 75 = .ok (.getfield 21, 3) := by decide +kernel
theorem dX12_levelBetti_78 : decode cX12_levelBetti 78 = .ok (.iload 4, 2) := by decide +kernel
theorem dX12_levelBetti_80 : decode cX12_levelBetti 80 = .ok (.iaload, 1) := by decide +kernel
theorem dX12_levelBetti_81 : decode cX12_levelBetti 81 = .ok (.iconst (-1), 1) := by decide +kernel
theorem dX12_levelBetti_82 : decode cX12_levelBetti 82 = .ok (.ixor, 1) := by decide +kernel
theorem dX12_levelBetti_83 : decode cX12_levelBetti 83 = .ok (.iand, 1) := by decide +kernel
theorem dX12_levelBetti_84 : decode cX12_levelBetti 84 = .ok (.ifCond .ne 7, 3) := by decide +kernel
theorem dX12_levelBetti_87 : decode cX12_levelBetti 87 = .ok (.iconst 1, 1) := by decide +kernel
theorem dX12_levelBetti_88 : decode cX12_levelBetti 88 = .ok (.goto 4, 3) := by decide +kernel
theorem dX12_levelBetti_91 : decode cX12_levelBetti 91 = .ok (.iconst 0, 1) := by decide +kernel
theorem dX12_levelBetti_92 : decode cX12_levelBetti 92 = .ok (.istore 5, 2) := by decide +kernel
theorem dX12_levelBetti_94 : decode cX12_levelBetti 94 = .ok (.aload_n 0, 1) := by decide +kernel
theorem dX12_levelBetti_95 : decode cX12_levelBetti 95 = .ok (.getfield 62, 3) := by decide +kernel
theorem dX12_levelBetti_98 : decode cX12_levelBetti 98 = .ok (.iload_n 3, 1) := by decide +kernel
theorem dX12_levelBetti_99 : decode cX12_levelBetti 99 = .ok (.aload_n 0, 1) := by decide +kernel
theorem dX12_levelBetti_100 : decode cX12_levelBetti 100 = .ok (.getfield 62, 3) := by decide +kernel
theorem dX12_levelBetti_103 : decode cX12_levelBetti 103 = .ok (.iload_n 3, 1) := by decide +kernel
theorem dX12_levelBetti_104 : decode cX12_levelBetti 104 = .ok (.baload, 1) := by decide +kernel
theorem dX12_levelBetti_105 : decode cX12_levelBetti 105 = .ok (.ifCond .ne 16, 3) := by decide +kernel
theorem dX12_levelBetti_108 : decode cX12_levelBetti 108 = .ok (.iload 5, 2) := by decide +kernel
theorem dX12_levelBetti_110 : decode cX12_levelBetti 110 = .ok (.ifCond .eq 15, 3) := by decide +kernel
theorem dX12_levelBetti_113 : decode cX12_levelBetti 113 = .ok (.aload_n 0, 1) := by decide +kernel
theorem dX12_levelBetti_114 : decode cX12_levelBetti 114 = .ok (.iload_n 3, 1) := by decide +kernel
theorem dX12_levelBetti_115 : decode cX12_levelBetti 115 = .ok (.invokevirtual 156, 3) := by decide +kernel
theorem dX12_levelBetti_118 : decode cX12_levelBetti 118 = .ok (.ifCond .eq 7, 3) := by decide +kernel
theorem dX12_levelBetti_121 : decode cX12_levelBetti 121 = .ok (.iconst 1, 1) := by decide +kernel
theorem dX12_levelBetti_122 : decode cX12_levelBetti 122 = .ok (.goto 4, 3) := by decide +kernel
theorem dX12_levelBetti_125 : decode cX12_levelBetti 125 = .ok (.iconst 0, 1) := by decide +kernel
theorem dX12_levelBetti_126 : decode cX12_levelBetti 126 = .ok (.bastore, 1) := by decide +kernel
theorem dX12_levelBetti_127 : decode cX12_levelBetti 127 = .ok (.iinc 4 1, 3) := by decide +kernel
theorem dX12_levelBetti_130 : decode cX12_levelBetti 130 = .ok (.goto (-91), 3) := by decide +kernel
theorem dX12_levelBetti_133 : decode cX12_levelBetti 133 = .ok (.iinc 3 1, 3) := by decide +kernel
theorem dX12_levelBetti_136 : decode cX12_levelBetti 136 = .ok (.goto (-115), 3) := by decide +kernel
theorem dX12_levelBetti_139 : decode cX12_levelBetti 139 = .ok (.aload_n 0, 1) := by decide +kernel
theorem dX12_levelBetti_140 : decode cX12_levelBetti 140 = .ok (.iload_n 2, 1) := by decide +kernel
theorem dX12_levelBetti_141 : decode cX12_levelBetti 141 = .ok (.iconst 0, 1) := by decide +kernel
theorem dX12_levelBetti_142 : decode cX12_levelBetti 142 = .ok (.invokevirtual 323, 3) := by decide +kernel
theorem dX12_levelBetti_145 : decode cX12_levelBetti 145 = .ok (.ireturn, 1) := by decide +kernel
theorem dX12_link_0 : decode cX12_link 0 = .ok (.aload_n 0, 1) := by decide +kernel
theorem dX12_link_1 : decode cX12_link 1 = .ok (.iload_n 1, 1) := by decide +kernel
theorem dX12_link_2 : decode cX12_link 2 = .ok (.invokevirtual 156, 3) := by decide +kernel
theorem dX12_link_5 : decode cX12_link 5 = .ok (.ifCond .eq 12, 3) := by decide +kernel
theorem dX12_link_8 : decode cX12_link 8 = .ok (.iload_n 2, 1) := by decide +kernel
theorem dX12_link_9 : decode cX12_link 9 = .ok (.iconst 0, 1) := by decide +kernel
theorem dX12_link_10 : decode cX12_link 10 = .ok (.iconst 1, 1) := by decide +kernel
theorem dX12_link_11 : decode cX12_link 11 = .ok (.invokestatic 101, 3) := by decide +kernel
theorem dX12_link_14 : decode cX12_link 14 = .ok (.ifCond .ne 6, 3) := by decide +kernel
theorem dX12_link_17 : decode cX12_link 17 = .ok (.ldc 165, 2) := by decide +kernel
theorem dX12_link_19 : decode cX12_link 19 = .ok (.ireturn, 1) := by decide +kernel
theorem dX12_link_20 : decode cX12_link 20 = .ok (.iconst 0, 1) := by decide +kernel
theorem dX12_link_21 : decode cX12_link 21 = .ok (.istore_n 3, 1) := by decide +kernel
theorem dX12_link_22 : decode cX12_link 22 = .ok (.iconst 0, 1) := by decide +kernel
theorem dX12_link_23 : decode cX12_link 23 = .ok (.istore 4, 2) := by decide +kernel
theorem dX12_link_25 : decode cX12_link 25 = .ok (.iload 4, 2) := by decide +kernel
theorem dX12_link_27 : decode cX12_link 27 = .ok (.aload_n 0, 1) := by decide +kernel
theorem dX12_link_28 : decode cX12_link 28 = .ok (.getfield 139, 3) := by decide +kernel
theorem dX12_link_31 : decode cX12_link 31 = .ok (.if_icmp .ge 91, 3) := by decide +kernel
theorem dX12_link_34 : decode cX12_link 34 = .ok (.aload_n 0, 1) := by decide +kernel
theorem dX12_link_35 : decode cX12_link 35 = .ok (.iload 4, 2) := by decide +kernel
theorem dX12_link_37 : decode cX12_link 37 = .ok (.invokevirtual 156, 3) := by decide +kernel
theorem dX12_link_40 : decode cX12_link 40 = .ok (.ifCond .eq 76, 3) := by decide +kernel
theorem dX12_link_43 : decode cX12_link 43 = .ok (.aload_n 0, 1) := by decide +kernel
theorem dX12_link_44 : decode cX12_link 44 = .ok (.getfield 21, 3) := by decide +kernel
theorem dX12_link_47 : decode cX12_link 47 = .ok (.iload 4, 2) := by decide +kernel
theorem dX12_link_49 : decode cX12_link 49 = .ok (.iaload, 1) := by decide +kernel
theorem dX12_link_50 : decode cX12_link 50 = .ok (.aload_n 0, 1) := by decide +kernel
theorem dX12_link_51 : decode cX12_link 51 = .ok (.getfield 21, 3) := by decide +kernel
theorem dX12_link_54 : decode cX12_link 54 = .ok (.iload_n 1, 1) := by decide +kernel
theorem dX12_link_55 : decode cX12_link 55 = .ok (.iaload, 1) := by decide +kernel
theorem dX12_link_56 : decode cX12_link 56 = .ok (.iand, 1) := by decide +kernel
theorem dX12_link_57 : decode cX12_link 57 = .ok (.ifCond .eq 6, 3) := by decide +kernel
theorem dX12_link_60 : decode cX12_link 60 = .ok (.goto 56, 3) := by decide +kernel
theorem dX12_link_63 : decode cX12_link 63 = .ok (.aload_n 0, 1) := by decide +kernel
theorem dX12_link_64 : decode cX12_link 64 = .ok (.getfield 25, 3) := by decide +kernel
theorem dX12_link_67 : decode cX12_link 67 = .ok (.aload_n 0, 1) := by decide +kernel
theorem dX12_link_68 : decode cX12_link 68 = .ok (.getfield 21, 3) := by decide +kernel
theorem dX12_link_71 : decode cX12_link 71 = .ok (.iload 4, 2) := by decide +kernel
theorem dX12_link_73 : decode cX12_link 73 = .ok (.iaload, 1) := by decide +kernel
theorem dX12_link_74 : decode cX12_link 74 = .ok (.aload_n 0, 1) := by decide +kernel
theorem dX12_link_75 : decode cX12_link 75 = .ok (.getfield 21, 3) := by decide +kernel
theorem dX12_link_78 : decode cX12_link 78 = .ok (.iload_n 1, 1) := by decide +kernel
theorem dX12_link_79 : decode cX12_link 79 = .ok (.iaload, 1) := by decide +kernel
theorem dX12_link_80 : decode cX12_link 80 = .ok (.ior, 1) := by decide +kernel
theorem dX12_link_81 : decode cX12_link 81 = .ok (.iaload, 1) := by decide +kernel
theorem dX12_link_82 : decode cX12_link 82 = .ok (.istore 5, 2) := by decide +kernel
theorem dX12_link_84 : decode cX12_link 84 = .ok (.iload 5, 2) := by decide +kernel
theorem dX12_link_86 : decode cX12_link 86 = .ok (.iconst (-1), 1) := by decide +kernel
theorem dX12_link_87 : decode cX12_link 87 = .ok (.if_icmp .eq 29, 3) := by decide +kernel
theorem dX12_link_90 : decode cX12_link 90 = .ok (.aload_n 0, 1) := by decide +kernel
theorem dX12_link_91 : decode cX12_link 91 = .ok (.iload 5, 2) := by decide +kernel
theorem dX12_link_93 : decode cX12_link 93 = .ok (.invokevirtual 156, 3) := by decide +kernel
theorem dX12_link_96 : decode cX12_link 96 = .ok (.ifCond .eq 20, 3) := by decide +kernel
theorem dX12_link_99 : decode cX12_link 99 = .ok (.iload_n 3, 1) := by decide +kernel
theorem dX12_link_100 : decode cX12_link 100 = .ok (.iload_n 2, 1) := by decide +kernel
theorem dX12_link_101 : decode cX12_link 101 = .ok (.ifCond .ne 7, 3) := by decide +kernel
theorem dX12_link_104 : decode cX12_link 104 = .ok (.iconst 1, 1) := by decide +kernel
theorem dX12_link_105 : decode cX12_link 105 = .ok (.goto 9, 3) := by decide +kernel
theorem dX12_link_108 : decode cX12_link 108 = .ok (.aload_n 0, 1) := by decide +kernel
theorem dX12_link_109 : decode cX12_link 109 = .ok (.iload 4, 2) := by decide +kernel
theorem dX12_link_111 : decode cX12_link 111 = .ok (.invokevirtual 334, 3) := by decide +kernel
theorem dX12_link_114 : decode cX12_link 114 = .ok (.iadd, 1) := by decide +kernel
theorem dX12_link_115 : decode cX12_link 115 = .ok (.istore_n 3, 1) := by decide +kernel
theorem dX12_link_116 : decode cX12_link 116 = .ok (.iinc 4 1, 3) := by decide +kernel
theorem dX12_link_119 : decode cX12_link 119 = .ok (.goto (-94), 3) := by decide +kernel
theorem dX12_link_122 : decode cX12_link 122 = .ok (.iload_n 3, 1) := by decide +kernel
theorem dX12_link_123 : decode cX12_link 123 = .ok (.ireturn, 1) := by decide +kernel
theorem dX12_room_0 : decode cX12_room 0 = .ok (.iload_n 1, 1) := by decide +kernel
theorem dX12_room_1 : decode cX12_room 1 = .ok (.iconst 0, 1) := by decide +kernel
theorem dX12_room_2 : decode cX12_room 2 = .ok (.iconst 4, 1) := by decide +kernel
theorem dX12_room_3 : decode cX12_room 3 = .ok (.invokestatic 101, 3) := by decide +kernel
theorem dX12_room_6 : decode cX12_room 6 = .ok (.ifCond .ne 5, 3) := by decide +kernel
theorem dX12_room_9 : decode cX12_room 9 = .ok (.iconst (-1), 1) := by decide +kernel
theorem dX12_room_10 : decode cX12_room 10 = .ok (.ireturn, 1) := by decide +kernel
theorem dX12_room_11 : decode cX12_room 11 = .ok (.iconst 0, 1) := by decide +kernel
theorem dX12_room_12 : decode cX12_room 12 = .ok (.istore_n 2, 1) := by decide +kernel
theorem dX12_room_13 : decode cX12_room 13 = .ok (.iconst 0, 1) := by decide +kernel
theorem dX12_room_14 : decode cX12_room 14 = .ok (.istore_n 3, 1) := by decide +kernel
theorem dX12_room_15 : decode cX12_room 15 = .ok (.iload_n 3, 1) := by decide +kernel
theorem dX12_room_16 : decode cX12_room 16 = .ok (.aload_n 0, 1) := by decide +kernel
theorem dX12_room_17 : decode cX12_room 17 = .ok (.getfield 139, 3) := by decide +kernel
theorem dX12_room_20 : decode cX12_room 20 = .ok (.if_icmp .ge 74, 3) := by decide +kernel
theorem dX12_room_23 : decode cX12_room 23 = .ok (.iconst 0, 1) := by decide +kernel
theorem dX12_room_24 : decode cX12_room 24 = .ok (.istore 4, 2) := by decide +kernel
theorem dX12_room_26 : decode cX12_room 26 = .ok (.iload 4, 2) := by decide +kernel
theorem dX12_room_28 : decode cX12_room 28 = .ok (.aload_n 0, 1) := by decide +kernel
theorem dX12_room_29 : decode cX12_room 29 = .ok (.getfield 139, 3) := by decide +kernel
theorem dX12_room_32 : decode cX12_room 32 = .ok (.if_icmp .ge 56, 3) := by decide +kernel
theorem dX12_room_35 : decode cX12_room 35 = .ok (.aload_n 0, 1) := by decide +kernel
theorem dX12_room_36 : decode cX12_room 36 = .ok (.iload_n 3, 1) := by decide +kernel
theorem dX12_room_37 : decode cX12_room 37 = .ok (.invokevirtual 149, 3) := by decide +kernel
theorem dX12_room_40 : decode cX12_room 40 = .ok (.iload_n 1, 1) := by decide +kernel
theorem dX12_room_41 : decode cX12_room 41 = .ok (.if_icmp .ne 41, 3) := by decide +kernel
theorem dX12_room_44 : decode cX12_room 44 = .ok (.aload_n 0, 1) := by decide +kernel
theorem dX12_room_45 : decode cX12_room 45 = .ok (.iload_n 3, 1) := by decide +kernel
theorem dX12_room_46 : decode cX12_room 46 = .ok (.iload 4, 2) := by decide +kernel
theorem dX12_room_48 : decode cX12_room 48 = .ok (.invokevirtual 162, 3) := by decide +kernel
theorem dX12_room_51 : decode cX12_room 51 = .ok (.ifCond .eq 31, 3) := by decide +kernel
theorem dX12_room_54 : decode cX12_room 54 = .ok (.aload_n 0, 1) := by decide +kernel
theorem dX12_room_55 : decode cX12_room 55 = .ok (.iload_n 3, 1) := by decide +kernel
theorem dX12_room_56 : decode cX12_room 56 = .ok (.iload 4, 2) := by decide +kernel
theorem dX12_room_58 : decode cX12_room 58 = .ok (.invokevirtual 185, 3) := by decide +kernel
theorem dX12_room_61 : decode cX12_room 61 = .ok (.ifCond .eq 21, 3) := by decide +kernel
theorem dX12_room_64 : decode cX12_room 64 = .ok (.aload_n 0, 1) := by decide +kernel
theorem dX12_room_65 : decode cX12_room 65 = .ok (.iload_n 3, 1) := by decide +kernel
theorem dX12_room_66 : decode cX12_room 66 = .ok (.iload 4, 2) := by decide +kernel
theorem dX12_room_68 : decode cX12_room 68 = .ok (.invokevirtual 188, 3) := by decide +kernel
theorem dX12_room_71 : decode cX12_room 71 = .ok (.ifCond .eq 11, 3) := by decide +kernel
theorem dX12_room_74 : decode cX12_room 74 = .ok (.aload_n 0, 1) := by decide +kernel
theorem dX12_room_75 : decode cX12_room 75 = .ok (.iload_n 3, 1) := by decide +kernel
theorem dX12_room_76 : decode cX12_room 76 = .ok (.invokevirtual 191, 3) := by decide +kernel
theorem dX12_room_79 : decode cX12_room 79 = .ok (.iinc 2 1, 3) := by decide +kernel
theorem dX12_room_82 : decode cX12_room 82 = .ok (.iinc 4 1, 3) := by decide +kernel
theorem dX12_room_85 : decode cX12_room 85 = .ok (.goto (-59), 3) := by decide +kernel
theorem dX12_room_88 : decode cX12_room 88 = .ok (.iinc 3 1, 3) := by decide +kernel
theorem dX12_room_91 : decode cX12_room 91 = .ok (.goto (-76), 3) := by decide +kernel
theorem dX12_room_94 : decode cX12_room 94 = .ok (.iload_n 2, 1) := by decide +kernel
theorem dX12_room_95 : decode cX12_room 95 = .ok (.ireturn, 1) := by decide +kernel
theorem dX12_partsMany_0 : decode cX12_partsMany 0 = .ok (.iconst 0, 1) := by decide +kernel
theorem dX12_partsMany_1 : decode cX12_partsMany 1 = .ok (.istore_n 1, 1) := by decide +kernel
theorem dX12_partsMany_2 : decode cX12_partsMany 2 = .ok (.iload_n 1, 1) := by decide +kernel
theorem dX12_partsMany_3 : decode cX12_partsMany 3 = .ok (.aload_n 0, 1) := by decide +kernel
theorem dX12_partsMany_4 : decode cX12_partsMany 4 = .ok (.getfield 139, 3) := by decide +kernel
theorem dX12_partsMany_7 : decode cX12_partsMany 7 = .ok (.if_icmp .ge 16, 3) := by decide +kernel
theorem dX12_partsMany_10 : decode cX12_partsMany 10 = .ok (.aload_n 0, 1) := by decide +kernel
theorem dX12_partsMany_11 : decode cX12_partsMany 11 = .ok (.getfield 37, 3) := by decide +kernel
theorem dX12_partsMany_14 : decode cX12_partsMany 14 = .ok (.iload_n 1, 1) := by decide +kernel
theorem dX12_partsMany_15 : decode cX12_partsMany 15 = .ok (.iload_n 1, 1) := by decide +kernel
theorem dX12_partsMany_16 : decode cX12_partsMany 16 = .ok (.iastore, 1) := by decide +kernel
theorem dX12_partsMany_17 : decode cX12_partsMany 17 = .ok (.iinc 1 1, 3) := by decide +kernel
theorem dX12_partsMany_20 : decode cX12_partsMany 20 = .ok (.goto (-18), 3) := by decide +kernel
theorem dX12_partsMany_23 : decode cX12_partsMany 23 = .ok (.iconst 1, 1) := by decide +kernel
theorem dX12_partsMany_24 : decode cX12_partsMany 24 = .ok (.istore_n 1, 1) := by decide +kernel
theorem dX12_partsMany_25 : decode cX12_partsMany 25 = .ok (.iload_n 1, 1) := by decide +kernel
theorem dX12_partsMany_26 : decode cX12_partsMany 26 = .ok (.ifCond .eq 99, 3) := by decide +kernel
theorem dX12_partsMany_29 : decode cX12_partsMany 29 = .ok (.iconst 0, 1) := by decide +kernel
theorem dX12_partsMany_30 : decode cX12_partsMany 30 = .ok (.istore_n 1, 1) := by decide +kernel
theorem dX12_partsMany_31 : decode cX12_partsMany 31 = .ok (.iconst 0, 1) := by decide +kernel
theorem dX12_partsMany_32 : decode cX12_partsMany 32 = .ok (.istore_n 2, 1) := by decide +kernel
theorem dX12_partsMany_33 : decode cX12_partsMany 33 = .ok (.iload_n 2, 1) := by decide +kernel
theorem dX12_partsMany_34 : decode cX12_partsMany 34 = .ok (.aload_n 0, 1) := by decide +kernel
theorem dX12_partsMany_35 : decode cX12_partsMany 35 = .ok (.getfield 139, 3) := by decide +kernel
theorem dX12_partsMany_38 : decode cX12_partsMany 38 = .ok (.if_icmp .ge 84, 3) := by decide +kernel
theorem dX12_partsMany_41 : decode cX12_partsMany 41 = .ok (.iconst 0, 1) := by decide +kernel
theorem dX12_partsMany_42 : decode cX12_partsMany 42 = .ok (.istore_n 3, 1) := by decide +kernel
theorem dX12_partsMany_43 : decode cX12_partsMany 43 = .ok (.iload_n 3, 1) := by decide +kernel
theorem dX12_partsMany_44 : decode cX12_partsMany 44 = .ok (.aload_n 0, 1) := by decide +kernel
theorem dX12_partsMany_45 : decode cX12_partsMany 45 = .ok (.getfield 139, 3) := by decide +kernel
theorem dX12_partsMany_48 : decode cX12_partsMany 48 = .ok (.if_icmp .ge 68, 3) := by decide +kernel
theorem dX12_partsMany_51 : decode cX12_partsMany 51 = .ok (.aload_n 0, 1) := by decide +kernel
theorem dX12_partsMany_52 : decode cX12_partsMany 52 = .ok (.iload_n 2, 1) := by decide +kernel
theorem dX12_partsMany_53 : decode cX12_partsMany 53 = .ok (.iload_n 3, 1) := by decide +kernel
theorem dX12_partsMany_54 : decode cX12_partsMany 54 = .ok (.invokevirtual 162, 3) := by decide +kernel
theorem dX12_partsMany_57 : decode cX12_partsMany 57 = .ok (.ifCond .eq 53, 3) := by decide +kernel
theorem dX12_partsMany_60 : decode cX12_partsMany 60 = .ok (.aload_n 0, 1) := by decide +kernel
theorem dX12_partsMany_61 : decode cX12_partsMany 61 = .ok (.getfield 37, 3) := by decide +kernel
theorem dX12_partsMany_64 : decode cX12_partsMany 64 = .ok (.iload_n 2, 1) := by decide +kernel
theorem dX12_partsMany_65 : decode cX12_partsMany 65 = .ok (.iaload, 1) := by decide +kernel
theorem dX12_partsMany_66 : decode cX12_partsMany 66 = .ok (.aload_n 0, 1) := by decide +kernel
theorem dX12_partsMany_67 : decode cX12_partsMany 67 = .ok (.getfield 37, 3) := by decide +kernel
theorem dX12_partsMany_70 : decode cX12_partsMany 70 = .ok (.iload_n 3, 1) := by decide +kernel
theorem dX12_partsMany_71 : decode cX12_partsMany 71 = .ok (.iaload, 1) := by decide +kernel
theorem dX12_partsMany_72 : decode cX12_partsMany 72 = .ok (.if_icmp .eq 38, 3) := by decide +kernel
theorem dX12_partsMany_75 : decode cX12_partsMany 75 = .ok (.aload_n 0, 1) := by decide +kernel
theorem dX12_partsMany_76 : decode cX12_partsMany 76 = .ok (.getfield 37, 3) := by decide +kernel
theorem dX12_partsMany_79 : decode cX12_partsMany 79 = .ok (.iload_n 2, 1) := by decide +kernel
theorem dX12_partsMany_80 : decode cX12_partsMany 80 = .ok (.iaload, 1) := by decide +kernel
theorem dX12_partsMany_81 : decode cX12_partsMany 81 = .ok (.aload_n 0, 1) := by decide +kernel
theorem dX12_partsMany_82 : decode cX12_partsMany 82 = .ok (.getfield 37, 3) := by decide +kernel
theorem dX12_partsMany_85 : decode cX12_partsMany 85 = .ok (.iload_n 3, 1) := by decide +kernel
theorem dX12_partsMany_86 : decode cX12_partsMany 86 = .ok (.iaload, 1) := by decide +kernel
theorem dX12_partsMany_87 : decode cX12_partsMany 87 = .ok (.invokestatic 337, 3) := by decide +kernel
theorem dX12_partsMany_90 : decode cX12_partsMany 90 = .ok (.istore 4, 2) := by decide +kernel
theorem dX12_partsMany_92 : decode cX12_partsMany 92 = .ok (.aload_n 0, 1) := by decide +kernel
theorem dX12_partsMany_93 : decode cX12_partsMany 93 = .ok (.getfield 37, 3) := by decide +kernel
theorem dX12_partsMany_96 : decode cX12_partsMany 96 = .ok (.iload_n 2, 1) := by decide +kernel
theorem dX12_partsMany_97 : decode cX12_partsMany 97 = .ok (.iload 4, 2) := by decide +kernel
theorem dX12_partsMany_99 : decode cX12_partsMany 99 = .ok (.iastore, 1) := by decide +kernel
theorem dX12_partsMany_100 : decode cX12_partsMany 100 = .ok (.aload_n 0, 1) := by decide +kernel
theorem dX12_partsMany_101 : decode cX12_partsMany 101 = .ok (.getfield 37, 3) := by decide +kernel
theorem dX12_partsMany_104 : decode cX12_partsMany 104 = .ok (.iload_n 3, 1) := by decide +kernel
theorem dX12_partsMany_105 : decode cX12_partsMany 105 = .ok (.iload 4, 2) := by decide +kernel
theorem dX12_partsMany_107 : decode cX12_partsMany 107 = .ok (.iastore, 1) := by decide +kernel
theorem dX12_partsMany_108 : decode cX12_partsMany 108 = .ok (.iconst 1, 1) := by decide +kernel
theorem dX12_partsMany_109 : decode cX12_partsMany 109 = .ok (.istore_n 1, 1) := by decide +kernel
theorem dX12_partsMany_110 : decode cX12_partsMany 110 = .ok (.iinc 3 1, 3) := by decide +kernel
theorem dX12_partsMany_113 : decode cX12_partsMany 113 = .ok (.goto (-70), 3) := by decide +kernel
theorem dX12_partsMany_116 : decode cX12_partsMany 116 = .ok (.iinc 2 1, 3) := by decide +kernel
theorem dX12_partsMany_119 : decode cX12_partsMany 119 = .ok (.goto (-86), 3) := by decide +kernel
theorem dX12_partsMany_122 : decode cX12_partsMany 122 = .ok (.goto (-97), 3) := by decide +kernel
theorem dX12_partsMany_125 : decode cX12_partsMany 125 = .ok (.iconst 0, 1) := by decide +kernel
theorem dX12_partsMany_126 : decode cX12_partsMany 126 = .ok (.istore_n 2, 1) := by decide +kernel
theorem dX12_partsMany_127 : decode cX12_partsMany 127 = .ok (.iconst 0, 1) := by decide +kernel
theorem dX12_partsMany_128 : decode cX12_partsMany 128 = .ok (.istore_n 3, 1) := by decide +kernel
theorem dX12_partsMany_129 : decode cX12_partsMany 129 = .ok (.iload_n 3, 1) := by decide +kernel
theorem dX12_partsMany_130 : decode cX12_partsMany 130 = .ok (.aload_n 0, 1) := by decide +kernel
theorem dX12_partsMany_131 : decode cX12_partsMany 131 = .ok (.getfield 139, 3) := by decide +kernel
theorem dX12_partsMany_134 : decode cX12_partsMany 134 = .ok (.if_icmp .ge 38, 3) := by decide +kernel
theorem dX12_partsMany_137 : decode cX12_partsMany 137 = .ok (.iload_n 2, 1) := by decide +kernel
theorem dX12_partsMany_138 : decode cX12_partsMany 138 = .ok (.aload_n 0, 1) := by decide +kernel
theorem dX12_partsMany_139 : decode cX12_partsMany 139 = .ok (.iload_n 3, 1) := by decide +kernel
theorem dX12_partsMany_140 : decode cX12_partsMany 140 = .ok (.invokevirtual 156, 3) := by decide +kernel
theorem dX12_partsMany_143 : decode cX12_partsMany 143 = .ok (.ifCond .eq 17, 3) := by decide +kernel
theorem dX12_partsMany_146 : decode cX12_partsMany 146 = .ok (.aload_n 0, 1) := by decide +kernel
theorem dX12_partsMany_147 : decode cX12_partsMany 147 = .ok (.getfield 37, 3) := by decide +kernel
theorem dX12_partsMany_150 : decode cX12_partsMany 150 = .ok (.iload_n 3, 1) := by decide +kernel
theorem dX12_partsMany_151 : decode cX12_partsMany 151 = .ok (.iaload, 1) := by decide +kernel
theorem dX12_partsMany_152 : decode cX12_partsMany 152 = .ok (.iload_n 3, 1) := by decide +kernel
theorem dX12_partsMany_153 : decode cX12_partsMany 153 = .ok (.if_icmp .ne 7, 3) := by decide +kernel
theorem dX12_partsMany_156 : decode cX12_partsMany 156 = .ok (.iconst 1, 1) := by decide +kernel
theorem dX12_partsMany_157 : decode cX12_partsMany 157 = .ok (.goto 4, 3) := by decide +kernel
theorem dX12_partsMany_160 : decode cX12_partsMany 160 = .ok (.iconst 0, 1) := by decide +kernel
theorem dX12_partsMany_161 : decode cX12_partsMany 161 = .ok (.invokestatic 105, 3) := by decide +kernel
theorem dX12_partsMany_164 : decode cX12_partsMany 164 = .ok (.iadd, 1) := by decide +kernel
theorem dX12_partsMany_165 : decode cX12_partsMany 165 = .ok (.istore_n 2, 1) := by decide +kernel
theorem dX12_partsMany_166 : decode cX12_partsMany 166 = .ok (.iinc 3 1, 3) := by decide +kernel
theorem dX12_partsMany_169 : decode cX12_partsMany 169 = .ok (.goto (-40), 3) := by decide +kernel
theorem dX12_partsMany_172 : decode cX12_partsMany 172 = .ok (.iload_n 2, 1) := by decide +kernel
theorem dX12_partsMany_173 : decode cX12_partsMany 173 = .ok (.ireturn, 1) := by decide +kernel
theorem dX12_draws_0 : decode cX12_draws 0 = .ok (.iload_n 1, 1) := by decide +kernel
theorem dX12_draws_1 : decode cX12_draws 1 = .ok (.ifCond .ge 5, 3) := by decide +kernel
theorem dX12_draws_4 : decode cX12_draws 4 = .ok (.iconst (-1), 1) := by decide +kernel
theorem dX12_draws_5 : decode cX12_draws 5 = .ok (.ireturn, 1) := by decide +kernel
theorem dX12_draws_6 : decode cX12_draws 6 = .ok (.aload_n 0, 1) := by decide +kernel
theorem dX12_draws_7 : decode cX12_draws 7 = .ok (.getfield 340, 3) := by decide +kernel
theorem dX12_draws_10 : decode cX12_draws 10 = .ok (.istore_n 2, 1) := by decide +kernel
theorem dX12_draws_11 : decode cX12_draws 11 = .ok (.aload_n 0, 1) := by decide +kernel
theorem dX12_draws_12 : decode cX12_draws 12 = .ok (.iload_n 1, 1) := by decide +kernel
theorem dX12_draws_13 : decode cX12_draws 13 = .ok (.putfield 340, 3) := by decide +kernel
theorem dX12_draws_16 : decode cX12_draws 16 = .ok (.iload_n 2, 1) := by decide +kernel
theorem dX12_draws_17 : decode cX12_draws 17 = .ok (.ireturn, 1) := by decide +kernel
theorem dX12_drawnOf_0 : decode cX12_drawnOf 0 = .ok (.aload_n 0, 1) := by decide +kernel
theorem dX12_drawnOf_1 : decode cX12_drawnOf 1 = .ok (.aload_n 0, 1) := by decide +kernel
theorem dX12_drawnOf_2 : decode cX12_drawnOf 2 = .ok (.getfield 340, 3) := by decide +kernel
theorem dX12_drawnOf_5 : decode cX12_drawnOf 5 = .ok (.i2l, 1) := by decide +kernel
theorem dX12_drawnOf_6 : decode cX12_drawnOf 6 = .ok (.ldc2_w 343, 3) := by decide +kernel
theorem dX12_drawnOf_9 : decode cX12_drawnOf 9 = .ok (.lmul, 1) := by decide +kernel
theorem dX12_drawnOf_10 : decode cX12_drawnOf 10 = .ok (.ldc2_w 345, 3) := by decide +kernel
theorem dX12_drawnOf_13 : decode cX12_drawnOf 13 = .ok (.ladd, 1) := by decide +kernel
theorem dX12_drawnOf_14 : decode cX12_drawnOf 14 = .ok (.ldc2_w 347, 3) := by decide +kernel
theorem dX12_drawnOf_17 : decode cX12_drawnOf 17 = .ok (.lrem, 1) := by decide +kernel
theorem dX12_drawnOf_18 : decode cX12_drawnOf 18 = .ok (.l2i, 1) := by decide +kernel
theorem dX12_drawnOf_19 : decode cX12_drawnOf 19 = .ok (.putfield 340, 3) := by decide +kernel
theorem dX12_drawnOf_22 : decode cX12_drawnOf 22 = .ok (.aload_n 0, 1) := by decide +kernel
theorem dX12_drawnOf_23 : decode cX12_drawnOf 23 = .ok (.getfield 340, 3) := by decide +kernel
theorem dX12_drawnOf_26 : decode cX12_drawnOf 26 = .ok (.ldc_w 349, 3) := by decide +kernel
theorem dX12_drawnOf_29 : decode cX12_drawnOf 29 = .ok (.idiv, 1) := by decide +kernel
theorem dX12_drawnOf_30 : decode cX12_drawnOf 30 = .ok (.iload_n 1, 1) := by decide +kernel
theorem dX12_drawnOf_31 : decode cX12_drawnOf 31 = .ok (.irem, 1) := by decide +kernel
theorem dX12_drawnOf_32 : decode cX12_drawnOf 32 = .ok (.ireturn, 1) := by decide +kernel
theorem dX12_laysChoices_0 : decode cX12_laysChoices 0 = .ok (.iconst 0, 1) := by decide +kernel
theorem dX12_laysChoices_1 : decode cX12_laysChoices 1 = .ok (.istore_n 3, 1) := by decide +kernel
theorem dX12_laysChoices_2 : decode cX12_laysChoices 2 = .ok (.iconst 0, 1) := by decide +kernel
theorem dX12_laysChoices_3 : decode cX12_laysChoices 3 = .ok (.istore 4, 2) := by decide +kernel
theorem dX12_laysChoices_5 : decode cX12_laysChoices 5 = .ok (.iload 4, 2) := by decide +kernel
theorem dX12_laysChoices_7 : decode cX12_laysChoices 7 = .ok (.aload_n 0, 1) := by decide +kernel
theorem dX12_laysChoices_8 : decode cX12_laysChoices 8 = .ok (.getfield 139, 3) := by decide +kernel
theorem dX12_laysChoices_11 : decode cX12_laysChoices 11 = .ok (.if_icmp .ge 57, 3) := by decide +kernel
theorem dX12_laysChoices_14 : decode cX12_laysChoices 14 = .ok (.aload_n 0, 1) := by decide +kernel
theorem dX12_laysChoices_15 : decode cX12_laysChoices 15 = .ok (.getfield 43, 3) := by decide +kernel
theorem dX12_laysChoices_18 : decode cX12_laysChoices 18 = .ok (.iload 4, 2) := by decide +kernel
theorem dX12_laysChoices_20 : decode cX12_laysChoices 20 = .ok (.baload, 1) := by decide +kernel
theorem dX12_laysChoices_21 : decode cX12_laysChoices 21 = .ok (.ifCond .eq 41, 3) := by decide +kernel
theorem dX12_laysChoices_24 : decode cX12_laysChoices 24 = .ok (.iload_n 1, 1) := by decide +kernel
theorem dX12_laysChoices_25 : decode cX12_laysChoices 25 = .ok (.ifCond .eq 16, 3) := by decide +kernel
theorem dX12_laysChoices_28 : decode cX12_laysChoices 28 = .ok (.aload_n 0, 1) := by decide +kernel
theorem dX12_laysChoices_29 : decode cX12_laysChoices 29 = .ok (.iload 4, 2) := by decide +kernel
theorem dX12_laysChoices_31 : decode cX12_laysChoices 31 = .ok (.invokevirtual 206, 3) := by decide +kernel
theorem dX12_laysChoices_34 : decode cX12_laysChoices 34 = .ok (.iconst (-1), 1) := by decide +kernel
theorem dX12_laysChoices_35 : decode cX12_laysChoices 35 = .ok (.if_icmp .eq 27, 3) := by decide +kernel
theorem dX12_laysChoices_38 : decode cX12_laysChoices 38 = .ok (.goto 13, 3) := by decide +kernel
theorem dX12_laysChoices_41 : decode cX12_laysChoices 41 = .ok (.aload_n 0, 1) := by decide +kernel
theorem dX12_laysChoices_42 : decode cX12_laysChoices 42 = .ok (.iload 4, 2) := by decide +kernel
theorem dX12_laysChoices_44 : decode cX12_laysChoices 44 = .ok (.invokevirtual 149, 3) := by decide +kernel
theorem dX12_laysChoices_47 : decode cX12_laysChoices 47 = .ok (.iload_n 2, 1) := by decide +kernel
theorem dX12_laysChoices_48 : decode cX12_laysChoices 48 = .ok (.if_icmp .ne 14, 3) := by decide +kernel
theorem dX12_laysChoices_51 : decode cX12_laysChoices 51 = .ok (.aload_n 0, 1) := by decide +kernel
theorem dX12_laysChoices_52 : decode cX12_laysChoices 52 = .ok (.getfield 71, 3) := by decide +kernel
theorem dX12_laysChoices_55 : decode cX12_laysChoices 55 = .ok (.iload_n 3, 1) := by decide +kernel
theorem dX12_laysChoices_56 : decode cX12_laysChoices 56 = .ok (.iload 4, 2) := by decide +kernel
theorem dX12_laysChoices_58 : decode cX12_laysChoices 58 = .ok (.iastore, 1) := by decide +kernel
theorem dX12_laysChoices_59 : decode cX12_laysChoices 59 = .ok (.iinc 3 1, 3) := by decide +kernel
theorem dX12_laysChoices_62 : decode cX12_laysChoices 62 = .ok (.iinc 4 1, 3) := by decide +kernel
theorem dX12_laysChoices_65 : decode cX12_laysChoices 65 = .ok (.goto (-60), 3) := by decide +kernel
theorem dX12_laysChoices_68 : decode cX12_laysChoices 68 = .ok (.iload_n 3, 1) := by decide +kernel
theorem dX12_laysChoices_69 : decode cX12_laysChoices 69 = .ok (.ireturn, 1) := by decide +kernel
theorem dX12_openDim_0 : decode cX12_openDim 0 = .ok (.iconst (-1), 1) := by decide +kernel
theorem dX12_openDim_1 : decode cX12_openDim 1 = .ok (.istore_n 1, 1) := by decide +kernel
theorem dX12_openDim_2 : decode cX12_openDim 2 = .ok (.iconst 0, 1) := by decide +kernel
theorem dX12_openDim_3 : decode cX12_openDim 3 = .ok (.istore_n 2, 1) := by decide +kernel
theorem dX12_openDim_4 : decode cX12_openDim 4 = .ok (.iload_n 2, 1) := by decide +kernel
theorem dX12_openDim_5 : decode cX12_openDim 5 = .ok (.aload_n 0, 1) := by decide +kernel
theorem dX12_openDim_6 : decode cX12_openDim 6 = .ok (.getfield 139, 3) := by decide +kernel
theorem dX12_openDim_9 : decode cX12_openDim 9 = .ok (.if_icmp .ge 32, 3) := by decide +kernel
theorem dX12_openDim_12 : decode cX12_openDim 12 = .ok (.aload_n 0, 1) := by decide +kernel
theorem dX12_openDim_13 : decode cX12_openDim 13 = .ok (.getfield 43, 3) := by decide +kernel
theorem dX12_openDim_16 : decode cX12_openDim 16 = .ok (.iload_n 2, 1) := by decide +kernel
theorem dX12_openDim_17 : decode cX12_openDim 17 = .ok (.baload, 1) := by decide +kernel
theorem dX12_openDim_18 : decode cX12_openDim 18 = .ok (.ifCond .eq 15, 3) := by decide +kernel
theorem dX12_openDim_21 : decode cX12_openDim 21 = .ok (.iload_n 1, 1) := by decide +kernel
theorem dX12_openDim_22 : decode cX12_openDim 22 = .ok (.aload_n 0, 1) := by decide +kernel
theorem dX12_openDim_23 : decode cX12_openDim 23 = .ok (.iload_n 2, 1) := by decide +kernel
theorem dX12_openDim_24 : decode cX12_openDim 24 = .ok (.invokevirtual 149, 3) := by decide +kernel
theorem dX12_openDim_27 : decode cX12_openDim 27 = .ok (.invokestatic 350, 3) := by decide +kernel
theorem dX12_openDim_30 : decode cX12_openDim 30 = .ok (.goto 4, 3) := by decide +kernel
theorem dX12_openDim_33 : decode cX12_openDim 33 = .ok (.iload_n 1, 1) := by decide +kernel
theorem dX12_openDim_34 : decode cX12_openDim 34 = .ok (.istore_n 1, 1) := by decide +kernel
theorem dX12_openDim_35 : decode cX12_openDim 35 = .ok (.iinc 2 1, 3) := by decide +kernel
theorem dX12_openDim_38 : decode cX12_openDim 38 = .ok (.goto (-34), 3) := by decide +kernel
theorem dX12_openDim_41 : decode cX12_openDim 41 = .ok (.iload_n 1, 1) := by decide +kernel
theorem dX12_openDim_42 : decode cX12_openDim 42 = .ok (.ireturn, 1) := by decide +kernel
theorem dX12_drawnOnce_0 : decode cX12_drawnOnce 0 = .ok (.aload_n 0, 1) := by decide +kernel
theorem dX12_drawnOnce_1 : decode cX12_drawnOnce 1 = .ok (.invokevirtual 203, 3) := by decide +kernel
theorem dX12_drawnOnce_4 : decode cX12_drawnOnce 4 = .ok (.iconst 0, 1) := by decide +kernel
theorem dX12_drawnOnce_5 : decode cX12_drawnOnce 5 = .ok (.istore_n 1, 1) := by decide +kernel
theorem dX12_drawnOnce_6 : decode cX12_drawnOnce 6 = .ok (.aload_n 0, 1) := by decide +kernel
theorem dX12_drawnOnce_7 : decode cX12_drawnOnce 7 = .ok (.invokevirtual 353, 3) := by decide +kernel
theorem dX12_drawnOnce_10 : decode cX12_drawnOnce 10 = .ok (.istore_n 2, 1) := by decide +kernel
theorem dX12_drawnOnce_11 : decode cX12_drawnOnce 11 = .ok (.iload_n 2, 1) := by decide +kernel
theorem dX12_drawnOnce_12 : decode cX12_drawnOnce 12 = .ok (.iconst (-1), 1) := by decide +kernel
theorem dX12_drawnOnce_13 : decode cX12_drawnOnce 13 = .ok (.if_icmp .eq 77, 3) := by decide +kernel
theorem dX12_drawnOnce_16 : decode cX12_drawnOnce 16 = .ok (.aload_n 0, 1) := by decide +kernel
theorem dX12_drawnOnce_17 : decode cX12_drawnOnce 17 = .ok (.iconst 1, 1) := by decide +kernel
theorem dX12_drawnOnce_18 : decode cX12_drawnOnce 18 = .ok (.iconst 0, 1) := by decide +kernel
theorem dX12_drawnOnce_19 : decode cX12_drawnOnce 19 = .ok (.invokevirtual 356, 3) := by decide +kernel
theorem dX12_drawnOnce_22 : decode cX12_drawnOnce 22 = .ok (.istore_n 3, 1) := by decide +kernel
theorem dX12_drawnOnce_23 : decode cX12_drawnOnce 23 = .ok (.iload_n 3, 1) := by decide +kernel
theorem dX12_drawnOnce_24 : decode cX12_drawnOnce 24 = .ok (.ifCond .le 30, 3) := by decide +kernel
theorem dX12_drawnOnce_27 : decode cX12_drawnOnce 27 = .ok (.aload_n 0, 1) := by decide +kernel
theorem dX12_drawnOnce_28 : decode cX12_drawnOnce 28 = .ok (.getfield 71, 3) := by decide +kernel
theorem dX12_drawnOnce_31 : decode cX12_drawnOnce 31 = .ok (.aload_n 0, 1) := by decide +kernel
theorem dX12_drawnOnce_32 : decode cX12_drawnOnce 32 = .ok (.iload_n 3, 1) := by decide +kernel
theorem dX12_drawnOnce_33 : decode cX12_drawnOnce 33 = .ok (.invokevirtual 360, 3) := by decide +kernel
theorem dX12_drawnOnce_36 : decode cX12_drawnOnce 36 = .ok (.iaload, 1) := by decide +kernel
theorem dX12_drawnOnce_37 : decode cX12_drawnOnce 37 = .ok (.istore 4, 2) := by decide +kernel
theorem dX12_drawnOnce_39 : decode cX12_drawnOnce 39 = .ok (.aload_n 0, 1) := by decide +kernel
theorem dX12_drawnOnce_40 : decode cX12_drawnOnce 40 = .ok (.iload 4, 2) := by decide +kernel
theorem dX12_drawnOnce_42 : decode cX12_drawnOnce 42 = .ok (.aload_n 0, 1) := by decide +kernel
theorem dX12_drawnOnce_43 : decode cX12_drawnOnce 43 = .ok (.iload 4, 2) := by decide +kernel
theorem dX12_drawnOnce_45 : decode cX12_drawnOnce 45 = .ok (.invokevirtual 206, 3) := by decide +kernel
theorem dX12_drawnOnce_48 : decode cX12_drawnOnce 48 = .ok (.invokevirtual 209, 3) := by decide +kernel
theorem dX12_drawnOnce_51 : decode cX12_drawnOnce 51 = .ok (.goto 31, 3) := by decide +kernel
theorem dX12_drawnOnce_54 : decode cX12_drawnOnce 54 = .ok (.aload_n 0, 1) := by decide +kernel
theorem dX12_drawnOnce_55 : decode cX12_drawnOnce 55 = .ok (.iconst 0, 1) := by decide +kernel
theorem dX12_drawnOnce_56 : decode cX12_drawnOnce 56 = .ok (.iload_n 2, 1) := by decide +kernel
theorem dX12_drawnOnce_57 : decode cX12_drawnOnce 57 = .ok (.invokevirtual 356, 3) := by decide +kernel
theorem dX12_drawnOnce_60 : decode cX12_drawnOnce 60 = .ok (.istore 4, 2) := by decide +kernel
theorem dX12_drawnOnce_62 : decode cX12_drawnOnce 62 = .ok (.aload_n 0, 1) := by decide +kernel
theorem dX12_drawnOnce_63 : decode cX12_drawnOnce 63 = .ok (.getfield 43, 3) := by decide +kernel
theorem dX12_drawnOnce_66 : decode cX12_drawnOnce 66 = .ok (.aload_n 0, 1) := by decide +kernel
theorem dX12_drawnOnce_67 : decode cX12_drawnOnce 67 = .ok (.getfield 71, 3) := by decide +kernel
theorem dX12_drawnOnce_70 : decode cX12_drawnOnce 70 = .ok (.aload_n 0, 1) := by decide +kernel
theorem dX12_drawnOnce_71 : decode cX12_drawnOnce 71 = .ok (.iload 4, 2) := by decide +kernel
theorem dX12_drawnOnce_73 : decode cX12_drawnOnce 73 = .ok (.invokevirtual 360, 3) := by decide +kernel
theorem dX12_drawnOnce_76 : decode cX12_drawnOnce 76 = .ok (.iaload, 1) := by decide +kernel
theorem dX12_drawnOnce_77 : decode cX12_drawnOnce 77 = .ok (.iconst 0, 1) := by decide +kernel
theorem dX12_drawnOnce_78 : decode cX12_drawnOnce 78 = .ok (.bastore, 1) := by decide +kernel
theorem dX12_drawnOnce_79 : decode cX12_drawnOnce 79 = .ok (.iinc 1 1, 3) := by decide +kernel
theorem dX12_drawnOnce_82 : decode cX12_drawnOnce 82 = .ok (.aload_n 0, 1) := by decide +kernel
theorem dX12_drawnOnce_83 : decode cX12_drawnOnce 83 = .ok (.invokevirtual 353, 3) := by decide +kernel
theorem dX12_drawnOnce_86 : decode cX12_drawnOnce 86 = .ok (.istore_n 2, 1) := by decide +kernel
theorem dX12_drawnOnce_87 : decode cX12_drawnOnce 87 = .ok (.goto (-76), 3) := by decide +kernel
theorem dX12_drawnOnce_90 : decode cX12_drawnOnce 90 = .ok (.iload_n 1, 1) := by decide +kernel
theorem dX12_drawnOnce_91 : decode cX12_drawnOnce 91 = .ok (.ireturn, 1) := by decide +kernel
theorem dX12_drawn_0 : decode cX12_drawn 0 = .ok (.aload_n 0, 1) := by decide +kernel
theorem dX12_drawn_1 : decode cX12_drawn 1 = .ok (.getfield 139, 3) := by decide +kernel
theorem dX12_drawn_4 : decode cX12_drawn 4 = .ok (.ifCond .eq 22, 3) := by decide +kernel
theorem dX12_drawn_7 : decode cX12_drawn 7 = .ok (.iload_n 1, 1) := by decide +kernel
theorem dX12_drawn_8 : decode cX12_drawn 8 = .ok (.iconst 1, 1) := by decide +kernel
theorem dX12_drawn_9 : decode cX12_drawn 9 = .ok (.bipush 40, 2) := by decide +kernel
theorem dX12_drawn_11 : decode cX12_drawn 11 = .ok (.invokestatic 101, 3) := by decide +kernel
theorem dX12_drawn_14 : decode cX12_drawn 14 = .ok (.ifCond .eq 12, 3) := by decide +kernel
theorem dX12_drawn_17 : decode cX12_drawn 17 = .ok (.iload_n 2, 1) := by decide +kernel
theorem dX12_drawn_18 : decode cX12_drawn 18 = .ok (.iconst 0, 1) := by decide +kernel
theorem dX12_drawn_19 : decode cX12_drawn 19 = .ok (.iconst 2, 1) := by decide +kernel
theorem dX12_drawn_20 : decode cX12_drawn 20 = .ok (.invokestatic 101, 3) := by decide +kernel
theorem dX12_drawn_23 : decode cX12_drawn 23 = .ok (.ifCond .ne 5, 3) := by decide +kernel
theorem dX12_drawn_26 : decode cX12_drawn 26 = .ok (.iconst (-1), 1) := by decide +kernel
theorem dX12_drawn_27 : decode cX12_drawn 27 = .ok (.ireturn, 1) := by decide +kernel
theorem dX12_drawn_28 : decode cX12_drawn 28 = .ok (.iconst 0, 1) := by decide +kernel
theorem dX12_drawn_29 : decode cX12_drawn 29 = .ok (.istore_n 3, 1) := by decide +kernel
theorem dX12_drawn_30 : decode cX12_drawn 30 = .ok (.iload_n 3, 1) := by decide +kernel
theorem dX12_drawn_31 : decode cX12_drawn 31 = .ok (.aload_n 0, 1) := by decide +kernel
theorem dX12_drawn_32 : decode cX12_drawn 32 = .ok (.getfield 139, 3) := by decide +kernel
theorem dX12_drawn_35 : decode cX12_drawn 35 = .ok (.if_icmp .ge 21, 3) := by decide +kernel
theorem dX12_drawn_38 : decode cX12_drawn 38 = .ok (.aload_n 0, 1) := by decide +kernel
theorem dX12_drawn_39 : decode cX12_drawn 39 = .ok (.getfield 74, 3) := by decide +kernel
theorem dX12_drawn_42 : decode cX12_drawn 42 = .ok (.iload_n 3, 1) := by decide +kernel
theorem dX12_drawn_43 : decode cX12_drawn 43 = .ok (.aload_n 0, 1) := by decide +kernel
theorem dX12_drawn_44 : decode cX12_drawn 44 = .ok (.getfield 28, 3) := by decide +kernel
theorem dX12_drawn_47 : decode cX12_drawn 47 = .ok (.iload_n 3, 1) := by decide +kernel
theorem dX12_drawn_48 : decode cX12_drawn 48 = .ok (.iaload, 1) := by decide +kernel
theorem dX12_drawn_49 : decode cX12_drawn 49 = .ok (.iastore, 1) := by decide +kernel
theorem dX12_drawn_50 : decode cX12_drawn 50 = .ok (.iinc 3 1, 3) := by decide +kernel
theorem dX12_drawn_53 : decode cX12_drawn 53 = .ok (.goto (-23), 3) := by decide +kernel
theorem dX12_drawn_56 : decode cX12_drawn 56 = .ok (.aload_n 0, 1) := by decide +kernel
theorem dX12_drawn_57 : decode cX12_drawn 57 = .ok (.getfield 340, 3) := by decide +kernel
theorem dX12_drawn_60 : decode cX12_drawn 60 = .ok (.istore_n 3, 1) := by decide +kernel
theorem dX12_drawn_61 : decode cX12_drawn 61 = .ok (.bipush 61, 2) := by decide +kernel
theorem dX12_drawn_63 : decode cX12_drawn 63 = .ok (.istore 4, 2) := by decide +kernel
theorem dX12_drawn_65 : decode cX12_drawn 65 = .ok (.iconst 0, 1) := by decide +kernel
theorem dX12_drawn_66 : decode cX12_drawn 66 = .ok (.istore 5, 2) := by decide +kernel
theorem dX12_drawn_68 : decode cX12_drawn 68 = .ok (.iconst 0, 1) := by decide +kernel
theorem dX12_drawn_69 : decode cX12_drawn 69 = .ok (.istore 6, 2) := by decide +kernel
theorem dX12_drawn_71 : decode cX12_drawn 71 = .ok (.iconst 0, 1) := by decide +kernel
theorem dX12_drawn_72 : decode cX12_drawn 72 = .ok (.istore 7, 2) := by decide +kernel
theorem dX12_drawn_74 : decode cX12_drawn 74 = .ok (.iload 7, 2) := by decide +kernel
theorem dX12_drawn_76 : decode cX12_drawn 76 = .ok (.iload_n 1, 1) := by decide +kernel
theorem dX12_drawn_77 : decode cX12_drawn 77 = .ok (.if_icmp .ge 62, 3) := by decide +kernel
theorem dX12_drawn_80 : decode cX12_drawn 80 = .ok (.aload_n 0, 1) := by decide +kernel
theorem dX12_drawn_81 : decode cX12_drawn 81 = .ok (.invokevirtual 363, 3) := by decide +kernel
theorem dX12_drawn_84 : decode cX12_drawn 84 = .ok (.istore 8, 2) := by decide +kernel
theorem dX12_drawn_86 : decode cX12_drawn 86 = .ok (.iload 8, 2) := by decide +kernel
theorem dX12_drawn_88 : decode cX12_drawn 88 = .ok (.iload 4, 2) := by decide +kernel
theorem dX12_drawn_90 : decode cX12_drawn 90 = .ok (.if_icmp .ge 7, 3) := by decide +kernel
theorem dX12_drawn_93 : decode cX12_drawn 93 = .ok (.iconst 1, 1) := by decide +kernel
theorem dX12_drawn_94 : decode cX12_drawn 94 = .ok (.goto 19, 3) := by decide +kernel
theorem dX12_drawn_97 : decode cX12_drawn 97 = .ok (.iload 8, 2) := by decide +kernel
theorem dX12_drawn_99 : decode cX12_drawn 99 = .ok (.iload 4, 2) := by decide +kernel
theorem dX12_drawn_101 : decode cX12_drawn 101 = .ok (.if_icmp .ne 10, 3) := by decide +kernel
theorem dX12_drawn_104 : decode cX12_drawn 104 = .ok (.iload 5, 2) := by decide +kernel
theorem dX12_drawn_106 : decode cX12_drawn 106 = .ok (.iconst 1, 1) := by decide +kernel
theorem dX12_drawn_107 : decode cX12_drawn 107 = .ok (.iadd, 1) := by decide +kernel
theorem dX12_drawn_108 : decode cX12_drawn 108 = .ok (.goto 5, 3) := by decide +kernel
theorem dX12_drawn_111 : decode cX12_drawn 111 = .ok (.iload 5, 2) := by decide +kernel
theorem dX12_drawn_113 : decode cX12_drawn 113 = .ok (.istore 5, 2) := by decide +kernel
theorem dX12_drawn_115 : decode cX12_drawn 115 = .ok (.iload 4, 2) := by decide +kernel
theorem dX12_drawn_117 : decode cX12_drawn 117 = .ok (.iload 8, 2) := by decide +kernel
theorem dX12_drawn_119 : decode cX12_drawn 119 = .ok (.invokestatic 337, 3) := by decide +kernel
theorem dX12_drawn_122 : decode cX12_drawn 122 = .ok (.istore 4, 2) := by decide +kernel
theorem dX12_drawn_124 : decode cX12_drawn 124 = .ok (.iload 6, 2) := by decide +kernel
theorem dX12_drawn_126 : decode cX12_drawn 126 = .ok (.iload 8, 2) := by decide +kernel
theorem dX12_drawn_128 : decode cX12_drawn 128 = .ok (.invokestatic 350, 3) := by decide +kernel
theorem dX12_drawn_131 : decode cX12_drawn 131 = .ok (.istore 6, 2) := by decide +kernel
theorem dX12_drawn_133 : decode cX12_drawn 133 = .ok (.iinc 7 1, 3) := by decide +kernel
theorem dX12_drawn_136 : decode cX12_drawn 136 = .ok (.goto (-62), 3) := by decide +kernel
theorem dX12_drawn_139 : decode cX12_drawn 139 = .ok (.aload_n 0, 1) := by decide +kernel
theorem dX12_drawn_140 : decode cX12_drawn 140 = .ok (.iload_n 3, 1) := by decide +kernel
theorem dX12_drawn_141 : decode cX12_drawn 141 = .ok (.putfield 340, 3) := by decide +kernel
theorem dX12_drawn_144 : decode cX12_drawn 144 = .ok (.iconst 0, 1) := by decide +kernel
theorem dX12_drawn_145 : decode cX12_drawn 145 = .ok (.istore 7, 2) := by decide +kernel
theorem dX12_drawn_147 : decode cX12_drawn 147 = .ok (.iload 7, 2) := by decide +kernel
theorem dX12_drawn_149 : decode cX12_drawn 149 = .ok (.aload_n 0, 1) := by decide +kernel
theorem dX12_drawn_150 : decode cX12_drawn 150 = .ok (.getfield 139, 3) := by decide +kernel
theorem dX12_drawn_153 : decode cX12_drawn 153 = .ok (.if_icmp .ge 23, 3) := by decide +kernel
theorem dX12_drawn_156 : decode cX12_drawn 156 = .ok (.aload_n 0, 1) := by decide +kernel
theorem dX12_drawn_157 : decode cX12_drawn 157 = .ok (.getfield 28, 3) := by decide +kernel
theorem dX12_drawn_160 : decode cX12_drawn 160 = .ok (.iload 7, 2) := by decide +kernel
theorem dX12_drawn_162 : decode cX12_drawn 162 = .ok (.aload_n 0, 1) := by decide +kernel
theorem dX12_drawn_163 : decode cX12_drawn 163 = .ok (.getfield 74, 3) := by decide +kernel
theorem dX12_drawn_166 : decode cX12_drawn 166 = .ok (.iload 7, 2) := by decide +kernel
theorem dX12_drawn_168 : decode cX12_drawn 168 = .ok (.iaload, 1) := by decide +kernel
theorem dX12_drawn_169 : decode cX12_drawn 169 = .ok (.iastore, 1) := by decide +kernel
theorem dX12_drawn_170 : decode cX12_drawn 170 = .ok (.iinc 7 1, 3) := by decide +kernel
theorem dX12_drawn_173 : decode cX12_drawn 173 = .ok (.goto (-26), 3) := by decide +kernel
theorem dX12_drawn_176 : decode cX12_drawn 176 = .ok (.iload_n 2, 1) := by decide +kernel
theorem dX12_drawn_177 : decode cX12_drawn 177 = .ok (.ifCond .ne 8, 3) := by decide +kernel
theorem dX12_drawn_180 : decode cX12_drawn 180 = .ok (.iload 4, 2) := by decide +kernel
theorem dX12_drawn_182 : decode cX12_drawn 182 = .ok (.goto 15, 3) := by decide +kernel
theorem dX12_drawn_185 : decode cX12_drawn 185 = .ok (.iload_n 2, 1) := by decide +kernel
theorem dX12_drawn_186 : decode cX12_drawn 186 = .ok (.iconst 1, 1) := by decide +kernel
theorem dX12_drawn_187 : decode cX12_drawn 187 = .ok (.if_icmp .ne 8, 3) := by decide +kernel
theorem dX12_drawn_190 : decode cX12_drawn 190 = .ok (.iload 5, 2) := by decide +kernel
theorem dX12_drawn_192 : decode cX12_drawn 192 = .ok (.goto 5, 3) := by decide +kernel
theorem dX12_drawn_195 : decode cX12_drawn 195 = .ok (.iload 6, 2) := by decide +kernel
theorem dX12_drawn_197 : decode cX12_drawn 197 = .ok (.ireturn, 1) := by decide +kernel
theorem dX12_pairMany_0 : decode cX12_pairMany 0 = .ok (.iconst 0, 1) := by decide +kernel
theorem dX12_pairMany_1 : decode cX12_pairMany 1 = .ok (.istore_n 1, 1) := by decide +kernel
theorem dX12_pairMany_2 : decode cX12_pairMany 2 = .ok (.iconst 0, 1) := by decide +kernel
theorem dX12_pairMany_3 : decode cX12_pairMany 3 = .ok (.istore_n 2, 1) := by decide +kernel
theorem dX12_pairMany_4 : decode cX12_pairMany 4 = .ok (.iload_n 2, 1) := by decide +kernel
theorem dX12_pairMany_5 : decode cX12_pairMany 5 = .ok (.aload_n 0, 1) := by decide +kernel
theorem dX12_pairMany_6 : decode cX12_pairMany 6 = .ok (.getfield 139, 3) := by decide +kernel
theorem dX12_pairMany_9 : decode cX12_pairMany 9 = .ok (.if_icmp .ge 20, 3) := by decide +kernel
theorem dX12_pairMany_12 : decode cX12_pairMany 12 = .ok (.iload_n 1, 1) := by decide +kernel
theorem dX12_pairMany_13 : decode cX12_pairMany 13 = .ok (.aload_n 0, 1) := by decide +kernel
theorem dX12_pairMany_14 : decode cX12_pairMany 14 = .ok (.iload_n 2, 1) := by decide +kernel
theorem dX12_pairMany_15 : decode cX12_pairMany 15 = .ok (.invokevirtual 170, 3) := by decide +kernel
theorem dX12_pairMany_18 : decode cX12_pairMany 18 = .ok (.invokestatic 105, 3) := by decide +kernel
theorem dX12_pairMany_21 : decode cX12_pairMany 21 = .ok (.iadd, 1) := by decide +kernel
theorem dX12_pairMany_22 : decode cX12_pairMany 22 = .ok (.istore_n 1, 1) := by decide +kernel
theorem dX12_pairMany_23 : decode cX12_pairMany 23 = .ok (.iinc 2 1, 3) := by decide +kernel
theorem dX12_pairMany_26 : decode cX12_pairMany 26 = .ok (.goto (-22), 3) := by decide +kernel
theorem dX12_pairMany_29 : decode cX12_pairMany 29 = .ok (.iload_n 1, 1) := by decide +kernel
theorem dX12_pairMany_30 : decode cX12_pairMany 30 = .ok (.ireturn, 1) := by decide +kernel
theorem dX12_keep_0 : decode cX12_keep 0 = .ok (.aload_n 0, 1) := by decide +kernel
theorem dX12_keep_1 : decode cX12_keep 1 = .ok (.getfield 139, 3) := by decide +kernel
theorem dX12_keep_4 : decode cX12_keep 4 = .ok (.ifCond .eq 12, 3) := by decide +kernel
theorem dX12_keep_7 : decode cX12_keep 7 = .ok (.iload_n 1, 1) := by decide +kernel
theorem dX12_keep_8 : decode cX12_keep 8 = .ok (.iconst 0, 1) := by decide +kernel
theorem dX12_keep_9 : decode cX12_keep 9 = .ok (.iconst 2, 1) := by decide +kernel
theorem dX12_keep_10 : decode cX12_keep 10 = .ok (.invokestatic 101, 3) := by decide +kernel
theorem dX12_keep_13 : decode cX12_keep 13 = .ok (.ifCond .ne 5, 3) := by decide +kernel
theorem dX12_keep_16 : decode cX12_keep 16 = .ok (.iconst (-1), 1) := by decide +kernel
theorem dX12_keep_17 : decode cX12_keep 17 = .ok (.ireturn, 1) := by decide +kernel
theorem dX12_keep_18 : decode cX12_keep 18 = .ok (.aload_n 0, 1) := by decide +kernel
theorem dX12_keep_19 : decode cX12_keep 19 = .ok (.getfield 77, 3) := by decide +kernel
theorem dX12_keep_22 : decode cX12_keep 22 = .ok (.iload_n 1, 1) := by decide +kernel
theorem dX12_keep_23 : decode cX12_keep 23 = .ok (.iconst 1, 1) := by decide +kernel
theorem dX12_keep_24 : decode cX12_keep 24 = .ok (.bastore, 1) := by decide +kernel
theorem dX12_keep_25 : decode cX12_keep 25 = .ok (.iconst 0, 1) := by decide +kernel
theorem dX12_keep_26 : decode cX12_keep 26 = .ok (.istore_n 2, 1) := by decide +kernel
theorem dX12_keep_27 : decode cX12_keep 27 = .ok (.iload_n 2, 1) := by decide +kernel
theorem dX12_keep_28 : decode cX12_keep 28 = .ok (.aload_n 0, 1) := by decide +kernel
theorem dX12_keep_29 : decode cX12_keep 29 = .ok (.getfield 139, 3) := by decide +kernel
theorem dX12_keep_32 : decode cX12_keep 32 = .ok (.if_icmp .ge 26, 3) := by decide +kernel
theorem dX12_keep_35 : decode cX12_keep 35 = .ok (.aload_n 0, 1) := by decide +kernel
theorem dX12_keep_36 : decode cX12_keep 36 = .ok (.getfield 80, 3) := by decide +kernel
theorem dX12_keep_39 : decode cX12_keep 39 = .ok (.bipush 60, 2) := by decide +kernel
theorem dX12_keep_41 : decode cX12_keep 41 = .ok (.iload_n 1, 1) := by decide +kernel
theorem dX12_keep_42 : decode cX12_keep 42 = .ok (.imul, 1) := by decide +kernel
theorem dX12_keep_43 : decode cX12_keep 43 = .ok (.iload_n 2, 1) := by decide +kernel
theorem dX12_keep_44 : decode cX12_keep 44 = .ok (.iadd, 1) := by decide +kernel
theorem dX12_keep_45 : decode cX12_keep 45 = .ok (.aload_n 0, 1) := by decide +kernel
theorem dX12_keep_46 : decode cX12_keep 46 = .ok (.getfield 28, 3) := by decide +kernel
theorem dX12_keep_49 : decode cX12_keep 49 = .ok (.iload_n 2, 1) := by decide +kernel
theorem dX12_keep_50 : decode cX12_keep 50 = .ok (.iaload, 1) := by decide +kernel
theorem dX12_keep_51 : decode cX12_keep 51 = .ok (.iastore, 1) := by decide +kernel
theorem dX12_keep_52 : decode cX12_keep 52 = .ok (.iinc 2 1, 3) := by decide +kernel
theorem dX12_keep_55 : decode cX12_keep 55 = .ok (.goto (-28), 3) := by decide +kernel
theorem dX12_keep_58 : decode cX12_keep 58 = .ok (.aload_n 0, 1) := by decide +kernel
theorem dX12_keep_59 : decode cX12_keep 59 = .ok (.invokevirtual 366, 3) := by decide +kernel
theorem dX12_keep_62 : decode cX12_keep 62 = .ok (.ireturn, 1) := by decide +kernel
theorem dX12_same_0 : decode cX12_same 0 = .ok (.iload_n 1, 1) := by decide +kernel
theorem dX12_same_1 : decode cX12_same 1 = .ok (.iconst 0, 1) := by decide +kernel
theorem dX12_same_2 : decode cX12_same 2 = .ok (.iconst 2, 1) := by decide +kernel
theorem dX12_same_3 : decode cX12_same 3 = .ok (.invokestatic 101, 3) := by decide +kernel
theorem dX12_same_6 : decode cX12_same 6 = .ok (.ifCond .ne 5, 3) := by decide +kernel
theorem dX12_same_9 : decode cX12_same 9 = .ok (.iconst (-1), 1) := by decide +kernel
theorem dX12_same_10 : decode cX12_same 10 = .ok (.ireturn, 1) := by decide +kernel
theorem dX12_same_11 : decode cX12_same 11 = .ok (.aload_n 0, 1) := by decide +kernel
theorem dX12_same_12 : decode cX12_same 12 = .ok (.getfield 77, 3) := by decide +kernel
theorem dX12_same_15 : decode cX12_same 15 = .ok (.iload_n 1, 1) := by decide +kernel
theorem dX12_same_16 : decode cX12_same 16 = .ok (.baload, 1) := by decide +kernel
theorem dX12_same_17 : decode cX12_same 17 = .ok (.ifCond .ne 6, 3) := by decide +kernel
theorem dX12_same_20 : decode cX12_same 20 = .ok (.bipush (-2), 2) := by decide +kernel
theorem dX12_same_22 : decode cX12_same 22 = .ok (.ireturn, 1) := by decide +kernel
theorem dX12_same_23 : decode cX12_same 23 = .ok (.iconst 0, 1) := by decide +kernel
theorem dX12_same_24 : decode cX12_same 24 = .ok (.istore_n 2, 1) := by decide +kernel
theorem dX12_same_25 : decode cX12_same 25 = .ok (.iconst 0, 1) := by decide +kernel
theorem dX12_same_26 : decode cX12_same 26 = .ok (.istore_n 3, 1) := by decide +kernel
theorem dX12_same_27 : decode cX12_same 27 = .ok (.iload_n 3, 1) := by decide +kernel
theorem dX12_same_28 : decode cX12_same 28 = .ok (.aload_n 0, 1) := by decide +kernel
theorem dX12_same_29 : decode cX12_same 29 = .ok (.getfield 139, 3) := by decide +kernel
theorem dX12_same_32 : decode cX12_same 32 = .ok (.if_icmp .ge 48, 3) := by decide +kernel
theorem dX12_same_35 : decode cX12_same 35 = .ok (.iload_n 2, 1) := by decide +kernel
theorem dX12_same_36 : decode cX12_same 36 = .ok (.aload_n 0, 1) := by decide +kernel
theorem dX12_same_37 : decode cX12_same 37 = .ok (.iload_n 3, 1) := by decide +kernel
theorem dX12_same_38 : decode cX12_same 38 = .ok (.invokevirtual 170, 3) := by decide +kernel
theorem dX12_same_41 : decode cX12_same 41 = .ok (.ifCond .eq 27, 3) := by decide +kernel
theorem dX12_same_44 : decode cX12_same 44 = .ok (.aload_n 0, 1) := by decide +kernel
theorem dX12_same_45 : decode cX12_same 45 = .ok (.getfield 80, 3) := by decide +kernel
theorem dX12_same_48 : decode cX12_same 48 = .ok (.bipush 60, 2) := by decide +kernel
theorem dX12_same_50 : decode cX12_same 50 = .ok (.iload_n 1, 1) := by decide +kernel
theorem dX12_same_51 : decode cX12_same 51 = .ok (.imul, 1) := by decide +kernel
theorem dX12_same_52 : decode cX12_same 52 = .ok (.iload_n 3, 1) := by decide +kernel
theorem dX12_same_53 : decode cX12_same 53 = .ok (.iadd, 1) := by decide +kernel
theorem dX12_same_54 : decode cX12_same 54 = .ok (.iaload, 1) := by decide +kernel
theorem dX12_same_55 : decode cX12_same 55 = .ok (.aload_n 0, 1) := by decide +kernel
theorem dX12_same_56 : decode cX12_same 56 = .ok (.getfield 28, 3) := by decide +kernel
theorem dX12_same_59 : decode cX12_same 59 = .ok (.iload_n 3, 1) := by decide +kernel
theorem dX12_same_60 : decode cX12_same 60 = .ok (.iaload, 1) := by decide +kernel
theorem dX12_same_61 : decode cX12_same 61 = .ok (.if_icmp .ne 7, 3) := by decide +kernel
theorem dX12_same_64 : decode cX12_same 64 = .ok (.iconst 1, 1) := by decide +kernel
theorem dX12_same_65 : decode cX12_same 65 = .ok (.goto 4, 3) := by decide +kernel
theorem dX12_same_68 : decode cX12_same 68 = .ok (.iconst 0, 1) := by decide +kernel
theorem dX12_same_69 : decode cX12_same 69 = .ok (.invokestatic 105, 3) := by decide +kernel
theorem dX12_same_72 : decode cX12_same 72 = .ok (.iadd, 1) := by decide +kernel
theorem dX12_same_73 : decode cX12_same 73 = .ok (.istore_n 2, 1) := by decide +kernel
theorem dX12_same_74 : decode cX12_same 74 = .ok (.iinc 3 1, 3) := by decide +kernel
theorem dX12_same_77 : decode cX12_same 77 = .ok (.goto (-50), 3) := by decide +kernel
theorem dX12_same_80 : decode cX12_same 80 = .ok (.iload_n 2, 1) := by decide +kernel
theorem dX12_same_81 : decode cX12_same 81 = .ok (.ireturn, 1) := by decide +kernel
theorem dX12_euler_0 : decode cX12_euler 0 = .ok (.iconst 0, 1) := by decide +kernel
theorem dX12_euler_1 : decode cX12_euler 1 = .ok (.istore_n 1, 1) := by decide +kernel
theorem dX12_euler_2 : decode cX12_euler 2 = .ok (.iconst 0, 1) := by decide +kernel
theorem dX12_euler_3 : decode cX12_euler 3 = .ok (.istore_n 2, 1) := by decide +kernel
theorem dX12_euler_4 : decode cX12_euler 4 = .ok (.iload_n 2, 1) := by decide +kernel
theorem dX12_euler_5 : decode cX12_euler 5 = .ok (.aload_n 0, 1) := by decide +kernel
theorem dX12_euler_6 : decode cX12_euler 6 = .ok (.getfield 139, 3) := by decide +kernel
theorem dX12_euler_9 : decode cX12_euler 9 = .ok (.if_icmp .ge 29, 3) := by decide +kernel
theorem dX12_euler_12 : decode cX12_euler 12 = .ok (.iload_n 1, 1) := by decide +kernel
theorem dX12_euler_13 : decode cX12_euler 13 = .ok (.aload_n 0, 1) := by decide +kernel
theorem dX12_euler_14 : decode cX12_euler 14 = .ok (.iload_n 2, 1) := by decide +kernel
theorem dX12_euler_15 : decode cX12_euler 15 = .ok (.invokevirtual 156, 3) := by decide +kernel
theorem dX12_euler_18 : decode cX12_euler 18 = .ok (.ifCond .eq 11, 3) := by decide +kernel
theorem dX12_euler_21 : decode cX12_euler 21 = .ok (.aload_n 0, 1) := by decide +kernel
theorem dX12_euler_22 : decode cX12_euler 22 = .ok (.iload_n 2, 1) := by decide +kernel
theorem dX12_euler_23 : decode cX12_euler 23 = .ok (.invokevirtual 334, 3) := by decide +kernel
theorem dX12_euler_26 : decode cX12_euler 26 = .ok (.goto 4, 3) := by decide +kernel
theorem dX12_euler_29 : decode cX12_euler 29 = .ok (.iconst 0, 1) := by decide +kernel
theorem dX12_euler_30 : decode cX12_euler 30 = .ok (.iadd, 1) := by decide +kernel
theorem dX12_euler_31 : decode cX12_euler 31 = .ok (.istore_n 1, 1) := by decide +kernel
theorem dX12_euler_32 : decode cX12_euler 32 = .ok (.iinc 2 1, 3) := by decide +kernel
theorem dX12_euler_35 : decode cX12_euler 35 = .ok (.goto (-31), 3) := by decide +kernel
theorem dX12_euler_38 : decode cX12_euler 38 = .ok (.iload_n 1, 1) := by decide +kernel
theorem dX12_euler_39 : decode cX12_euler 39 = .ok (.ireturn, 1) := by decide +kernel
theorem dX12_greatestDim_0 : decode cX12_greatestDim 0 = .ok (.iconst (-1), 1) := by decide +kernel
theorem dX12_greatestDim_1 : decode cX12_greatestDim 1 = .ok (.istore_n 1, 1) := by decide +kernel
theorem dX12_greatestDim_2 : decode cX12_greatestDim 2 = .ok (.iconst 0, 1) := by decide +kernel
theorem dX12_greatestDim_3 : decode cX12_greatestDim 3 = .ok (.istore_n 2, 1) := by decide +kernel
theorem dX12_greatestDim_4 : decode cX12_greatestDim 4 = .ok (.iload_n 2, 1) := by decide +kernel
theorem dX12_greatestDim_5 : decode cX12_greatestDim 5 = .ok (.aload_n 0, 1) := by decide +kernel
theorem dX12_greatestDim_6 : decode cX12_greatestDim 6 = .ok (.getfield 139, 3) := by decide +kernel
theorem dX12_greatestDim_9 : decode cX12_greatestDim 9 = .ok (.if_icmp .ge 31, 3) := by decide +kernel
theorem dX12_greatestDim_12 : decode cX12_greatestDim 12 = .ok (.aload_n 0, 1) := by decide +kernel
theorem dX12_greatestDim_13 : decode cX12_greatestDim 13 = .ok (.iload_n 2, 1) := by decide +kernel
theorem dX12_greatestDim_14 : decode cX12_greatestDim 14 = .ok (.invokevirtual 156, 3) := by decide +kernel
theorem dX12_greatestDim_17 : decode cX12_greatestDim 17 = .ok (.ifCond .eq 15, 3) := by decide +kernel
theorem dX12_greatestDim_20 : decode cX12_greatestDim 20 = .ok (.iload_n 1, 1) := by decide +kernel
theorem dX12_greatestDim_21 : decode cX12_greatestDim 21 = .ok (.aload_n 0, 1) := by decide +kernel
theorem dX12_greatestDim_22 : decode cX12_greatestDim 22 = .ok (.iload_n 2, 1) := by decide +kernel
theorem dX12_greatestDim_23 : decode cX12_greatestDim 23 = .ok (.invokevirtual 149, 3) := by decide +kernel
theorem dX12_greatestDim_26 : decode cX12_greatestDim 26 = .ok (.invokestatic 350, 3) := by decide +kernel
theorem dX12_greatestDim_29 : decode cX12_greatestDim 29 = .ok (.goto 4, 3) := by decide +kernel
theorem dX12_greatestDim_32 : decode cX12_greatestDim 32 = .ok (.iload_n 1, 1) := by decide +kernel
theorem dX12_greatestDim_33 : decode cX12_greatestDim 33 = .ok (.istore_n 1, 1) := by decide +kernel
theorem dX12_greatestDim_34 : decode cX12_greatestDim 34 = .ok (.iinc 2 1, 3) := by decide +kernel
theorem dX12_greatestDim_37 : decode cX12_greatestDim 37 = .ok (.goto (-33), 3) := by decide +kernel
theorem dX12_greatestDim_40 : decode cX12_greatestDim 40 = .ok (.iload_n 1, 1) := by decide +kernel
theorem dX12_greatestDim_41 : decode cX12_greatestDim 41 = .ok (.ireturn, 1) := by decide +kernel
theorem dX12_count_0 : decode cX12_count 0 = .ok (.iload_n 1, 1) := by decide +kernel
theorem dX12_count_1 : decode cX12_count 1 = .ok (.tableswitch 105 0 9 #[55, 60, 65, 70, 75, 80, 85, 90, 95, 100], 55) := by decide +kernel
theorem dX12_count_56 : decode cX12_count 56 = .ok (.aload_n 0, 1) := by decide +kernel
theorem dX12_count_57 : decode cX12_count 57 = .ok (.getfield 139, 3) := by decide +kernel
theorem dX12_count_60 : decode cX12_count 60 = .ok (.ireturn, 1) := by decide +kernel
theorem dX12_count_61 : decode cX12_count 61 = .ok (.aload_n 0, 1) := by decide +kernel
theorem dX12_count_62 : decode cX12_count 62 = .ok (.invokevirtual 268, 3) := by decide +kernel
theorem dX12_count_65 : decode cX12_count 65 = .ok (.ireturn, 1) := by decide +kernel
theorem dX12_count_66 : decode cX12_count 66 = .ok (.aload_n 0, 1) := by decide +kernel
theorem dX12_count_67 : decode cX12_count 67 = .ok (.invokevirtual 369, 3) := by decide +kernel
theorem dX12_count_70 : decode cX12_count 70 = .ok (.ireturn, 1) := by decide +kernel
theorem dX12_count_71 : decode cX12_count 71 = .ok (.aload_n 0, 1) := by decide +kernel
theorem dX12_count_72 : decode cX12_count 72 = .ok (.invokevirtual 366, 3) := by decide +kernel
theorem dX12_count_75 : decode cX12_count 75 = .ok (.ireturn, 1) := by decide +kernel
theorem dX12_count_76 : decode cX12_count 76 = .ok (.aload_n 0, 1) := by decide +kernel
theorem dX12_count_77 : decode cX12_count 77 = .ok (.invokevirtual 197, 3) := by decide +kernel
theorem dX12_count_80 : decode cX12_count 80 = .ok (.ireturn, 1) := by decide +kernel
theorem dX12_count_81 : decode cX12_count 81 = .ok (.aload_n 0, 1) := by decide +kernel
theorem dX12_count_82 : decode cX12_count 82 = .ok (.invokevirtual 372, 3) := by decide +kernel
theorem dX12_count_85 : decode cX12_count 85 = .ok (.ireturn, 1) := by decide +kernel
theorem dX12_count_86 : decode cX12_count 86 = .ok (.aload_n 0, 1) := by decide +kernel
theorem dX12_count_87 : decode cX12_count 87 = .ok (.invokevirtual 375, 3) := by decide +kernel
theorem dX12_count_90 : decode cX12_count 90 = .ok (.ireturn, 1) := by decide +kernel
theorem dX12_count_91 : decode cX12_count 91 = .ok (.aload_n 0, 1) := by decide +kernel
theorem dX12_count_92 : decode cX12_count 92 = .ok (.getfield 142, 3) := by decide +kernel
theorem dX12_count_95 : decode cX12_count 95 = .ok (.ireturn, 1) := by decide +kernel
theorem dX12_count_96 : decode cX12_count 96 = .ok (.aload_n 0, 1) := by decide +kernel
theorem dX12_count_97 : decode cX12_count 97 = .ok (.getfield 340, 3) := by decide +kernel
theorem dX12_count_100 : decode cX12_count 100 = .ok (.ireturn, 1) := by decide +kernel
theorem dX12_count_101 : decode cX12_count 101 = .ok (.aload_n 0, 1) := by decide +kernel
theorem dX12_count_102 : decode cX12_count 102 = .ok (.getfield 83, 3) := by decide +kernel
theorem dX12_count_105 : decode cX12_count 105 = .ok (.ireturn, 1) := by decide +kernel
theorem dX12_count_106 : decode cX12_count 106 = .ok (.iconst (-1), 1) := by decide +kernel
theorem dX12_count_107 : decode cX12_count 107 = .ok (.ireturn, 1) := by decide +kernel
