theorem dX0_init_0 : decode cX0_init 0 = .ok (.aload_n 0, 1) := by decide +kernel
theorem dX0_init_1 : decode cX0_init 1 = .ok (.invokespecial 3, 3) := by decide +kernel
theorem dX0_init_4 : decode cX0_init 4 = .ok (.aload_n 0, 1) := by decide +kernel
theorem dX0_init_5 : decode cX0_init 5 = .ok (.bipush 64, 2) := by decide +kernel
theorem dX0_init_7 : decode cX0_init 7 = .ok (.newarray .long, 2) := by decide +kernel
theorem dX0_init_9 : decode cX0_init 9 = .ok (.putfield 9, 3) := by decide +kernel
theorem dX0_init_12 : decode cX0_init 12 = .ok (.aload_n 0, 1) := by decide +kernel
theorem dX0_init_13 : decode cX0_init 13 = .ok (.aload_n 1, 1) := by decide +kernel
theorem dX0_init_14 : decode cX0_init 14 = .ok (.putfield 15, 3) := by decide +kernel
theorem dX0_init_17 : decode cX0_init 17 = .ok (.aload_n 0, 1) := by decide +kernel
theorem dX0_init_18 : decode cX0_init 18 = .ok (.aload_n 2, 1) := by decide +kernel
theorem dX0_init_19 : decode cX0_init 19 = .ok (.putfield 19, 3) := by decide +kernel
theorem dX0_init_22 : decode cX0_init 22 = .ok (.aload_n 0, 1) := by decide +kernel
theorem dX0_init_23 : decode cX0_init 23 = .ok (.new 23, 3) := by decide +kernel
theorem dX0_init_26 : decode cX0_init 26 = .ok (.dup, 1) := by decide +kernel
theorem dX0_init_27 : decode cX0_init 27 = .ok (.invokespecial 25, 3) := by decide +kernel
theorem dX0_init_30 : decode cX0_init 30 = .ok (.putfield 26, 3) := by decide +kernel
theorem dX0_init_33 : decode cX0_init 33 = .ok (.return_, 1) := by decide +kernel
theorem dX0_bettiOf_0 : decode cX0_bettiOf 0 = .ok (.lload_n 1, 1) := by decide +kernel
theorem dX0_bettiOf_1 : decode cX0_bettiOf 1 = .ok (.aload_n 0, 1) := by decide +kernel
theorem dX0_bettiOf_2 : decode cX0_bettiOf 2 = .ok (.getfield 15, 3) := by decide +kernel
theorem dX0_bettiOf_5 : decode cX0_bettiOf 5 = .ok (.getfield 30, 3) := by decide +kernel
theorem dX0_bettiOf_8 : decode cX0_bettiOf 8 = .ok (.iload_n 3, 1) := by decide +kernel
theorem dX0_bettiOf_9 : decode cX0_bettiOf 9 = .ok (.laload, 1) := by decide +kernel
theorem dX0_bettiOf_10 : decode cX0_bettiOf 10 = .ok (.land, 1) := by decide +kernel
theorem dX0_bettiOf_11 : decode cX0_bettiOf 11 = .ok (.invokestatic 35, 3) := by decide +kernel
theorem dX0_bettiOf_14 : decode cX0_bettiOf 14 = .ok (.istore 5, 2) := by decide +kernel
theorem dX0_bettiOf_16 : decode cX0_bettiOf 16 = .ok (.iload 5, 2) := by decide +kernel
theorem dX0_bettiOf_18 : decode cX0_bettiOf 18 = .ok (.aload_n 0, 1) := by decide +kernel
theorem dX0_bettiOf_19 : decode cX0_bettiOf 19 = .ok (.lload_n 1, 1) := by decide +kernel
theorem dX0_bettiOf_20 : decode cX0_bettiOf 20 = .ok (.iload_n 3, 1) := by decide +kernel
theorem dX0_bettiOf_21 : decode cX0_bettiOf 21 = .ok (.iload 4, 2) := by decide +kernel
theorem dX0_bettiOf_23 : decode cX0_bettiOf 23 = .ok (.invokevirtual 41, 3) := by decide +kernel
theorem dX0_bettiOf_26 : decode cX0_bettiOf 26 = .ok (.isub, 1) := by decide +kernel
theorem dX0_bettiOf_27 : decode cX0_bettiOf 27 = .ok (.aload_n 0, 1) := by decide +kernel
theorem dX0_bettiOf_28 : decode cX0_bettiOf 28 = .ok (.lload_n 1, 1) := by decide +kernel
theorem dX0_bettiOf_29 : decode cX0_bettiOf 29 = .ok (.iload_n 3, 1) := by decide +kernel
theorem dX0_bettiOf_30 : decode cX0_bettiOf 30 = .ok (.iconst 1, 1) := by decide +kernel
theorem dX0_bettiOf_31 : decode cX0_bettiOf 31 = .ok (.iadd, 1) := by decide +kernel
theorem dX0_bettiOf_32 : decode cX0_bettiOf 32 = .ok (.iload 4, 2) := by decide +kernel
theorem dX0_bettiOf_34 : decode cX0_bettiOf 34 = .ok (.invokevirtual 41, 3) := by decide +kernel
theorem dX0_bettiOf_37 : decode cX0_bettiOf 37 = .ok (.isub, 1) := by decide +kernel
theorem dX0_bettiOf_38 : decode cX0_bettiOf 38 = .ok (.ireturn, 1) := by decide +kernel
theorem dX0_torsionsOf_0 : decode cX0_torsionsOf 0 = .ok (.aload_n 0, 1) := by decide +kernel
theorem dX0_torsionsOf_1 : decode cX0_torsionsOf 1 = .ok (.lload_n 1, 1) := by decide +kernel
theorem dX0_torsionsOf_2 : decode cX0_torsionsOf 2 = .ok (.iload_n 3, 1) := by decide +kernel
theorem dX0_torsionsOf_3 : decode cX0_torsionsOf 3 = .ok (.iconst 1, 1) := by decide +kernel
theorem dX0_torsionsOf_4 : decode cX0_torsionsOf 4 = .ok (.iadd, 1) := by decide +kernel
theorem dX0_torsionsOf_5 : decode cX0_torsionsOf 5 = .ok (.iload 4, 2) := by decide +kernel
theorem dX0_torsionsOf_7 : decode cX0_torsionsOf 7 = .ok (.invokevirtual 41, 3) := by decide +kernel
theorem dX0_torsionsOf_10 : decode cX0_torsionsOf 10 = .ok (.istore 5, 2) := by decide +kernel
theorem dX0_torsionsOf_12 : decode cX0_torsionsOf 12 = .ok (.iload 5, 2) := by decide +kernel
theorem dX0_torsionsOf_14 : decode cX0_torsionsOf 14 = .ok (.ifCond .eq 15, 3) := by decide +kernel
theorem dX0_torsionsOf_29 : decode cX0_torsionsOf 29 = .ok (.iconst 0, 1) := by decide +kernel
theorem dX0_torsionsOf_30 : decode cX0_torsionsOf 30 = .ok (.ireturn, 1) := by decide +kernel
theorem dX0_rankOf_0 : decode cX0_rankOf 0 = .ok (.iload_n 3, 1) := by decide +kernel
theorem dX0_rankOf_1 : decode cX0_rankOf 1 = .ok (.iconst 1, 1) := by decide +kernel
theorem dX0_rankOf_2 : decode cX0_rankOf 2 = .ok (.if_icmp .lt 8, 3) := by decide +kernel
theorem dX0_rankOf_5 : decode cX0_rankOf 5 = .ok (.iload_n 3, 1) := by decide +kernel
theorem dX0_rankOf_6 : decode cX0_rankOf 6 = .ok (.iconst 5, 1) := by decide +kernel
theorem dX0_rankOf_7 : decode cX0_rankOf 7 = .ok (.if_icmp .lt 5, 3) := by decide +kernel
theorem dX0_rankOf_10 : decode cX0_rankOf 10 = .ok (.iconst 0, 1) := by decide +kernel
theorem dX0_rankOf_11 : decode cX0_rankOf 11 = .ok (.ireturn, 1) := by decide +kernel
theorem dX0_rankOf_12 : decode cX0_rankOf 12 = .ok (.aload_n 0, 1) := by decide +kernel
theorem dX0_rankOf_13 : decode cX0_rankOf 13 = .ok (.lload_n 1, 1) := by decide +kernel
theorem dX0_rankOf_14 : decode cX0_rankOf 14 = .ok (.aload_n 0, 1) := by decide +kernel
theorem dX0_rankOf_15 : decode cX0_rankOf 15 = .ok (.getfield 15, 3) := by decide +kernel
theorem dX0_rankOf_18 : decode cX0_rankOf 18 = .ok (.getfield 30, 3) := by decide +kernel
theorem dX0_rankOf_21 : decode cX0_rankOf 21 = .ok (.iload_n 3, 1) := by decide +kernel
theorem dX0_rankOf_22 : decode cX0_rankOf 22 = .ok (.laload, 1) := by decide +kernel
theorem dX0_rankOf_23 : decode cX0_rankOf 23 = .ok (.land, 1) := by decide +kernel
theorem dX0_rankOf_24 : decode cX0_rankOf 24 = .ok (.lload_n 1, 1) := by decide +kernel
theorem dX0_rankOf_25 : decode cX0_rankOf 25 = .ok (.aload_n 0, 1) := by decide +kernel
theorem dX0_rankOf_26 : decode cX0_rankOf 26 = .ok (.getfield 15, 3) := by decide +kernel
theorem dX0_rankOf_29 : decode cX0_rankOf 29 = .ok (.getfield 30, 3) := by decide +kernel
theorem dX0_rankOf_32 : decode cX0_rankOf 32 = .ok (.iload_n 3, 1) := by decide +kernel
theorem dX0_rankOf_33 : decode cX0_rankOf 33 = .ok (.iconst 1, 1) := by decide +kernel
theorem dX0_rankOf_34 : decode cX0_rankOf 34 = .ok (.isub, 1) := by decide +kernel
theorem dX0_rankOf_35 : decode cX0_rankOf 35 = .ok (.laload, 1) := by decide +kernel
theorem dX0_rankOf_36 : decode cX0_rankOf 36 = .ok (.land, 1) := by decide +kernel
theorem dX0_rankOf_37 : decode cX0_rankOf 37 = .ok (.iload 4, 2) := by decide +kernel
theorem dX0_rankOf_39 : decode cX0_rankOf 39 = .ok (.invokevirtual 55, 3) := by decide +kernel
theorem dX0_rankOf_42 : decode cX0_rankOf 42 = .ok (.aload_n 0, 1) := by decide +kernel
theorem dX0_rankOf_43 : decode cX0_rankOf 43 = .ok (.getfield 26, 3) := by decide +kernel
theorem dX0_rankOf_46 : decode cX0_rankOf 46 = .ok (.invokevirtual 59, 3) := by decide +kernel
theorem dX0_rankOf_49 : decode cX0_rankOf 49 = .ok (.ireturn, 1) := by decide +kernel
theorem dX0_fill_0 : decode cX0_fill 0 = .ok (.aload_n 0, 1) := by decide +kernel
theorem dX0_fill_1 : decode cX0_fill 1 = .ok (.getfield 26, 3) := by decide +kernel
theorem dX0_fill_4 : decode cX0_fill 4 = .ok (.lload_n 1, 1) := by decide +kernel
theorem dX0_fill_5 : decode cX0_fill 5 = .ok (.invokestatic 35, 3) := by decide +kernel
theorem dX0_fill_8 : decode cX0_fill 8 = .ok (.lload_n 3, 1) := by decide +kernel
theorem dX0_fill_9 : decode cX0_fill 9 = .ok (.invokestatic 35, 3) := by decide +kernel
theorem dX0_fill_12 : decode cX0_fill 12 = .ok (.invokevirtual 63, 3) := by decide +kernel
theorem dX0_fill_15 : decode cX0_fill 15 = .ok (.iconst 0, 1) := by decide +kernel
theorem dX0_fill_16 : decode cX0_fill 16 = .ok (.istore 6, 2) := by decide +kernel
theorem dX0_fill_18 : decode cX0_fill 18 = .ok (.iconst 0, 1) := by decide +kernel
theorem dX0_fill_19 : decode cX0_fill 19 = .ok (.istore 7, 2) := by decide +kernel
theorem dX0_fill_21 : decode cX0_fill 21 = .ok (.iload 7, 2) := by decide +kernel
theorem dX0_fill_23 : decode cX0_fill 23 = .ok (.aload_n 0, 1) := by decide +kernel
theorem dX0_fill_24 : decode cX0_fill 24 = .ok (.getfield 15, 3) := by decide +kernel
theorem dX0_fill_27 : decode cX0_fill 27 = .ok (.getfield 67, 3) := by decide +kernel
theorem dX0_fill_30 : decode cX0_fill 30 = .ok (.if_icmp .ge 64, 3) := by decide +kernel
theorem dX0_fill_94 : decode cX0_fill 94 = .ok (.return_, 1) := by decide +kernel
theorem dX1_init_0 : decode cX1_init 0 = .ok (.aload_n 0, 1) := by decide +kernel
theorem dX1_init_1 : decode cX1_init 1 = .ok (.invokespecial 3, 3) := by decide +kernel
theorem dX1_init_4 : decode cX1_init 4 = .ok (.aload_n 0, 1) := by decide +kernel
theorem dX1_init_5 : decode cX1_init 5 = .ok (.bipush 64, 2) := by decide +kernel
theorem dX1_init_7 : decode cX1_init 7 = .ok (.newarray .long, 2) := by decide +kernel
theorem dX1_init_9 : decode cX1_init 9 = .ok (.putfield 9, 3) := by decide +kernel
theorem dX1_init_12 : decode cX1_init 12 = .ok (.aload_n 0, 1) := by decide +kernel
theorem dX1_init_13 : decode cX1_init 13 = .ok (.bipush 64, 2) := by decide +kernel
theorem dX1_init_15 : decode cX1_init 15 = .ok (.newarray .long, 2) := by decide +kernel
theorem dX1_init_17 : decode cX1_init 17 = .ok (.putfield 15, 3) := by decide +kernel
theorem dX1_init_20 : decode cX1_init 20 = .ok (.aload_n 0, 1) := by decide +kernel
theorem dX1_init_21 : decode cX1_init 21 = .ok (.bipush 64, 2) := by decide +kernel
theorem dX1_init_23 : decode cX1_init 23 = .ok (.newarray .int, 2) := by decide +kernel
theorem dX1_init_25 : decode cX1_init 25 = .ok (.putfield 18, 3) := by decide +kernel
theorem dX1_init_28 : decode cX1_init 28 = .ok (.aload_n 0, 1) := by decide +kernel
theorem dX1_init_29 : decode cX1_init 29 = .ok (.aload_n 1, 1) := by decide +kernel
theorem dX1_init_30 : decode cX1_init 30 = .ok (.putfield 22, 3) := by decide +kernel
theorem dX1_init_33 : decode cX1_init 33 = .ok (.aload_n 0, 1) := by decide +kernel
theorem dX1_init_34 : decode cX1_init 34 = .ok (.aload_n 2, 1) := by decide +kernel
theorem dX1_init_35 : decode cX1_init 35 = .ok (.putfield 26, 3) := by decide +kernel
theorem dX1_init_38 : decode cX1_init 38 = .ok (.aload_n 0, 1) := by decide +kernel
theorem dX1_init_39 : decode cX1_init 39 = .ok (.aload_n 3, 1) := by decide +kernel
theorem dX1_init_40 : decode cX1_init 40 = .ok (.putfield 30, 3) := by decide +kernel
theorem dX1_init_43 : decode cX1_init 43 = .ok (.return_, 1) := by decide +kernel
theorem dX2_init_0 : decode cX2_init 0 = .ok (.aload_n 0, 1) := by decide +kernel
theorem dX2_init_1 : decode cX2_init 1 = .ok (.invokespecial 3, 3) := by decide +kernel
theorem dX2_init_4 : decode cX2_init 4 = .ok (.aload_n 0, 1) := by decide +kernel
theorem dX2_init_5 : decode cX2_init 5 = .ok (.bipush 64, 2) := by decide +kernel
theorem dX2_init_7 : decode cX2_init 7 = .ok (.newarray .int, 2) := by decide +kernel
theorem dX2_init_9 : decode cX2_init 9 = .ok (.putfield 9, 3) := by decide +kernel
theorem dX2_init_12 : decode cX2_init 12 = .ok (.aload_n 0, 1) := by decide +kernel
theorem dX2_init_13 : decode cX2_init 13 = .ok (.bipush 64, 2) := by decide +kernel
theorem dX2_init_15 : decode cX2_init 15 = .ok (.newarray .int, 2) := by decide +kernel
theorem dX2_init_17 : decode cX2_init 17 = .ok (.putfield 15, 3) := by decide +kernel
theorem dX2_init_20 : decode cX2_init 20 = .ok (.aload_n 0, 1) := by decide +kernel
theorem dX2_init_21 : decode cX2_init 21 = .ok (.aload_n 1, 1) := by decide +kernel
theorem dX2_init_22 : decode cX2_init 22 = .ok (.putfield 18, 3) := by decide +kernel
theorem dX2_init_25 : decode cX2_init 25 = .ok (.aload_n 0, 1) := by decide +kernel
theorem dX2_init_26 : decode cX2_init 26 = .ok (.aload_n 2, 1) := by decide +kernel
theorem dX2_init_27 : decode cX2_init 27 = .ok (.putfield 22, 3) := by decide +kernel
theorem dX2_init_30 : decode cX2_init 30 = .ok (.aload_n 0, 1) := by decide +kernel
theorem dX2_init_31 : decode cX2_init 31 = .ok (.iconst (-1), 1) := by decide +kernel
theorem dX2_init_32 : decode cX2_init 32 = .ok (.putfield 26, 3) := by decide +kernel
theorem dX2_init_35 : decode cX2_init 35 = .ok (.return_, 1) := by decide +kernel
theorem dX2_upTo_0 : decode cX2_upTo 0 = .ok (.aload_n 0, 1) := by decide +kernel
theorem dX2_upTo_1 : decode cX2_upTo 1 = .ok (.invokevirtual 30, 3) := by decide +kernel
theorem dX2_upTo_4 : decode cX2_upTo 4 = .ok (.lconst 0, 1) := by decide +kernel
theorem dX2_upTo_5 : decode cX2_upTo 5 = .ok (.lstore_n 2, 1) := by decide +kernel
theorem dX2_upTo_6 : decode cX2_upTo 6 = .ok (.iconst 0, 1) := by decide +kernel
theorem dX2_upTo_7 : decode cX2_upTo 7 = .ok (.istore 4, 2) := by decide +kernel
theorem dX2_upTo_9 : decode cX2_upTo 9 = .ok (.iload 4, 2) := by decide +kernel
theorem dX2_upTo_11 : decode cX2_upTo 11 = .ok (.aload_n 0, 1) := by decide +kernel
theorem dX2_upTo_12 : decode cX2_upTo 12 = .ok (.getfield 33, 3) := by decide +kernel
theorem dX2_upTo_15 : decode cX2_upTo 15 = .ok (.if_icmp .ge 38, 3) := by decide +kernel
theorem dX2_upTo_53 : decode cX2_upTo 53 = .ok (.lload_n 2, 1) := by decide +kernel
theorem dX2_upTo_54 : decode cX2_upTo 54 = .ok (.lreturn, 1) := by decide +kernel
theorem dX2_measure_0 : decode cX2_measure 0 = .ok (.aload_n 0, 1) := by decide +kernel
theorem dX2_measure_1 : decode cX2_measure 1 = .ok (.getfield 26, 3) := by decide +kernel
theorem dX2_measure_4 : decode cX2_measure 4 = .ok (.aload_n 0, 1) := by decide +kernel
theorem dX2_measure_5 : decode cX2_measure 5 = .ok (.getfield 22, 3) := by decide +kernel
theorem dX2_measure_8 : decode cX2_measure 8 = .ok (.getfield 40, 3) := by decide +kernel
theorem dX2_measure_11 : decode cX2_measure 11 = .ok (.if_icmp .ne 4, 3) := by decide +kernel
theorem dX2_measure_15 : decode cX2_measure 15 = .ok (.aload_n 0, 1) := by decide +kernel
theorem dX2_measure_16 : decode cX2_measure 16 = .ok (.aload_n 0, 1) := by decide +kernel
theorem dX2_measure_17 : decode cX2_measure 17 = .ok (.getfield 22, 3) := by decide +kernel
theorem dX2_measure_20 : decode cX2_measure 20 = .ok (.getfield 40, 3) := by decide +kernel
theorem dX2_measure_23 : decode cX2_measure 23 = .ok (.putfield 26, 3) := by decide +kernel
theorem dX2_measure_26 : decode cX2_measure 26 = .ok (.aload_n 0, 1) := by decide +kernel
theorem dX2_measure_27 : decode cX2_measure 27 = .ok (.getfield 9, 3) := by decide +kernel
theorem dX2_measure_30 : decode cX2_measure 30 = .ok (.iconst (-1), 1) := by decide +kernel
theorem dX2_measure_31 : decode cX2_measure 31 = .ok (.invokestatic 45, 3) := by decide +kernel
theorem dX2_measure_34 : decode cX2_measure 34 = .ok (.aload_n 0, 1) := by decide +kernel
theorem dX2_measure_35 : decode cX2_measure 35 = .ok (.iconst 0, 1) := by decide +kernel
theorem dX2_measure_36 : decode cX2_measure 36 = .ok (.putfield 33, 3) := by decide +kernel
theorem dX2_measure_39 : decode cX2_measure 39 = .ok (.aload_n 0, 1) := by decide +kernel
theorem dX2_measure_40 : decode cX2_measure 40 = .ok (.getfield 22, 3) := by decide +kernel
theorem dX2_measure_43 : decode cX2_measure 43 = .ok (.getfield 51, 3) := by decide +kernel
theorem dX2_measure_46 : decode cX2_measure 46 = .ok (.lstore_n 1, 1) := by decide +kernel
theorem dX2_measure_47 : decode cX2_measure 47 = .ok (.iconst 0, 1) := by decide +kernel
theorem dX2_measure_48 : decode cX2_measure 48 = .ok (.istore_n 3, 1) := by decide +kernel
theorem dX2_measure_49 : decode cX2_measure 49 = .ok (.iload_n 3, 1) := by decide +kernel
theorem dX2_measure_50 : decode cX2_measure 50 = .ok (.bipush 64, 2) := by decide +kernel
theorem dX2_measure_52 : decode cX2_measure 52 = .ok (.if_icmp .ge 28, 3) := by decide +kernel
theorem dX2_measure_55 : decode cX2_measure 55 = .ok (.lload_n 1, 1) := by decide +kernel
theorem dX2_measure_56 : decode cX2_measure 56 = .ok (.lconst 0, 1) := by decide +kernel
theorem dX2_measure_57 : decode cX2_measure 57 = .ok (.lcmp, 1) := by decide +kernel
theorem dX2_measure_58 : decode cX2_measure 58 = .ok (.ifCond .eq 22, 3) := by decide +kernel
theorem dX2_measure_80 : decode cX2_measure 80 = .ok (.return_, 1) := by decide +kernel
theorem dX3_init_0 : decode cX3_init 0 = .ok (.aload_n 0, 1) := by decide +kernel
theorem dX3_init_1 : decode cX3_init 1 = .ok (.invokespecial 3, 3) := by decide +kernel
theorem dX3_init_4 : decode cX3_init 4 = .ok (.aload_n 0, 1) := by decide +kernel
theorem dX3_init_5 : decode cX3_init 5 = .ok (.sipush 1024, 3) := by decide +kernel
theorem dX3_init_8 : decode cX3_init 8 = .ok (.newarray .int, 2) := by decide +kernel
theorem dX3_init_10 : decode cX3_init 10 = .ok (.putfield 9, 3) := by decide +kernel
theorem dX3_init_13 : decode cX3_init 13 = .ok (.aload_n 0, 1) := by decide +kernel
theorem dX3_init_14 : decode cX3_init 14 = .ok (.bipush 16, 2) := by decide +kernel
theorem dX3_init_16 : decode cX3_init 16 = .ok (.newarray .long, 2) := by decide +kernel
theorem dX3_init_18 : decode cX3_init 18 = .ok (.putfield 15, 3) := by decide +kernel
theorem dX3_init_21 : decode cX3_init 21 = .ok (.return_, 1) := by decide +kernel
theorem dX4_init_0 : decode cX4_init 0 = .ok (.aload_n 0, 1) := by decide +kernel
theorem dX4_init_1 : decode cX4_init 1 = .ok (.invokespecial 3, 3) := by decide +kernel
theorem dX4_init_4 : decode cX4_init 4 = .ok (.aload_n 0, 1) := by decide +kernel
theorem dX4_init_5 : decode cX4_init 5 = .ok (.sipush 192, 3) := by decide +kernel
theorem dX4_init_8 : decode cX4_init 8 = .ok (.newarray .int, 2) := by decide +kernel
theorem dX4_init_10 : decode cX4_init 10 = .ok (.putfield 9, 3) := by decide +kernel
theorem dX4_init_13 : decode cX4_init 13 = .ok (.return_, 1) := by decide +kernel
theorem dX5_init_0 : decode cX5_init 0 = .ok (.aload_n 0, 1) := by decide +kernel
theorem dX5_init_1 : decode cX5_init 1 = .ok (.invokespecial 3, 3) := by decide +kernel
theorem dX5_init_4 : decode cX5_init 4 = .ok (.aload_n 0, 1) := by decide +kernel
theorem dX5_init_5 : decode cX5_init 5 = .ok (.sipush 900, 3) := by decide +kernel
theorem dX5_init_8 : decode cX5_init 8 = .ok (.newarray .long, 2) := by decide +kernel
theorem dX5_init_10 : decode cX5_init 10 = .ok (.putfield 9, 3) := by decide +kernel
theorem dX5_init_13 : decode cX5_init 13 = .ok (.aload_n 0, 1) := by decide +kernel
theorem dX5_init_14 : decode cX5_init 14 = .ok (.sipush 900, 3) := by decide +kernel
theorem dX5_init_17 : decode cX5_init 17 = .ok (.newarray .long, 2) := by decide +kernel
theorem dX5_init_19 : decode cX5_init 19 = .ok (.putfield 15, 3) := by decide +kernel
theorem dX5_init_22 : decode cX5_init 22 = .ok (.aload_n 0, 1) := by decide +kernel
theorem dX5_init_23 : decode cX5_init 23 = .ok (.bipush 64, 2) := by decide +kernel
theorem dX5_init_25 : decode cX5_init 25 = .ok (.newarray .long, 2) := by decide +kernel
theorem dX5_init_27 : decode cX5_init 27 = .ok (.putfield 18, 3) := by decide +kernel
theorem dX5_init_30 : decode cX5_init 30 = .ok (.return_, 1) := by decide +kernel
theorem dX5_resize_0 : decode cX5_resize 0 = .ok (.iload_n 1, 1) := by decide +kernel
theorem dX5_resize_1 : decode cX5_resize 1 = .ok (.ifCond .lt 32, 3) := by decide +kernel
theorem dX5_resize_4 : decode cX5_resize 4 = .ok (.iload_n 2, 1) := by decide +kernel
theorem dX5_resize_5 : decode cX5_resize 5 = .ok (.ifCond .lt 28, 3) := by decide +kernel
theorem dX5_resize_8 : decode cX5_resize 8 = .ok (.iload_n 1, 1) := by decide +kernel
theorem dX5_resize_9 : decode cX5_resize 9 = .ok (.bipush 64, 2) := by decide +kernel
theorem dX5_resize_11 : decode cX5_resize 11 = .ok (.if_icmp .ge 22, 3) := by decide +kernel
theorem dX5_resize_14 : decode cX5_resize 14 = .ok (.iload_n 2, 1) := by decide +kernel
theorem dX5_resize_15 : decode cX5_resize 15 = .ok (.bipush 64, 2) := by decide +kernel
theorem dX5_resize_17 : decode cX5_resize 17 = .ok (.if_icmp .ge 16, 3) := by decide +kernel
theorem dX5_resize_20 : decode cX5_resize 20 = .ok (.iload_n 1, 1) := by decide +kernel
theorem dX5_resize_21 : decode cX5_resize 21 = .ok (.iload_n 2, 1) := by decide +kernel
theorem dX5_resize_22 : decode cX5_resize 22 = .ok (.imul, 1) := by decide +kernel
theorem dX5_resize_23 : decode cX5_resize 23 = .ok (.sipush 900, 3) := by decide +kernel
theorem dX5_resize_26 : decode cX5_resize 26 = .ok (.if_icmp .gt 7, 3) := by decide +kernel
theorem dX5_resize_29 : decode cX5_resize 29 = .ok (.iconst 1, 1) := by decide +kernel
theorem dX5_resize_30 : decode cX5_resize 30 = .ok (.goto 4, 3) := by decide +kernel
theorem dX5_resize_34 : decode cX5_resize 34 = .ok (.istore_n 3, 1) := by decide +kernel
theorem dX5_resize_35 : decode cX5_resize 35 = .ok (.aload_n 0, 1) := by decide +kernel
theorem dX5_resize_36 : decode cX5_resize 36 = .ok (.iload_n 3, 1) := by decide +kernel
theorem dX5_resize_37 : decode cX5_resize 37 = .ok (.ifCond .eq 7, 3) := by decide +kernel
theorem dX5_resize_40 : decode cX5_resize 40 = .ok (.iload_n 1, 1) := by decide +kernel
theorem dX5_resize_41 : decode cX5_resize 41 = .ok (.goto 4, 3) := by decide +kernel
theorem dX5_resize_45 : decode cX5_resize 45 = .ok (.putfield 21, 3) := by decide +kernel
theorem dX5_resize_48 : decode cX5_resize 48 = .ok (.aload_n 0, 1) := by decide +kernel
theorem dX5_resize_49 : decode cX5_resize 49 = .ok (.iload_n 3, 1) := by decide +kernel
theorem dX5_resize_50 : decode cX5_resize 50 = .ok (.ifCond .eq 7, 3) := by decide +kernel
theorem dX5_resize_53 : decode cX5_resize 53 = .ok (.iload_n 2, 1) := by decide +kernel
theorem dX5_resize_54 : decode cX5_resize 54 = .ok (.goto 4, 3) := by decide +kernel
theorem dX5_resize_58 : decode cX5_resize 58 = .ok (.putfield 25, 3) := by decide +kernel
theorem dX5_resize_61 : decode cX5_resize 61 = .ok (.return_, 1) := by decide +kernel
theorem dX5_eliminate_0 : decode cX5_eliminate 0 = .ok (.aload_n 0, 1) := by decide +kernel
theorem dX5_eliminate_1 : decode cX5_eliminate 1 = .ok (.getfield 9, 3) := by decide +kernel
theorem dX5_eliminate_4 : decode cX5_eliminate 4 = .ok (.iconst 0, 1) := by decide +kernel
theorem dX5_eliminate_5 : decode cX5_eliminate 5 = .ok (.aload_n 0, 1) := by decide +kernel
theorem dX5_eliminate_6 : decode cX5_eliminate 6 = .ok (.getfield 15, 3) := by decide +kernel
theorem dX5_eliminate_9 : decode cX5_eliminate 9 = .ok (.iconst 0, 1) := by decide +kernel
theorem dX5_eliminate_10 : decode cX5_eliminate 10 = .ok (.aload_n 0, 1) := by decide +kernel
theorem dX5_eliminate_11 : decode cX5_eliminate 11 = .ok (.getfield 21, 3) := by decide +kernel
theorem dX5_eliminate_14 : decode cX5_eliminate 14 = .ok (.aload_n 0, 1) := by decide +kernel
theorem dX5_eliminate_15 : decode cX5_eliminate 15 = .ok (.getfield 25, 3) := by decide +kernel
theorem dX5_eliminate_18 : decode cX5_eliminate 18 = .ok (.imul, 1) := by decide +kernel
theorem dX5_eliminate_19 : decode cX5_eliminate 19 = .ok (.invokestatic 28, 3) := by decide +kernel
theorem dX5_eliminate_22 : decode cX5_eliminate 22 = .ok (.iconst 0, 1) := by decide +kernel
theorem dX5_eliminate_23 : decode cX5_eliminate 23 = .ok (.istore_n 1, 1) := by decide +kernel
theorem dX5_eliminate_24 : decode cX5_eliminate 24 = .ok (.lconst 1, 1) := by decide +kernel
theorem dX5_eliminate_25 : decode cX5_eliminate 25 = .ok (.lstore_n 2, 1) := by decide +kernel
theorem dX5_eliminate_26 : decode cX5_eliminate 26 = .ok (.iconst 0, 1) := by decide +kernel
theorem dX5_eliminate_27 : decode cX5_eliminate 27 = .ok (.istore 4, 2) := by decide +kernel
theorem dX5_eliminate_29 : decode cX5_eliminate 29 = .ok (.iload 4, 2) := by decide +kernel
theorem dX5_eliminate_31 : decode cX5_eliminate 31 = .ok (.aload_n 0, 1) := by decide +kernel
theorem dX5_eliminate_32 : decode cX5_eliminate 32 = .ok (.getfield 25, 3) := by decide +kernel
theorem dX5_eliminate_35 : decode cX5_eliminate 35 = .ok (.if_icmp .ge 76, 3) := by decide +kernel
theorem dX5_eliminate_111 : decode cX5_eliminate 111 = .ok (.aload_n 0, 1) := by decide +kernel
theorem dX5_eliminate_112 : decode cX5_eliminate 112 = .ok (.lload_n 2, 1) := by decide +kernel
theorem dX5_eliminate_113 : decode cX5_eliminate 113 = .ok (.putfield 50, 3) := by decide +kernel
theorem dX5_eliminate_116 : decode cX5_eliminate 116 = .ok (.iload_n 1, 1) := by decide +kernel
theorem dX5_eliminate_117 : decode cX5_eliminate 117 = .ok (.ireturn, 1) := by decide +kernel
theorem dX6_init_0 : decode cX6_init 0 = .ok (.aload_n 0, 1) := by decide +kernel
theorem dX6_init_1 : decode cX6_init 1 = .ok (.invokespecial 3, 3) := by decide +kernel
theorem dX6_init_4 : decode cX6_init 4 = .ok (.aload_n 0, 1) := by decide +kernel
theorem dX6_init_5 : decode cX6_init 5 = .ok (.bipush 64, 2) := by decide +kernel
theorem dX6_init_7 : decode cX6_init 7 = .ok (.newarray .int, 2) := by decide +kernel
theorem dX6_init_9 : decode cX6_init 9 = .ok (.putfield 9, 3) := by decide +kernel
theorem dX6_init_12 : decode cX6_init 12 = .ok (.aload_n 0, 1) := by decide +kernel
theorem dX6_init_13 : decode cX6_init 13 = .ok (.aload_n 1, 1) := by decide +kernel
theorem dX6_init_14 : decode cX6_init 14 = .ok (.putfield 15, 3) := by decide +kernel
theorem dX6_init_17 : decode cX6_init 17 = .ok (.aload_n 0, 1) := by decide +kernel
theorem dX6_init_18 : decode cX6_init 18 = .ok (.getfield 9, 3) := by decide +kernel
theorem dX6_init_21 : decode cX6_init 21 = .ok (.iconst (-1), 1) := by decide +kernel
theorem dX6_init_22 : decode cX6_init 22 = .ok (.invokestatic 19, 3) := by decide +kernel
theorem dX6_init_25 : decode cX6_init 25 = .ok (.return_, 1) := by decide +kernel
theorem dX6_unpaired_0 : decode cX6_unpaired 0 = .ok (.aload_n 0, 1) := by decide +kernel
theorem dX6_unpaired_1 : decode cX6_unpaired 1 = .ok (.getfield 25, 3) := by decide +kernel
theorem dX6_unpaired_4 : decode cX6_unpaired 4 = .ok (.aload_n 0, 1) := by decide +kernel
theorem dX6_unpaired_5 : decode cX6_unpaired 5 = .ok (.getfield 29, 3) := by decide +kernel
theorem dX6_unpaired_8 : decode cX6_unpaired 8 = .ok (.aload_n 0, 1) := by decide +kernel
theorem dX6_unpaired_9 : decode cX6_unpaired 9 = .ok (.getfield 32, 3) := by decide +kernel
theorem dX6_unpaired_12 : decode cX6_unpaired 12 = .ok (.lor, 1) := by decide +kernel
theorem dX6_unpaired_13 : decode cX6_unpaired 13 = .ok (.ldc2_w 43, 3) := by decide +kernel
theorem dX6_unpaired_16 : decode cX6_unpaired 16 = .ok (.lxor, 1) := by decide +kernel
theorem dX6_unpaired_17 : decode cX6_unpaired 17 = .ok (.land, 1) := by decide +kernel
theorem dX6_unpaired_18 : decode cX6_unpaired 18 = .ok (.lreturn, 1) := by decide +kernel
theorem dX6_howMany_0 : decode cX6_howMany 0 = .ok (.aload_n 0, 1) := by decide +kernel
theorem dX6_howMany_1 : decode cX6_howMany 1 = .ok (.getfield 29, 3) := by decide +kernel
theorem dX6_howMany_4 : decode cX6_howMany 4 = .ok (.invokestatic 65, 3) := by decide +kernel
theorem dX6_howMany_7 : decode cX6_howMany 7 = .ok (.ireturn, 1) := by decide +kernel
theorem dX7_init_0 : decode cX7_init 0 = .ok (.aload_n 0, 1) := by decide +kernel
theorem dX7_init_1 : decode cX7_init 1 = .ok (.invokespecial 3, 3) := by decide +kernel
theorem dX7_init_4 : decode cX7_init 4 = .ok (.aload_n 0, 1) := by decide +kernel
theorem dX7_init_5 : decode cX7_init 5 = .ok (.aload_n 1, 1) := by decide +kernel
theorem dX7_init_6 : decode cX7_init 6 = .ok (.putfield 9, 3) := by decide +kernel
theorem dX7_init_9 : decode cX7_init 9 = .ok (.return_, 1) := by decide +kernel
theorem dX8_init_0 : decode cX8_init 0 = .ok (.aload_n 0, 1) := by decide +kernel
theorem dX8_init_1 : decode cX8_init 1 = .ok (.invokespecial 3, 3) := by decide +kernel
theorem dX8_init_4 : decode cX8_init 4 = .ok (.aload_n 0, 1) := by decide +kernel
theorem dX8_init_5 : decode cX8_init 5 = .ok (.sipush 256, 3) := by decide +kernel
theorem dX8_init_8 : decode cX8_init 8 = .ok (.newarray .int, 2) := by decide +kernel
theorem dX8_init_10 : decode cX8_init 10 = .ok (.putfield 9, 3) := by decide +kernel
theorem dX8_init_13 : decode cX8_init 13 = .ok (.return_, 1) := by decide +kernel
theorem dX8_read_0 : decode cX8_read 0 = .ok (.aload_n 0, 1) := by decide +kernel
theorem dX8_read_1 : decode cX8_read 1 = .ok (.getfield 9, 3) := by decide +kernel
theorem dX8_read_4 : decode cX8_read 4 = .ok (.iconst 0, 1) := by decide +kernel
theorem dX8_read_5 : decode cX8_read 5 = .ok (.invokestatic 15, 3) := by decide +kernel
theorem dX8_read_8 : decode cX8_read 8 = .ok (.aload_n 0, 1) := by decide +kernel
theorem dX8_read_9 : decode cX8_read 9 = .ok (.iconst 0, 1) := by decide +kernel
theorem dX8_read_10 : decode cX8_read 10 = .ok (.putfield 21, 3) := by decide +kernel
theorem dX8_read_13 : decode cX8_read 13 = .ok (.aload_n 0, 1) := by decide +kernel
theorem dX8_read_14 : decode cX8_read 14 = .ok (.iconst 0, 1) := by decide +kernel
theorem dX8_read_15 : decode cX8_read 15 = .ok (.putfield 25, 3) := by decide +kernel
theorem dX8_read_18 : decode cX8_read 18 = .ok (.iconst 0, 1) := by decide +kernel
theorem dX8_read_19 : decode cX8_read 19 = .ok (.istore_n 2, 1) := by decide +kernel
theorem dX8_read_20 : decode cX8_read 20 = .ok (.iload_n 2, 1) := by decide +kernel
theorem dX8_read_21 : decode cX8_read 21 = .ok (.bipush 24, 2) := by decide +kernel
theorem dX8_read_23 : decode cX8_read 23 = .ok (.if_icmp .gt 77, 3) := by decide +kernel
theorem dX8_read_26 : decode cX8_read 26 = .ok (.aload_n 0, 1) := by decide +kernel
theorem dX8_read_27 : decode cX8_read 27 = .ok (.aload_n 1, 1) := by decide +kernel
theorem dX8_read_28 : decode cX8_read 28 = .ok (.invokevirtual 28, 3) := by decide +kernel
theorem dX8_read_31 : decode cX8_read 31 = .ok (.aload_n 0, 1) := by decide +kernel
theorem dX8_read_32 : decode cX8_read 32 = .ok (.aload_n 1, 1) := by decide +kernel
theorem dX8_read_33 : decode cX8_read 33 = .ok (.iload_n 2, 1) := by decide +kernel
theorem dX8_read_34 : decode cX8_read 34 = .ok (.invokevirtual 32, 3) := by decide +kernel
theorem dX8_read_37 : decode cX8_read 37 = .ok (.istore_n 3, 1) := by decide +kernel
theorem dX8_read_38 : decode cX8_read 38 = .ok (.iload_n 3, 1) := by decide +kernel
theorem dX8_read_39 : decode cX8_read 39 = .ok (.ifCond .eq 5, 3) := by decide +kernel
theorem dX8_read_42 : decode cX8_read 42 = .ok (.iload_n 3, 1) := by decide +kernel
theorem dX8_read_43 : decode cX8_read 43 = .ok (.ireturn, 1) := by decide +kernel
theorem dX8_readFacet_0 : decode cX8_readFacet 0 = .ok (.aload_n 0, 1) := by decide +kernel
theorem dX8_readFacet_1 : decode cX8_readFacet 1 = .ok (.getfield 25, 3) := by decide +kernel
theorem dX8_readFacet_4 : decode cX8_readFacet 4 = .ok (.istore_n 3, 1) := by decide +kernel
theorem dX8_readFacet_5 : decode cX8_readFacet 5 = .ok (.aload_n 1, 1) := by decide +kernel
theorem dX8_readFacet_6 : decode cX8_readFacet 6 = .ok (.aload_n 0, 1) := by decide +kernel
theorem dX8_readFacet_7 : decode cX8_readFacet 7 = .ok (.getfield 25, 3) := by decide +kernel
theorem dX8_readFacet_10 : decode cX8_readFacet 10 = .ok (.invokevirtual 41, 3) := by decide +kernel
theorem dX8_readFacet_13 : decode cX8_readFacet 13 = .ok (.invokestatic 49, 3) := by decide +kernel
theorem dX8_readFacet_16 : decode cX8_readFacet 16 = .ok (.ifCond .ne 12, 3) := by decide +kernel
theorem dX8_readFacet_19 : decode cX8_readFacet 19 = .ok (.aload_n 0, 1) := by decide +kernel
theorem dX8_readFacet_20 : decode cX8_readFacet 20 = .ok (.getfield 25, 3) := by decide +kernel
theorem dX8_readFacet_23 : decode cX8_readFacet 23 = .ok (.iconst 1, 1) := by decide +kernel
theorem dX8_readFacet_24 : decode cX8_readFacet 24 = .ok (.invokestatic 45, 3) := by decide +kernel
theorem dX8_readFacet_27 : decode cX8_readFacet 27 = .ok (.ireturn, 1) := by decide +kernel
theorem dX8_skipBlanks_0 : decode cX8_skipBlanks 0 = .ok (.aload_n 0, 1) := by decide +kernel
theorem dX8_skipBlanks_1 : decode cX8_skipBlanks 1 = .ok (.getfield 25, 3) := by decide +kernel
theorem dX8_skipBlanks_4 : decode cX8_skipBlanks 4 = .ok (.aload_n 1, 1) := by decide +kernel
theorem dX8_skipBlanks_5 : decode cX8_skipBlanks 5 = .ok (.getfield 36, 3) := by decide +kernel
theorem dX8_skipBlanks_8 : decode cX8_skipBlanks 8 = .ok (.if_icmp .ge 29, 3) := by decide +kernel
theorem dX8_skipBlanks_37 : decode cX8_skipBlanks 37 = .ok (.return_, 1) := by decide +kernel
theorem dX8_isLetter_0 : decode cX8_isLetter 0 = .ok (.iload_n 0, 1) := by decide +kernel
theorem dX8_isLetter_1 : decode cX8_isLetter 1 = .ok (.bipush 97, 2) := by decide +kernel
theorem dX8_isLetter_3 : decode cX8_isLetter 3 = .ok (.if_icmp .lt 13, 3) := by decide +kernel
theorem dX8_isLetter_16 : decode cX8_isLetter 16 = .ok (.iconst 0, 1) := by decide +kernel
theorem dX8_isLetter_17 : decode cX8_isLetter 17 = .ok (.ireturn, 1) := by decide +kernel
theorem dX8_fault_0 : decode cX8_fault 0 = .ok (.bipush 8, 2) := by decide +kernel
theorem dX8_fault_2 : decode cX8_fault 2 = .ok (.iload_n 0, 1) := by decide +kernel
theorem dX8_fault_3 : decode cX8_fault 3 = .ok (.imul, 1) := by decide +kernel
theorem dX8_fault_4 : decode cX8_fault 4 = .ok (.iload_n 1, 1) := by decide +kernel
theorem dX8_fault_5 : decode cX8_fault 5 = .ok (.iadd, 1) := by decide +kernel
theorem dX8_fault_6 : decode cX8_fault 6 = .ok (.ireturn, 1) := by decide +kernel
theorem dX9_init_0 : decode cX9_init 0 = .ok (.aload_n 0, 1) := by decide +kernel
theorem dX9_init_1 : decode cX9_init 1 = .ok (.invokespecial 3, 3) := by decide +kernel
theorem dX9_init_4 : decode cX9_init 4 = .ok (.aload_n 0, 1) := by decide +kernel
theorem dX9_init_5 : decode cX9_init 5 = .ok (.bipush 64, 2) := by decide +kernel
theorem dX9_init_7 : decode cX9_init 7 = .ok (.newarray .int, 2) := by decide +kernel
theorem dX9_init_9 : decode cX9_init 9 = .ok (.putfield 9, 3) := by decide +kernel
theorem dX9_init_12 : decode cX9_init 12 = .ok (.aload_n 0, 1) := by decide +kernel
theorem dX9_init_13 : decode cX9_init 13 = .ok (.bipush 64, 2) := by decide +kernel
theorem dX9_init_15 : decode cX9_init 15 = .ok (.newarray .int, 2) := by decide +kernel
theorem dX9_init_17 : decode cX9_init 17 = .ok (.putfield 15, 3) := by decide +kernel
theorem dX9_init_20 : decode cX9_init 20 = .ok (.aload_n 0, 1) := by decide +kernel
theorem dX9_init_21 : decode cX9_init 21 = .ok (.sipush 256, 3) := by decide +kernel
theorem dX9_init_24 : decode cX9_init 24 = .ok (.newarray .int, 2) := by decide +kernel
theorem dX9_init_26 : decode cX9_init 26 = .ok (.putfield 18, 3) := by decide +kernel
theorem dX9_init_29 : decode cX9_init 29 = .ok (.aload_n 0, 1) := by decide +kernel
theorem dX9_init_30 : decode cX9_init 30 = .ok (.bipush 64, 2) := by decide +kernel
theorem dX9_init_32 : decode cX9_init 32 = .ok (.newarray .long, 2) := by decide +kernel
theorem dX9_init_34 : decode cX9_init 34 = .ok (.putfield 21, 3) := by decide +kernel
theorem dX9_init_37 : decode cX9_init 37 = .ok (.aload_n 0, 1) := by decide +kernel
theorem dX9_init_38 : decode cX9_init 38 = .ok (.bipush 64, 2) := by decide +kernel
theorem dX9_init_40 : decode cX9_init 40 = .ok (.newarray .long, 2) := by decide +kernel
theorem dX9_init_42 : decode cX9_init 42 = .ok (.putfield 25, 3) := by decide +kernel
theorem dX9_init_45 : decode cX9_init 45 = .ok (.aload_n 0, 1) := by decide +kernel
theorem dX9_init_46 : decode cX9_init 46 = .ok (.iconst 5, 1) := by decide +kernel
theorem dX9_init_47 : decode cX9_init 47 = .ok (.newarray .long, 2) := by decide +kernel
theorem dX9_init_49 : decode cX9_init 49 = .ok (.putfield 28, 3) := by decide +kernel
theorem dX9_init_52 : decode cX9_init 52 = .ok (.aload_n 0, 1) := by decide +kernel
theorem dX9_init_53 : decode cX9_init 53 = .ok (.getfield 18, 3) := by decide +kernel
theorem dX9_init_56 : decode cX9_init 56 = .ok (.iconst (-1), 1) := by decide +kernel
theorem dX9_init_57 : decode cX9_init 57 = .ok (.invokestatic 31, 3) := by decide +kernel
theorem dX9_init_60 : decode cX9_init 60 = .ok (.return_, 1) := by decide +kernel
theorem dX9_has_0 : decode cX9_has 0 = .ok (.iload_n 1, 1) := by decide +kernel
theorem dX9_has_1 : decode cX9_has 1 = .ok (.ifCond .lt 15, 3) := by decide +kernel
theorem dX9_has_4 : decode cX9_has 4 = .ok (.iload_n 1, 1) := by decide +kernel
theorem dX9_has_5 : decode cX9_has 5 = .ok (.aload_n 0, 1) := by decide +kernel
theorem dX9_has_6 : decode cX9_has 6 = .ok (.getfield 37, 3) := by decide +kernel
theorem dX9_has_9 : decode cX9_has 9 = .ok (.if_icmp .ge 7, 3) := by decide +kernel
theorem dX9_has_16 : decode cX9_has 16 = .ok (.iconst 0, 1) := by decide +kernel
theorem dX9_has_17 : decode cX9_has 17 = .ok (.ireturn, 1) := by decide +kernel
theorem dX9_eulerOf_0 : decode cX9_eulerOf 0 = .ok (.iconst 0, 1) := by decide +kernel
theorem dX9_eulerOf_1 : decode cX9_eulerOf 1 = .ok (.istore_n 3, 1) := by decide +kernel
theorem dX9_eulerOf_2 : decode cX9_eulerOf 2 = .ok (.iconst 0, 1) := by decide +kernel
theorem dX9_eulerOf_3 : decode cX9_eulerOf 3 = .ok (.istore 4, 2) := by decide +kernel
theorem dX9_eulerOf_5 : decode cX9_eulerOf 5 = .ok (.iload 4, 2) := by decide +kernel
theorem dX9_eulerOf_7 : decode cX9_eulerOf 7 = .ok (.iconst 5, 1) := by decide +kernel
theorem dX9_eulerOf_8 : decode cX9_eulerOf 8 = .ok (.if_icmp .ge 41, 3) := by decide +kernel
theorem dX9_eulerOf_11 : decode cX9_eulerOf 11 = .ok (.lload_n 1, 1) := by decide +kernel
theorem dX9_eulerOf_12 : decode cX9_eulerOf 12 = .ok (.aload_n 0, 1) := by decide +kernel
theorem dX9_eulerOf_13 : decode cX9_eulerOf 13 = .ok (.getfield 28, 3) := by decide +kernel
theorem dX9_eulerOf_16 : decode cX9_eulerOf 16 = .ok (.iload 4, 2) := by decide +kernel
theorem dX9_eulerOf_18 : decode cX9_eulerOf 18 = .ok (.laload, 1) := by decide +kernel
theorem dX9_eulerOf_19 : decode cX9_eulerOf 19 = .ok (.land, 1) := by decide +kernel
theorem dX9_eulerOf_20 : decode cX9_eulerOf 20 = .ok (.invokestatic 62, 3) := by decide +kernel
theorem dX9_eulerOf_23 : decode cX9_eulerOf 23 = .ok (.istore 5, 2) := by decide +kernel
theorem dX9_eulerOf_25 : decode cX9_eulerOf 25 = .ok (.iload_n 3, 1) := by decide +kernel
theorem dX9_eulerOf_26 : decode cX9_eulerOf 26 = .ok (.iload 4, 2) := by decide +kernel
theorem dX9_eulerOf_28 : decode cX9_eulerOf 28 = .ok (.iconst 1, 1) := by decide +kernel
theorem dX9_eulerOf_29 : decode cX9_eulerOf 29 = .ok (.iand, 1) := by decide +kernel
theorem dX9_eulerOf_30 : decode cX9_eulerOf 30 = .ok (.ifCond .ne 8, 3) := by decide +kernel
theorem dX9_eulerOf_33 : decode cX9_eulerOf 33 = .ok (.iload 5, 2) := by decide +kernel
theorem dX9_eulerOf_35 : decode cX9_eulerOf 35 = .ok (.goto 6, 3) := by decide +kernel
theorem dX9_eulerOf_38 : decode cX9_eulerOf 38 = .ok (.iload 5, 2) := by decide +kernel
theorem dX9_eulerOf_40 : decode cX9_eulerOf 40 = .ok (.ineg, 1) := by decide +kernel
theorem dX9_eulerOf_41 : decode cX9_eulerOf 41 = .ok (.iadd, 1) := by decide +kernel
theorem dX9_eulerOf_42 : decode cX9_eulerOf 42 = .ok (.istore_n 3, 1) := by decide +kernel
theorem dX9_eulerOf_43 : decode cX9_eulerOf 43 = .ok (.iinc 4 1, 3) := by decide +kernel
theorem dX9_eulerOf_46 : decode cX9_eulerOf 46 = .ok (.goto (-41), 3) := by decide +kernel
theorem dX9_eulerOf_49 : decode cX9_eulerOf 49 = .ok (.iload_n 3, 1) := by decide +kernel
theorem dX9_eulerOf_50 : decode cX9_eulerOf 50 = .ok (.ireturn, 1) := by decide +kernel
theorem dX9_greatestDim_0 : decode cX9_greatestDim 0 = .ok (.iconst (-1), 1) := by decide +kernel
theorem dX9_greatestDim_1 : decode cX9_greatestDim 1 = .ok (.istore_n 3, 1) := by decide +kernel
theorem dX9_greatestDim_2 : decode cX9_greatestDim 2 = .ok (.iconst 0, 1) := by decide +kernel
theorem dX9_greatestDim_3 : decode cX9_greatestDim 3 = .ok (.istore 4, 2) := by decide +kernel
theorem dX9_greatestDim_5 : decode cX9_greatestDim 5 = .ok (.iload 4, 2) := by decide +kernel
theorem dX9_greatestDim_7 : decode cX9_greatestDim 7 = .ok (.iconst 5, 1) := by decide +kernel
theorem dX9_greatestDim_8 : decode cX9_greatestDim 8 = .ok (.if_icmp .ge 26, 3) := by decide +kernel
theorem dX9_greatestDim_11 : decode cX9_greatestDim 11 = .ok (.lload_n 1, 1) := by decide +kernel
theorem dX9_greatestDim_12 : decode cX9_greatestDim 12 = .ok (.aload_n 0, 1) := by decide +kernel
theorem dX9_greatestDim_13 : decode cX9_greatestDim 13 = .ok (.getfield 28, 3) := by decide +kernel
theorem dX9_greatestDim_16 : decode cX9_greatestDim 16 = .ok (.iload 4, 2) := by decide +kernel
theorem dX9_greatestDim_18 : decode cX9_greatestDim 18 = .ok (.laload, 1) := by decide +kernel
theorem dX9_greatestDim_19 : decode cX9_greatestDim 19 = .ok (.land, 1) := by decide +kernel
theorem dX9_greatestDim_20 : decode cX9_greatestDim 20 = .ok (.lconst 0, 1) := by decide +kernel
theorem dX9_greatestDim_21 : decode cX9_greatestDim 21 = .ok (.lcmp, 1) := by decide +kernel
theorem dX9_greatestDim_22 : decode cX9_greatestDim 22 = .ok (.ifCond .eq 6, 3) := by decide +kernel
theorem dX9_greatestDim_28 : decode cX9_greatestDim 28 = .ok (.iinc 4 1, 3) := by decide +kernel
theorem dX9_greatestDim_31 : decode cX9_greatestDim 31 = .ok (.goto (-26), 3) := by decide +kernel
theorem dX9_greatestDim_34 : decode cX9_greatestDim 34 = .ok (.iload_n 3, 1) := by decide +kernel
theorem dX9_greatestDim_35 : decode cX9_greatestDim 35 = .ok (.ireturn, 1) := by decide +kernel
theorem dX9_withFaces_0 : decode cX9_withFaces 0 = .ok (.lload_n 1, 1) := by decide +kernel
theorem dX9_withFaces_1 : decode cX9_withFaces 1 = .ok (.lstore_n 3, 1) := by decide +kernel
theorem dX9_withFaces_2 : decode cX9_withFaces 2 = .ok (.aload_n 0, 1) := by decide +kernel
theorem dX9_withFaces_3 : decode cX9_withFaces 3 = .ok (.getfield 37, 3) := by decide +kernel
theorem dX9_withFaces_6 : decode cX9_withFaces 6 = .ok (.iconst 1, 1) := by decide +kernel
theorem dX9_withFaces_7 : decode cX9_withFaces 7 = .ok (.isub, 1) := by decide +kernel
theorem dX9_withFaces_8 : decode cX9_withFaces 8 = .ok (.istore 5, 2) := by decide +kernel
theorem dX9_withFaces_10 : decode cX9_withFaces 10 = .ok (.iload 5, 2) := by decide +kernel
theorem dX9_withFaces_12 : decode cX9_withFaces 12 = .ok (.ifCond .lt 28, 3) := by decide +kernel
theorem dX9_withFaces_40 : decode cX9_withFaces 40 = .ok (.lload_n 3, 1) := by decide +kernel
theorem dX9_withFaces_41 : decode cX9_withFaces 41 = .ok (.lreturn, 1) := by decide +kernel
theorem dX9_partsOf_0 : decode cX9_partsOf 0 = .ok (.iconst 0, 1) := by decide +kernel
theorem dX9_partsOf_1 : decode cX9_partsOf 1 = .ok (.istore_n 3, 1) := by decide +kernel
theorem dX9_partsOf_2 : decode cX9_partsOf 2 = .ok (.lload_n 1, 1) := by decide +kernel
theorem dX9_partsOf_3 : decode cX9_partsOf 3 = .ok (.lstore 4, 2) := by decide +kernel
theorem dX9_partsOf_5 : decode cX9_partsOf 5 = .ok (.lload 4, 2) := by decide +kernel
theorem dX9_partsOf_7 : decode cX9_partsOf 7 = .ok (.lconst 0, 1) := by decide +kernel
theorem dX9_partsOf_8 : decode cX9_partsOf 8 = .ok (.lcmp, 1) := by decide +kernel
theorem dX9_partsOf_9 : decode cX9_partsOf 9 = .ok (.ifCond .eq 34, 3) := by decide +kernel
theorem dX9_partsOf_43 : decode cX9_partsOf 43 = .ok (.iload_n 3, 1) := by decide +kernel
theorem dX9_partsOf_44 : decode cX9_partsOf 44 = .ok (.ireturn, 1) := by decide +kernel
theorem dX10_init_0 : decode cX10_init 0 = .ok (.aload_n 0, 1) := by decide +kernel
theorem dX10_init_1 : decode cX10_init 1 = .ok (.invokespecial 3, 3) := by decide +kernel
theorem dX10_init_4 : decode cX10_init 4 = .ok (.aload_n 0, 1) := by decide +kernel
theorem dX10_init_5 : decode cX10_init 5 = .ok (.sipush 160, 3) := by decide +kernel
theorem dX10_init_8 : decode cX10_init 8 = .ok (.newarray .int, 2) := by decide +kernel
theorem dX10_init_10 : decode cX10_init 10 = .ok (.putfield 9, 3) := by decide +kernel
theorem dX10_init_13 : decode cX10_init 13 = .ok (.return_, 1) := by decide +kernel
theorem dX10_append_0 : decode cX10_append 0 = .ok (.bipush 24, 2) := by decide +kernel
theorem dX10_append_2 : decode cX10_append 2 = .ok (.istore_n 2, 1) := by decide +kernel
theorem dX10_append_3 : decode cX10_append 3 = .ok (.iload_n 2, 1) := by decide +kernel
theorem dX10_append_4 : decode cX10_append 4 = .ok (.ifCond .lt 45, 3) := by decide +kernel
theorem dX10_append_7 : decode cX10_append 7 = .ok (.aload_n 0, 1) := by decide +kernel
theorem dX10_append_8 : decode cX10_append 8 = .ok (.getfield 15, 3) := by decide +kernel
theorem dX10_append_11 : decode cX10_append 11 = .ok (.sipush 160, 3) := by decide +kernel
theorem dX10_append_14 : decode cX10_append 14 = .ok (.if_icmp .ge 35, 3) := by decide +kernel
theorem dX10_append_17 : decode cX10_append 17 = .ok (.aload_n 0, 1) := by decide +kernel
theorem dX10_append_18 : decode cX10_append 18 = .ok (.getfield 9, 3) := by decide +kernel
theorem dX10_append_21 : decode cX10_append 21 = .ok (.aload_n 0, 1) := by decide +kernel
theorem dX10_append_22 : decode cX10_append 22 = .ok (.getfield 15, 3) := by decide +kernel
theorem dX10_append_25 : decode cX10_append 25 = .ok (.iload_n 1, 1) := by decide +kernel
theorem dX10_append_26 : decode cX10_append 26 = .ok (.iload_n 2, 1) := by decide +kernel
theorem dX10_append_27 : decode cX10_append 27 = .ok (.iushr, 1) := by decide +kernel
theorem dX10_append_28 : decode cX10_append 28 = .ok (.sipush 255, 3) := by decide +kernel
theorem dX10_append_31 : decode cX10_append 31 = .ok (.iand, 1) := by decide +kernel
theorem dX10_append_32 : decode cX10_append 32 = .ok (.iastore, 1) := by decide +kernel
theorem dX10_append_33 : decode cX10_append 33 = .ok (.aload_n 0, 1) := by decide +kernel
theorem dX10_append_34 : decode cX10_append 34 = .ok (.dup, 1) := by decide +kernel
theorem dX10_append_35 : decode cX10_append 35 = .ok (.getfield 15, 3) := by decide +kernel
theorem dX10_append_38 : decode cX10_append 38 = .ok (.iconst 1, 1) := by decide +kernel
theorem dX10_append_39 : decode cX10_append 39 = .ok (.iadd, 1) := by decide +kernel
theorem dX10_append_40 : decode cX10_append 40 = .ok (.putfield 15, 3) := by decide +kernel
theorem dX10_append_43 : decode cX10_append 43 = .ok (.iinc 2 (-8), 3) := by decide +kernel
theorem dX10_append_46 : decode cX10_append 46 = .ok (.goto (-43), 3) := by decide +kernel
theorem dX10_append_49 : decode cX10_append 49 = .ok (.return_, 1) := by decide +kernel
theorem dX10_at_0 : decode cX10_at 0 = .ok (.iload_n 1, 1) := by decide +kernel
theorem dX10_at_1 : decode cX10_at 1 = .ok (.ifCond .lt 20, 3) := by decide +kernel
theorem dX10_at_4 : decode cX10_at 4 = .ok (.iload_n 1, 1) := by decide +kernel
theorem dX10_at_5 : decode cX10_at 5 = .ok (.aload_n 0, 1) := by decide +kernel
theorem dX10_at_6 : decode cX10_at 6 = .ok (.getfield 15, 3) := by decide +kernel
theorem dX10_at_9 : decode cX10_at 9 = .ok (.if_icmp .ge 12, 3) := by decide +kernel
theorem dX10_at_21 : decode cX10_at 21 = .ok (.iconst (-1), 1) := by decide +kernel
theorem dX10_at_22 : decode cX10_at 22 = .ok (.ireturn, 1) := by decide +kernel
theorem dX11_init_0 : decode cX11_init 0 = .ok (.aload_n 0, 1) := by decide +kernel
theorem dX11_init_1 : decode cX11_init 1 = .ok (.invokespecial 1, 3) := by decide +kernel
theorem dX11_init_4 : decode cX11_init 4 = .ok (.aload_n 0, 1) := by decide +kernel
theorem dX11_init_5 : decode cX11_init 5 = .ok (.new 7, 3) := by decide +kernel
theorem dX11_init_8 : decode cX11_init 8 = .ok (.dup, 1) := by decide +kernel
theorem dX11_init_9 : decode cX11_init 9 = .ok (.invokespecial 9, 3) := by decide +kernel
theorem dX11_init_12 : decode cX11_init 12 = .ok (.putfield 10, 3) := by decide +kernel
theorem dX11_init_15 : decode cX11_init 15 = .ok (.aload_n 0, 1) := by decide +kernel
theorem dX11_init_16 : decode cX11_init 16 = .ok (.new 16, 3) := by decide +kernel
theorem dX11_init_19 : decode cX11_init 19 = .ok (.dup, 1) := by decide +kernel
theorem dX11_init_20 : decode cX11_init 20 = .ok (.invokespecial 18, 3) := by decide +kernel
theorem dX11_init_23 : decode cX11_init 23 = .ok (.putfield 19, 3) := by decide +kernel
theorem dX11_init_26 : decode cX11_init 26 = .ok (.aload_n 0, 1) := by decide +kernel
theorem dX11_init_27 : decode cX11_init 27 = .ok (.new 23, 3) := by decide +kernel
theorem dX11_init_30 : decode cX11_init 30 = .ok (.dup, 1) := by decide +kernel
theorem dX11_init_31 : decode cX11_init 31 = .ok (.invokespecial 25, 3) := by decide +kernel
theorem dX11_init_34 : decode cX11_init 34 = .ok (.putfield 26, 3) := by decide +kernel
theorem dX11_init_37 : decode cX11_init 37 = .ok (.aload_n 0, 1) := by decide +kernel
theorem dX11_init_38 : decode cX11_init 38 = .ok (.new 30, 3) := by decide +kernel
theorem dX11_init_41 : decode cX11_init 41 = .ok (.dup, 1) := by decide +kernel
theorem dX11_init_42 : decode cX11_init 42 = .ok (.aload_n 0, 1) := by decide +kernel
theorem dX11_init_43 : decode cX11_init 43 = .ok (.getfield 26, 3) := by decide +kernel
theorem dX11_init_46 : decode cX11_init 46 = .ok (.invokespecial 32, 3) := by decide +kernel
theorem dX11_init_49 : decode cX11_init 49 = .ok (.putfield 35, 3) := by decide +kernel
theorem dX11_init_52 : decode cX11_init 52 = .ok (.aload_n 0, 1) := by decide +kernel
theorem dX11_init_53 : decode cX11_init 53 = .ok (.new 39, 3) := by decide +kernel
theorem dX11_init_56 : decode cX11_init 56 = .ok (.dup, 1) := by decide +kernel
theorem dX11_init_57 : decode cX11_init 57 = .ok (.aload_n 0, 1) := by decide +kernel
theorem dX11_init_58 : decode cX11_init 58 = .ok (.getfield 26, 3) := by decide +kernel
theorem dX11_init_61 : decode cX11_init 61 = .ok (.invokespecial 41, 3) := by decide +kernel
theorem dX11_init_64 : decode cX11_init 64 = .ok (.putfield 42, 3) := by decide +kernel
theorem dX11_init_67 : decode cX11_init 67 = .ok (.aload_n 0, 1) := by decide +kernel
theorem dX11_init_68 : decode cX11_init 68 = .ok (.new 46, 3) := by decide +kernel
theorem dX11_init_71 : decode cX11_init 71 = .ok (.dup, 1) := by decide +kernel
theorem dX11_init_72 : decode cX11_init 72 = .ok (.aload_n 0, 1) := by decide +kernel
theorem dX11_init_73 : decode cX11_init 73 = .ok (.getfield 26, 3) := by decide +kernel
theorem dX11_init_76 : decode cX11_init 76 = .ok (.aload_n 0, 1) := by decide +kernel
theorem dX11_init_77 : decode cX11_init 77 = .ok (.getfield 35, 3) := by decide +kernel
theorem dX11_init_80 : decode cX11_init 80 = .ok (.invokespecial 48, 3) := by decide +kernel
theorem dX11_init_83 : decode cX11_init 83 = .ok (.putfield 51, 3) := by decide +kernel
theorem dX11_init_86 : decode cX11_init 86 = .ok (.aload_n 0, 1) := by decide +kernel
theorem dX11_init_87 : decode cX11_init 87 = .ok (.new 55, 3) := by decide +kernel
theorem dX11_init_90 : decode cX11_init 90 = .ok (.dup, 1) := by decide +kernel
theorem dX11_init_91 : decode cX11_init 91 = .ok (.aload_n 0, 1) := by decide +kernel
theorem dX11_init_92 : decode cX11_init 92 = .ok (.getfield 26, 3) := by decide +kernel
theorem dX11_init_95 : decode cX11_init 95 = .ok (.aload_n 0, 1) := by decide +kernel
theorem dX11_init_96 : decode cX11_init 96 = .ok (.getfield 35, 3) := by decide +kernel
theorem dX11_init_99 : decode cX11_init 99 = .ok (.aload_n 0, 1) := by decide +kernel
theorem dX11_init_100 : decode cX11_init 100 = .ok (.getfield 51, 3) := by decide +kernel
theorem dX11_init_103 : decode cX11_init 103 = .ok (.invokespecial 57, 3) := by decide +kernel
theorem dX11_init_106 : decode cX11_init 106 = .ok (.putfield 60, 3) := by decide +kernel
theorem dX11_init_109 : decode cX11_init 109 = .ok (.aload_n 0, 1) := by decide +kernel
theorem dX11_init_110 : decode cX11_init 110 = .ok (.new 64, 3) := by decide +kernel
theorem dX11_init_113 : decode cX11_init 113 = .ok (.dup, 1) := by decide +kernel
theorem dX11_init_114 : decode cX11_init 114 = .ok (.aload_n 0, 1) := by decide +kernel
theorem dX11_init_115 : decode cX11_init 115 = .ok (.getfield 26, 3) := by decide +kernel
theorem dX11_init_118 : decode cX11_init 118 = .ok (.aload_n 0, 1) := by decide +kernel
theorem dX11_init_119 : decode cX11_init 119 = .ok (.getfield 60, 3) := by decide +kernel
theorem dX11_init_122 : decode cX11_init 122 = .ok (.invokespecial 66, 3) := by decide +kernel
theorem dX11_init_125 : decode cX11_init 125 = .ok (.putfield 69, 3) := by decide +kernel
theorem dX11_init_128 : decode cX11_init 128 = .ok (.aload_n 0, 1) := by decide +kernel
theorem dX11_init_129 : decode cX11_init 129 = .ok (.new 73, 3) := by decide +kernel
theorem dX11_init_132 : decode cX11_init 132 = .ok (.dup, 1) := by decide +kernel
theorem dX11_init_133 : decode cX11_init 133 = .ok (.invokespecial 75, 3) := by decide +kernel
theorem dX11_init_136 : decode cX11_init 136 = .ok (.putfield 76, 3) := by decide +kernel
theorem dX11_init_139 : decode cX11_init 139 = .ok (.aload_n 0, 1) := by decide +kernel
theorem dX11_init_140 : decode cX11_init 140 = .ok (.new 80, 3) := by decide +kernel
theorem dX11_init_143 : decode cX11_init 143 = .ok (.dup, 1) := by decide +kernel
theorem dX11_init_144 : decode cX11_init 144 = .ok (.invokespecial 82, 3) := by decide +kernel
theorem dX11_init_147 : decode cX11_init 147 = .ok (.putfield 83, 3) := by decide +kernel
theorem dX11_init_150 : decode cX11_init 150 = .ok (.return_, 1) := by decide +kernel
theorem dX11_feed_0 : decode cX11_feed 0 = .ok (.aload_n 0, 1) := by decide +kernel
theorem dX11_feed_1 : decode cX11_feed 1 = .ok (.getfield 10, 3) := by decide +kernel
theorem dX11_feed_4 : decode cX11_feed 4 = .ok (.getfield 87, 3) := by decide +kernel
theorem dX11_feed_7 : decode cX11_feed 7 = .ok (.bipush 20, 2) := by decide +kernel
theorem dX11_feed_9 : decode cX11_feed 9 = .ok (.iadd, 1) := by decide +kernel
theorem dX11_feed_10 : decode cX11_feed 10 = .ok (.sipush 160, 3) := by decide +kernel
theorem dX11_feed_13 : decode cX11_feed 13 = .ok (.if_icmp .le 5, 3) := by decide +kernel
theorem dX11_feed_18 : decode cX11_feed 18 = .ok (.aload_n 0, 1) := by decide +kernel
theorem dX11_feed_19 : decode cX11_feed 19 = .ok (.getfield 10, 3) := by decide +kernel
theorem dX11_feed_22 : decode cX11_feed 22 = .ok (.iload_n 1, 1) := by decide +kernel
theorem dX11_feed_23 : decode cX11_feed 23 = .ok (.invokevirtual 91, 3) := by decide +kernel
theorem dX11_feed_26 : decode cX11_feed 26 = .ok (.aload_n 0, 1) := by decide +kernel
theorem dX11_feed_27 : decode cX11_feed 27 = .ok (.getfield 10, 3) := by decide +kernel
theorem dX11_feed_30 : decode cX11_feed 30 = .ok (.iload_n 2, 1) := by decide +kernel
theorem dX11_feed_31 : decode cX11_feed 31 = .ok (.invokevirtual 91, 3) := by decide +kernel
theorem dX11_feed_34 : decode cX11_feed 34 = .ok (.aload_n 0, 1) := by decide +kernel
theorem dX11_feed_35 : decode cX11_feed 35 = .ok (.getfield 10, 3) := by decide +kernel
theorem dX11_feed_38 : decode cX11_feed 38 = .ok (.iload_n 3, 1) := by decide +kernel
theorem dX11_feed_39 : decode cX11_feed 39 = .ok (.invokevirtual 91, 3) := by decide +kernel
theorem dX11_feed_42 : decode cX11_feed 42 = .ok (.aload_n 0, 1) := by decide +kernel
theorem dX11_feed_43 : decode cX11_feed 43 = .ok (.getfield 10, 3) := by decide +kernel
theorem dX11_feed_46 : decode cX11_feed 46 = .ok (.iload 4, 2) := by decide +kernel
theorem dX11_feed_48 : decode cX11_feed 48 = .ok (.invokevirtual 91, 3) := by decide +kernel
theorem dX11_feed_51 : decode cX11_feed 51 = .ok (.aload_n 0, 1) := by decide +kernel
theorem dX11_feed_52 : decode cX11_feed 52 = .ok (.getfield 10, 3) := by decide +kernel
theorem dX11_feed_55 : decode cX11_feed 55 = .ok (.iload 5, 2) := by decide +kernel
theorem dX11_feed_57 : decode cX11_feed 57 = .ok (.invokevirtual 91, 3) := by decide +kernel
theorem dX11_feed_60 : decode cX11_feed 60 = .ok (.aload_n 0, 1) := by decide +kernel
theorem dX11_feed_61 : decode cX11_feed 61 = .ok (.getfield 10, 3) := by decide +kernel
theorem dX11_feed_64 : decode cX11_feed 64 = .ok (.getfield 87, 3) := by decide +kernel
theorem dX11_feed_67 : decode cX11_feed 67 = .ok (.ireturn, 1) := by decide +kernel
theorem dX11_end_0 : decode cX11_end 0 = .ok (.iload_n 1, 1) := by decide +kernel
theorem dX11_end_1 : decode cX11_end 1 = .ok (.ifCond .lt 14, 3) := by decide +kernel
theorem dX11_end_4 : decode cX11_end 4 = .ok (.iload_n 1, 1) := by decide +kernel
theorem dX11_end_5 : decode cX11_end 5 = .ok (.aload_n 0, 1) := by decide +kernel
theorem dX11_end_6 : decode cX11_end 6 = .ok (.getfield 10, 3) := by decide +kernel
theorem dX11_end_9 : decode cX11_end 9 = .ok (.getfield 87, 3) := by decide +kernel
theorem dX11_end_12 : decode cX11_end 12 = .ok (.if_icmp .le 5, 3) := by decide +kernel
theorem dX11_end_15 : decode cX11_end 15 = .ok (.iconst (-1), 1) := by decide +kernel
theorem dX11_end_16 : decode cX11_end 16 = .ok (.ireturn, 1) := by decide +kernel
theorem dX11_end_17 : decode cX11_end 17 = .ok (.aload_n 0, 1) := by decide +kernel
theorem dX11_end_18 : decode cX11_end 18 = .ok (.getfield 10, 3) := by decide +kernel
theorem dX11_end_21 : decode cX11_end 21 = .ok (.iload_n 1, 1) := by decide +kernel
theorem dX11_end_22 : decode cX11_end 22 = .ok (.putfield 87, 3) := by decide +kernel
theorem dX11_end_25 : decode cX11_end 25 = .ok (.iload_n 1, 1) := by decide +kernel
theorem dX11_end_26 : decode cX11_end 26 = .ok (.ireturn, 1) := by decide +kernel
theorem dX11_complex_0 : decode cX11_complex 0 = .ok (.aload_n 0, 1) := by decide +kernel
theorem dX11_complex_1 : decode cX11_complex 1 = .ok (.getfield 19, 3) := by decide +kernel
theorem dX11_complex_4 : decode cX11_complex 4 = .ok (.aload_n 0, 1) := by decide +kernel
theorem dX11_complex_5 : decode cX11_complex 5 = .ok (.getfield 10, 3) := by decide +kernel
theorem dX11_complex_8 : decode cX11_complex 8 = .ok (.invokevirtual 95, 3) := by decide +kernel
theorem dX11_complex_11 : decode cX11_complex 11 = .ok (.istore_n 1, 1) := by decide +kernel
theorem dX11_complex_12 : decode cX11_complex 12 = .ok (.aload_n 0, 1) := by decide +kernel
theorem dX11_complex_13 : decode cX11_complex 13 = .ok (.getfield 10, 3) := by decide +kernel
theorem dX11_complex_16 : decode cX11_complex 16 = .ok (.iconst 0, 1) := by decide +kernel
theorem dX11_complex_17 : decode cX11_complex 17 = .ok (.putfield 87, 3) := by decide +kernel
theorem dX11_complex_20 : decode cX11_complex 20 = .ok (.iload_n 1, 1) := by decide +kernel
theorem dX11_complex_21 : decode cX11_complex 21 = .ok (.ifCond .eq 8, 3) := by decide +kernel
theorem dX11_complex_24 : decode cX11_complex 24 = .ok (.bipush (-2), 2) := by decide +kernel
theorem dX11_complex_26 : decode cX11_complex 26 = .ok (.iload_n 1, 1) := by decide +kernel
theorem dX11_complex_27 : decode cX11_complex 27 = .ok (.isub, 1) := by decide +kernel
theorem dX11_complex_28 : decode cX11_complex 28 = .ok (.ireturn, 1) := by decide +kernel
theorem dX11_simplex_0 : decode cX11_simplex 0 = .ok (.aload_n 0, 1) := by decide +kernel
theorem dX11_simplex_1 : decode cX11_simplex 1 = .ok (.getfield 26, 3) := by decide +kernel
theorem dX11_simplex_4 : decode cX11_simplex 4 = .ok (.iload_n 1, 1) := by decide +kernel
theorem dX11_simplex_5 : decode cX11_simplex 5 = .ok (.invokevirtual 120, 3) := by decide +kernel
theorem dX11_simplex_8 : decode cX11_simplex 8 = .ok (.ifCond .ne 5, 3) := by decide +kernel
theorem dX11_simplex_11 : decode cX11_simplex 11 = .ok (.iconst (-1), 1) := by decide +kernel
theorem dX11_simplex_12 : decode cX11_simplex 12 = .ok (.ireturn, 1) := by decide +kernel
theorem dX11_number_0 : decode cX11_number 0 = .ok (.iload_n 1, 1) := by decide +kernel
theorem dX11_number_1 : decode cX11_number 1 = .ok (.ifCond .lt 10, 3) := by decide +kernel
theorem dX11_number_4 : decode cX11_number 4 = .ok (.iload_n 1, 1) := by decide +kernel
theorem dX11_number_5 : decode cX11_number 5 = .ok (.sipush 256, 3) := by decide +kernel
theorem dX11_number_8 : decode cX11_number 8 = .ok (.if_icmp .lt 5, 3) := by decide +kernel
theorem dX11_number_11 : decode cX11_number 11 = .ok (.iconst (-1), 1) := by decide +kernel
theorem dX11_number_12 : decode cX11_number 12 = .ok (.ireturn, 1) := by decide +kernel
theorem dX11_number_13 : decode cX11_number 13 = .ok (.aload_n 0, 1) := by decide +kernel
theorem dX11_number_14 : decode cX11_number 14 = .ok (.getfield 26, 3) := by decide +kernel
theorem dX11_number_17 : decode cX11_number 17 = .ok (.getfield 157, 3) := by decide +kernel
theorem dX11_number_20 : decode cX11_number 20 = .ok (.iload_n 1, 1) := by decide +kernel
theorem dX11_number_21 : decode cX11_number 21 = .ok (.iaload, 1) := by decide +kernel
theorem dX11_number_22 : decode cX11_number 22 = .ok (.ireturn, 1) := by decide +kernel
theorem dX11_sign_0 : decode cX11_sign 0 = .ok (.aload_n 0, 1) := by decide +kernel
theorem dX11_sign_1 : decode cX11_sign 1 = .ok (.getfield 26, 3) := by decide +kernel
theorem dX11_sign_4 : decode cX11_sign 4 = .ok (.iload_n 1, 1) := by decide +kernel
theorem dX11_sign_5 : decode cX11_sign 5 = .ok (.invokevirtual 120, 3) := by decide +kernel
theorem dX11_sign_8 : decode cX11_sign 8 = .ok (.ifCond .eq 14, 3) := by decide +kernel
theorem dX11_sign_22 : decode cX11_sign 22 = .ok (.ldc 160, 2) := by decide +kernel
theorem dX11_sign_24 : decode cX11_sign 24 = .ok (.ireturn, 1) := by decide +kernel
theorem dX11_pair_0 : decode cX11_pair 0 = .ok (.aload_n 0, 1) := by decide +kernel
theorem dX11_pair_1 : decode cX11_pair 1 = .ok (.iload_n 1, 1) := by decide +kernel
theorem dX11_pair_2 : decode cX11_pair 2 = .ok (.invokevirtual 130, 3) := by decide +kernel
theorem dX11_pair_5 : decode cX11_pair 5 = .ok (.ifCond .eq 27, 3) := by decide +kernel
theorem dX11_pair_32 : decode cX11_pair 32 = .ok (.iconst (-1), 1) := by decide +kernel
theorem dX11_pair_33 : decode cX11_pair 33 = .ok (.ireturn, 1) := by decide +kernel
theorem dX11_part_0 : decode cX11_part 0 = .ok (.aload_n 0, 1) := by decide +kernel
theorem dX11_part_1 : decode cX11_part 1 = .ok (.iload_n 1, 1) := by decide +kernel
theorem dX11_part_2 : decode cX11_part 2 = .ok (.invokevirtual 130, 3) := by decide +kernel
theorem dX11_part_5 : decode cX11_part 5 = .ok (.ifCond .eq 16, 3) := by decide +kernel
theorem dX11_part_21 : decode cX11_part 21 = .ok (.iconst (-1), 1) := by decide +kernel
theorem dX11_part_22 : decode cX11_part 22 = .ok (.ireturn, 1) := by decide +kernel
theorem dX11_auto_0 : decode cX11_auto 0 = .ok (.iload_n 1, 1) := by decide +kernel
theorem dX11_auto_1 : decode cX11_auto 1 = .ok (.ifCond .lt 18, 3) := by decide +kernel
theorem dX11_auto_4 : decode cX11_auto 4 = .ok (.iload_n 1, 1) := by decide +kernel
theorem dX11_auto_5 : decode cX11_auto 5 = .ok (.iconst 2, 1) := by decide +kernel
theorem dX11_auto_6 : decode cX11_auto 6 = .ok (.if_icmp .gt 13, 3) := by decide +kernel
theorem dX11_auto_9 : decode cX11_auto 9 = .ok (.aload_n 0, 1) := by decide +kernel
theorem dX11_auto_10 : decode cX11_auto 10 = .ok (.getfield 26, 3) := by decide +kernel
theorem dX11_auto_13 : decode cX11_auto 13 = .ok (.getfield 119, 3) := by decide +kernel
theorem dX11_auto_16 : decode cX11_auto 16 = .ok (.ifCond .ne 5, 3) := by decide +kernel
theorem dX11_auto_19 : decode cX11_auto 19 = .ok (.iconst (-1), 1) := by decide +kernel
theorem dX11_auto_20 : decode cX11_auto 20 = .ok (.ireturn, 1) := by decide +kernel
theorem dX11_cancel_0 : decode cX11_cancel 0 = .ok (.aload_n 0, 1) := by decide +kernel
theorem dX11_cancel_1 : decode cX11_cancel 1 = .ok (.iload_n 1, 1) := by decide +kernel
theorem dX11_cancel_2 : decode cX11_cancel 2 = .ok (.iload_n 2, 1) := by decide +kernel
theorem dX11_cancel_3 : decode cX11_cancel 3 = .ok (.invokevirtual 203, 3) := by decide +kernel
theorem dX11_cancel_6 : decode cX11_cancel 6 = .ok (.ifCond .ne 5, 3) := by decide +kernel
theorem dX11_cancel_9 : decode cX11_cancel 9 = .ok (.iconst (-1), 1) := by decide +kernel
theorem dX11_cancel_10 : decode cX11_cancel 10 = .ok (.ireturn, 1) := by decide +kernel
theorem dX11_collapse_0 : decode cX11_collapse 0 = .ok (.aload_n 0, 1) := by decide +kernel
theorem dX11_collapse_1 : decode cX11_collapse 1 = .ok (.iload_n 1, 1) := by decide +kernel
theorem dX11_collapse_2 : decode cX11_collapse 2 = .ok (.invokevirtual 130, 3) := by decide +kernel
theorem dX11_collapse_5 : decode cX11_collapse 5 = .ok (.ifCond .ne 5, 3) := by decide +kernel
theorem dX11_collapse_8 : decode cX11_collapse 8 = .ok (.iconst (-1), 1) := by decide +kernel
theorem dX11_collapse_9 : decode cX11_collapse 9 = .ok (.ireturn, 1) := by decide +kernel
theorem dX11_undo_0 : decode cX11_undo 0 = .ok (.aload_n 0, 1) := by decide +kernel
theorem dX11_undo_1 : decode cX11_undo 1 = .ok (.getfield 76, 3) := by decide +kernel
theorem dX11_undo_4 : decode cX11_undo 4 = .ok (.getfield 115, 3) := by decide +kernel
theorem dX11_undo_7 : decode cX11_undo 7 = .ok (.ifCond .ne 5, 3) := by decide +kernel
theorem dX11_undo_10 : decode cX11_undo 10 = .ok (.iconst (-1), 1) := by decide +kernel
theorem dX11_undo_11 : decode cX11_undo 11 = .ok (.ireturn, 1) := by decide +kernel
theorem dX11_critical_0 : decode cX11_critical 0 = .ok (.iload_n 1, 1) := by decide +kernel
theorem dX11_critical_1 : decode cX11_critical 1 = .ok (.invokestatic 229, 3) := by decide +kernel
theorem dX11_critical_4 : decode cX11_critical 4 = .ok (.ifCond .eq 8, 3) := by decide +kernel
theorem dX11_critical_7 : decode cX11_critical 7 = .ok (.iload_n 2, 1) := by decide +kernel
theorem dX11_critical_8 : decode cX11_critical 8 = .ok (.iconst (-1), 1) := by decide +kernel
theorem dX11_critical_9 : decode cX11_critical 9 = .ok (.if_icmp .ge 5, 3) := by decide +kernel
theorem dX11_critical_12 : decode cX11_critical 12 = .ok (.iconst (-1), 1) := by decide +kernel
theorem dX11_critical_13 : decode cX11_critical 13 = .ok (.ireturn, 1) := by decide +kernel
theorem dX11_critical_14 : decode cX11_critical 14 = .ok (.aload_n 0, 1) := by decide +kernel
theorem dX11_critical_15 : decode cX11_critical 15 = .ok (.getfield 35, 3) := by decide +kernel
theorem dX11_critical_18 : decode cX11_critical 18 = .ok (.invokevirtual 232, 3) := by decide +kernel
theorem dX11_critical_21 : decode cX11_critical 21 = .ok (.aload_n 0, 1) := by decide +kernel
theorem dX11_critical_22 : decode cX11_critical 22 = .ok (.getfield 26, 3) := by decide +kernel
theorem dX11_critical_25 : decode cX11_critical 25 = .ok (.getfield 235, 3) := by decide +kernel
theorem dX11_critical_28 : decode cX11_critical 28 = .ok (.iload_n 1, 1) := by decide +kernel
theorem dX11_critical_29 : decode cX11_critical 29 = .ok (.laload, 1) := by decide +kernel
theorem dX11_critical_30 : decode cX11_critical 30 = .ok (.land, 1) := by decide +kernel
theorem dX11_critical_31 : decode cX11_critical 31 = .ok (.iload_n 2, 1) := by decide +kernel
theorem dX11_critical_32 : decode cX11_critical 32 = .ok (.invokestatic 238, 3) := by decide +kernel
theorem dX11_critical_35 : decode cX11_critical 35 = .ok (.ireturn, 1) := by decide +kernel
theorem dX11_paths_0 : decode cX11_paths 0 = .ok (.aload_n 0, 1) := by decide +kernel
theorem dX11_paths_1 : decode cX11_paths 1 = .ok (.iload_n 1, 1) := by decide +kernel
theorem dX11_paths_2 : decode cX11_paths 2 = .ok (.iload_n 2, 1) := by decide +kernel
theorem dX11_paths_3 : decode cX11_paths 3 = .ok (.invokevirtual 203, 3) := by decide +kernel
theorem dX11_paths_6 : decode cX11_paths 6 = .ok (.ifCond .ne 7, 3) := by decide +kernel
theorem dX11_paths_9 : decode cX11_paths 9 = .ok (.ldc2_w 242, 3) := by decide +kernel
theorem dX11_paths_12 : decode cX11_paths 12 = .ok (.lreturn, 1) := by decide +kernel
theorem dX11_path_0 : decode cX11_path 0 = .ok (.aload_n 0, 1) := by decide +kernel
theorem dX11_path_1 : decode cX11_path 1 = .ok (.iload_n 1, 1) := by decide +kernel
theorem dX11_path_2 : decode cX11_path 2 = .ok (.iload_n 2, 1) := by decide +kernel
theorem dX11_path_3 : decode cX11_path 3 = .ok (.invokevirtual 203, 3) := by decide +kernel
theorem dX11_path_6 : decode cX11_path 6 = .ok (.ifCond .eq 13, 3) := by decide +kernel
theorem dX11_path_19 : decode cX11_path 19 = .ok (.iconst (-1), 1) := by decide +kernel
theorem dX11_path_20 : decode cX11_path 20 = .ok (.ireturn, 1) := by decide +kernel
theorem dX11_incidence_0 : decode cX11_incidence 0 = .ok (.aload_n 0, 1) := by decide +kernel
theorem dX11_incidence_1 : decode cX11_incidence 1 = .ok (.iload_n 1, 1) := by decide +kernel
theorem dX11_incidence_2 : decode cX11_incidence 2 = .ok (.iload_n 2, 1) := by decide +kernel
theorem dX11_incidence_3 : decode cX11_incidence 3 = .ok (.invokevirtual 203, 3) := by decide +kernel
theorem dX11_incidence_6 : decode cX11_incidence 6 = .ok (.ifCond .ne 7, 3) := by decide +kernel
theorem dX11_incidence_9 : decode cX11_incidence 9 = .ok (.ldc2_w 244, 3) := by decide +kernel
theorem dX11_incidence_12 : decode cX11_incidence 12 = .ok (.lreturn, 1) := by decide +kernel
theorem dX11_chain_0 : decode cX11_chain 0 = .ok (.aload_n 0, 1) := by decide +kernel
theorem dX11_chain_1 : decode cX11_chain 1 = .ok (.iload_n 1, 1) := by decide +kernel
theorem dX11_chain_2 : decode cX11_chain 2 = .ok (.invokevirtual 130, 3) := by decide +kernel
theorem dX11_chain_5 : decode cX11_chain 5 = .ok (.ifCond .eq 22, 3) := by decide +kernel
theorem dX11_chain_27 : decode cX11_chain 27 = .ok (.ldc2_w 244, 3) := by decide +kernel
theorem dX11_chain_30 : decode cX11_chain 30 = .ok (.lreturn, 1) := by decide +kernel
theorem dX11_root_0 : decode cX11_root 0 = .ok (.aload_n 0, 1) := by decide +kernel
theorem dX11_root_1 : decode cX11_root 1 = .ok (.iload_n 1, 1) := by decide +kernel
theorem dX11_root_2 : decode cX11_root 2 = .ok (.invokevirtual 130, 3) := by decide +kernel
theorem dX11_root_5 : decode cX11_root 5 = .ok (.ifCond .eq 24, 3) := by decide +kernel
theorem dX11_root_29 : decode cX11_root 29 = .ok (.iconst (-1), 1) := by decide +kernel
theorem dX11_root_30 : decode cX11_root 30 = .ok (.ireturn, 1) := by decide +kernel
theorem dX11_through_0 : decode cX11_through 0 = .ok (.aload_n 0, 1) := by decide +kernel
theorem dX11_through_1 : decode cX11_through 1 = .ok (.iload_n 1, 1) := by decide +kernel
theorem dX11_through_2 : decode cX11_through 2 = .ok (.iload_n 2, 1) := by decide +kernel
theorem dX11_through_3 : decode cX11_through 3 = .ok (.invokevirtual 203, 3) := by decide +kernel
theorem dX11_through_6 : decode cX11_through 6 = .ok (.ifCond .eq 11, 3) := by decide +kernel
theorem dX11_through_17 : decode cX11_through 17 = .ok (.ldc2_w 242, 3) := by decide +kernel
theorem dX11_through_20 : decode cX11_through 20 = .ok (.lreturn, 1) := by decide +kernel
theorem dX11_squares_0 : decode cX11_squares 0 = .ok (.iconst 0, 1) := by decide +kernel
theorem dX11_squares_1 : decode cX11_squares 1 = .ok (.istore_n 1, 1) := by decide +kernel
theorem dX11_squares_2 : decode cX11_squares 2 = .ok (.aload_n 0, 1) := by decide +kernel
theorem dX11_squares_3 : decode cX11_squares 3 = .ok (.getfield 35, 3) := by decide +kernel
theorem dX11_squares_6 : decode cX11_squares 6 = .ok (.invokevirtual 232, 3) := by decide +kernel
theorem dX11_squares_9 : decode cX11_squares 9 = .ok (.lstore_n 2, 1) := by decide +kernel
theorem dX11_squares_10 : decode cX11_squares 10 = .ok (.iconst 0, 1) := by decide +kernel
theorem dX11_squares_11 : decode cX11_squares 11 = .ok (.istore 4, 2) := by decide +kernel
theorem dX11_squares_13 : decode cX11_squares 13 = .ok (.iload 4, 2) := by decide +kernel
theorem dX11_squares_15 : decode cX11_squares 15 = .ok (.aload_n 0, 1) := by decide +kernel
theorem dX11_squares_16 : decode cX11_squares 16 = .ok (.getfield 26, 3) := by decide +kernel
theorem dX11_squares_19 : decode cX11_squares 19 = .ok (.getfield 119, 3) := by decide +kernel
theorem dX11_squares_22 : decode cX11_squares 22 = .ok (.if_icmp .ge 41, 3) := by decide +kernel
theorem dX11_squares_63 : decode cX11_squares 63 = .ok (.iload_n 1, 1) := by decide +kernel
theorem dX11_squares_64 : decode cX11_squares 64 = .ok (.ireturn, 1) := by decide +kernel
theorem dX11_betti_0 : decode cX11_betti 0 = .ok (.iload_n 1, 1) := by decide +kernel
theorem dX11_betti_1 : decode cX11_betti 1 = .ok (.invokestatic 229, 3) := by decide +kernel
theorem dX11_betti_4 : decode cX11_betti 4 = .ok (.ifCond .eq 12, 3) := by decide +kernel
theorem dX11_betti_7 : decode cX11_betti 7 = .ok (.iload_n 2, 1) := by decide +kernel
theorem dX11_betti_8 : decode cX11_betti 8 = .ok (.ifCond .lt 8, 3) := by decide +kernel
theorem dX11_betti_11 : decode cX11_betti 11 = .ok (.iload_n 2, 1) := by decide +kernel
theorem dX11_betti_12 : decode cX11_betti 12 = .ok (.iconst 1, 1) := by decide +kernel
theorem dX11_betti_13 : decode cX11_betti 13 = .ok (.if_icmp .le 5, 3) := by decide +kernel
theorem dX11_betti_16 : decode cX11_betti 16 = .ok (.iconst (-1), 1) := by decide +kernel
theorem dX11_betti_17 : decode cX11_betti 17 = .ok (.ireturn, 1) := by decide +kernel
theorem dX11_betti_18 : decode cX11_betti 18 = .ok (.aload_n 0, 1) := by decide +kernel
theorem dX11_betti_19 : decode cX11_betti 19 = .ok (.getfield 69, 3) := by decide +kernel
theorem dX11_betti_22 : decode cX11_betti 22 = .ok (.aload_n 0, 1) := by decide +kernel
theorem dX11_betti_23 : decode cX11_betti 23 = .ok (.iload_n 2, 1) := by decide +kernel
theorem dX11_betti_24 : decode cX11_betti 24 = .ok (.invokevirtual 266, 3) := by decide +kernel
theorem dX11_betti_27 : decode cX11_betti 27 = .ok (.iload_n 1, 1) := by decide +kernel
theorem dX11_betti_28 : decode cX11_betti 28 = .ok (.iload_n 2, 1) := by decide +kernel
theorem dX11_betti_29 : decode cX11_betti 29 = .ok (.iconst 1, 1) := by decide +kernel
theorem dX11_betti_30 : decode cX11_betti 30 = .ok (.if_icmp .ne 7, 3) := by decide +kernel
theorem dX11_betti_33 : decode cX11_betti 33 = .ok (.iconst 1, 1) := by decide +kernel
theorem dX11_betti_34 : decode cX11_betti 34 = .ok (.goto 4, 3) := by decide +kernel
theorem dX11_betti_37 : decode cX11_betti 37 = .ok (.iconst 0, 1) := by decide +kernel
theorem dX11_betti_38 : decode cX11_betti 38 = .ok (.invokevirtual 269, 3) := by decide +kernel
theorem dX11_betti_41 : decode cX11_betti 41 = .ok (.ireturn, 1) := by decide +kernel
theorem dX11_torsion_0 : decode cX11_torsion 0 = .ok (.iload_n 1, 1) := by decide +kernel
theorem dX11_torsion_1 : decode cX11_torsion 1 = .ok (.invokestatic 229, 3) := by decide +kernel
theorem dX11_torsion_4 : decode cX11_torsion 4 = .ok (.ifCond .eq 17, 3) := by decide +kernel
theorem dX11_torsion_7 : decode cX11_torsion 7 = .ok (.iload_n 3, 1) := by decide +kernel
theorem dX11_torsion_8 : decode cX11_torsion 8 = .ok (.ifCond .lt 13, 3) := by decide +kernel
theorem dX11_torsion_11 : decode cX11_torsion 11 = .ok (.iload_n 3, 1) := by decide +kernel
theorem dX11_torsion_12 : decode cX11_torsion 12 = .ok (.iconst 1, 1) := by decide +kernel
theorem dX11_torsion_13 : decode cX11_torsion 13 = .ok (.if_icmp .gt 8, 3) := by decide +kernel
theorem dX11_torsion_16 : decode cX11_torsion 16 = .ok (.iload_n 2, 1) := by decide +kernel
theorem dX11_torsion_17 : decode cX11_torsion 17 = .ok (.iconst (-1), 1) := by decide +kernel
theorem dX11_torsion_18 : decode cX11_torsion 18 = .ok (.if_icmp .ge 7, 3) := by decide +kernel
theorem dX11_torsion_21 : decode cX11_torsion 21 = .ok (.ldc2_w 242, 3) := by decide +kernel
theorem dX11_torsion_24 : decode cX11_torsion 24 = .ok (.lreturn, 1) := by decide +kernel
theorem dX11_torsion_25 : decode cX11_torsion 25 = .ok (.aload_n 0, 1) := by decide +kernel
theorem dX11_torsion_26 : decode cX11_torsion 26 = .ok (.getfield 69, 3) := by decide +kernel
theorem dX11_torsion_29 : decode cX11_torsion 29 = .ok (.aload_n 0, 1) := by decide +kernel
theorem dX11_torsion_30 : decode cX11_torsion 30 = .ok (.iload_n 3, 1) := by decide +kernel
theorem dX11_torsion_31 : decode cX11_torsion 31 = .ok (.invokevirtual 266, 3) := by decide +kernel
theorem dX11_torsion_34 : decode cX11_torsion 34 = .ok (.iload_n 1, 1) := by decide +kernel
theorem dX11_torsion_35 : decode cX11_torsion 35 = .ok (.iload_n 3, 1) := by decide +kernel
theorem dX11_torsion_36 : decode cX11_torsion 36 = .ok (.iconst 1, 1) := by decide +kernel
theorem dX11_torsion_37 : decode cX11_torsion 37 = .ok (.if_icmp .ne 7, 3) := by decide +kernel
theorem dX11_torsion_40 : decode cX11_torsion 40 = .ok (.iconst 1, 1) := by decide +kernel
theorem dX11_torsion_41 : decode cX11_torsion 41 = .ok (.goto 4, 3) := by decide +kernel
theorem dX11_torsion_44 : decode cX11_torsion 44 = .ok (.iconst 0, 1) := by decide +kernel
theorem dX11_torsion_45 : decode cX11_torsion 45 = .ok (.invokevirtual 273, 3) := by decide +kernel
theorem dX11_torsion_48 : decode cX11_torsion 48 = .ok (.istore 4, 2) := by decide +kernel
theorem dX11_torsion_50 : decode cX11_torsion 50 = .ok (.iload_n 2, 1) := by decide +kernel
theorem dX11_torsion_51 : decode cX11_torsion 51 = .ok (.iconst (-1), 1) := by decide +kernel
theorem dX11_torsion_52 : decode cX11_torsion 52 = .ok (.if_icmp .ne 7, 3) := by decide +kernel
theorem dX11_torsion_55 : decode cX11_torsion 55 = .ok (.iload 4, 2) := by decide +kernel
theorem dX11_torsion_57 : decode cX11_torsion 57 = .ok (.i2l, 1) := by decide +kernel
theorem dX11_torsion_58 : decode cX11_torsion 58 = .ok (.lreturn, 1) := by decide +kernel
theorem dX11_torsion_59 : decode cX11_torsion 59 = .ok (.iload_n 2, 1) := by decide +kernel
theorem dX11_torsion_60 : decode cX11_torsion 60 = .ok (.iload 4, 2) := by decide +kernel
theorem dX11_torsion_62 : decode cX11_torsion 62 = .ok (.if_icmp .ge 15, 3) := by decide +kernel
theorem dX11_torsion_77 : decode cX11_torsion 77 = .ok (.ldc2_w 279, 3) := by decide +kernel
theorem dX11_torsion_80 : decode cX11_torsion 80 = .ok (.lreturn, 1) := by decide +kernel
theorem dX11_slack_0 : decode cX11_slack 0 = .ok (.iload_n 1, 1) := by decide +kernel
theorem dX11_slack_1 : decode cX11_slack 1 = .ok (.invokestatic 229, 3) := by decide +kernel
theorem dX11_slack_4 : decode cX11_slack 4 = .ok (.ifCond .ne 6, 3) := by decide +kernel
theorem dX11_slack_7 : decode cX11_slack 7 = .ok (.ldc 160, 2) := by decide +kernel
theorem dX11_slack_9 : decode cX11_slack 9 = .ok (.ireturn, 1) := by decide +kernel
theorem dX11_slack_10 : decode cX11_slack 10 = .ok (.iconst 0, 1) := by decide +kernel
theorem dX11_slack_11 : decode cX11_slack 11 = .ok (.istore_n 2, 1) := by decide +kernel
theorem dX11_slack_12 : decode cX11_slack 12 = .ok (.iconst 0, 1) := by decide +kernel
theorem dX11_slack_13 : decode cX11_slack 13 = .ok (.istore_n 3, 1) := by decide +kernel
theorem dX11_slack_14 : decode cX11_slack 14 = .ok (.iload_n 3, 1) := by decide +kernel
theorem dX11_slack_15 : decode cX11_slack 15 = .ok (.iload_n 1, 1) := by decide +kernel
theorem dX11_slack_16 : decode cX11_slack 16 = .ok (.if_icmp .gt 53, 3) := by decide +kernel
theorem dX11_slack_19 : decode cX11_slack 19 = .ok (.aload_n 0, 1) := by decide +kernel
theorem dX11_slack_20 : decode cX11_slack 20 = .ok (.getfield 35, 3) := by decide +kernel
theorem dX11_slack_23 : decode cX11_slack 23 = .ok (.invokevirtual 232, 3) := by decide +kernel
theorem dX11_slack_26 : decode cX11_slack 26 = .ok (.aload_n 0, 1) := by decide +kernel
theorem dX11_slack_27 : decode cX11_slack 27 = .ok (.getfield 26, 3) := by decide +kernel
theorem dX11_slack_30 : decode cX11_slack 30 = .ok (.getfield 235, 3) := by decide +kernel
theorem dX11_slack_33 : decode cX11_slack 33 = .ok (.iload_n 3, 1) := by decide +kernel
theorem dX11_slack_34 : decode cX11_slack 34 = .ok (.laload, 1) := by decide +kernel
theorem dX11_slack_35 : decode cX11_slack 35 = .ok (.land, 1) := by decide +kernel
theorem dX11_slack_36 : decode cX11_slack 36 = .ok (.invokestatic 151, 3) := by decide +kernel
theorem dX11_slack_39 : decode cX11_slack 39 = .ok (.istore 4, 2) := by decide +kernel
theorem dX11_slack_41 : decode cX11_slack 41 = .ok (.iload 4, 2) := by decide +kernel
theorem dX11_slack_43 : decode cX11_slack 43 = .ok (.aload_n 0, 1) := by decide +kernel
theorem dX11_slack_44 : decode cX11_slack 44 = .ok (.getfield 69, 3) := by decide +kernel
theorem dX11_slack_47 : decode cX11_slack 47 = .ok (.aload_n 0, 1) := by decide +kernel
theorem dX11_slack_48 : decode cX11_slack 48 = .ok (.getfield 35, 3) := by decide +kernel
theorem dX11_slack_51 : decode cX11_slack 51 = .ok (.getfield 147, 3) := by decide +kernel
theorem dX11_slack_54 : decode cX11_slack 54 = .ok (.iload_n 3, 1) := by decide +kernel
theorem dX11_slack_55 : decode cX11_slack 55 = .ok (.iconst 0, 1) := by decide +kernel
theorem dX11_slack_56 : decode cX11_slack 56 = .ok (.invokevirtual 269, 3) := by decide +kernel
theorem dX11_slack_59 : decode cX11_slack 59 = .ok (.isub, 1) := by decide +kernel
theorem dX11_slack_60 : decode cX11_slack 60 = .ok (.iload_n 2, 1) := by decide +kernel
theorem dX11_slack_61 : decode cX11_slack 61 = .ok (.isub, 1) := by decide +kernel
theorem dX11_slack_62 : decode cX11_slack 62 = .ok (.istore_n 2, 1) := by decide +kernel
theorem dX11_slack_63 : decode cX11_slack 63 = .ok (.iinc 3 1, 3) := by decide +kernel
theorem dX11_slack_66 : decode cX11_slack 66 = .ok (.goto (-52), 3) := by decide +kernel
theorem dX11_slack_69 : decode cX11_slack 69 = .ok (.iload_n 2, 1) := by decide +kernel
theorem dX11_slack_70 : decode cX11_slack 70 = .ok (.ireturn, 1) := by decide +kernel
theorem dX11_free_0 : decode cX11_free 0 = .ok (.iload_n 1, 1) := by decide +kernel
theorem dX11_free_1 : decode cX11_free 1 = .ok (.iconst (-1), 1) := by decide +kernel
theorem dX11_free_2 : decode cX11_free 2 = .ok (.if_icmp .ge 5, 3) := by decide +kernel
theorem dX11_free_5 : decode cX11_free 5 = .ok (.iconst (-1), 1) := by decide +kernel
theorem dX11_free_6 : decode cX11_free 6 = .ok (.ireturn, 1) := by decide +kernel
theorem dX11_free_7 : decode cX11_free 7 = .ok (.lconst 0, 1) := by decide +kernel
theorem dX11_free_8 : decode cX11_free 8 = .ok (.lstore_n 2, 1) := by decide +kernel
theorem dX11_free_9 : decode cX11_free 9 = .ok (.iconst 0, 1) := by decide +kernel
theorem dX11_free_10 : decode cX11_free 10 = .ok (.istore 4, 2) := by decide +kernel
theorem dX11_free_12 : decode cX11_free 12 = .ok (.iload 4, 2) := by decide +kernel
theorem dX11_free_14 : decode cX11_free 14 = .ok (.aload_n 0, 1) := by decide +kernel
theorem dX11_free_15 : decode cX11_free 15 = .ok (.getfield 26, 3) := by decide +kernel
theorem dX11_free_18 : decode cX11_free 18 = .ok (.getfield 119, 3) := by decide +kernel
theorem dX11_free_21 : decode cX11_free 21 = .ok (.if_icmp .ge 35, 3) := by decide +kernel
theorem dX11_free_56 : decode cX11_free 56 = .ok (.lload_n 2, 1) := by decide +kernel
theorem dX11_free_57 : decode cX11_free 57 = .ok (.iload_n 1, 1) := by decide +kernel
theorem dX11_free_58 : decode cX11_free 58 = .ok (.invokestatic 238, 3) := by decide +kernel
theorem dX11_free_61 : decode cX11_free 61 = .ok (.ireturn, 1) := by decide +kernel
theorem dX11_facet_0 : decode cX11_facet 0 = .ok (.iload_n 1, 1) := by decide +kernel
theorem dX11_facet_1 : decode cX11_facet 1 = .ok (.iconst (-1), 1) := by decide +kernel
theorem dX11_facet_2 : decode cX11_facet 2 = .ok (.if_icmp .ge 5, 3) := by decide +kernel
theorem dX11_facet_5 : decode cX11_facet 5 = .ok (.iconst (-1), 1) := by decide +kernel
theorem dX11_facet_6 : decode cX11_facet 6 = .ok (.ireturn, 1) := by decide +kernel
theorem dX11_facet_7 : decode cX11_facet 7 = .ok (.lconst 0, 1) := by decide +kernel
theorem dX11_facet_8 : decode cX11_facet 8 = .ok (.lstore_n 2, 1) := by decide +kernel
theorem dX11_facet_9 : decode cX11_facet 9 = .ok (.iconst 0, 1) := by decide +kernel
theorem dX11_facet_10 : decode cX11_facet 10 = .ok (.istore 4, 2) := by decide +kernel
theorem dX11_facet_12 : decode cX11_facet 12 = .ok (.iload 4, 2) := by decide +kernel
theorem dX11_facet_14 : decode cX11_facet 14 = .ok (.aload_n 0, 1) := by decide +kernel
theorem dX11_facet_15 : decode cX11_facet 15 = .ok (.getfield 26, 3) := by decide +kernel
theorem dX11_facet_18 : decode cX11_facet 18 = .ok (.getfield 119, 3) := by decide +kernel
theorem dX11_facet_21 : decode cX11_facet 21 = .ok (.if_icmp .ge 49, 3) := by decide +kernel
theorem dX11_facet_70 : decode cX11_facet 70 = .ok (.lload_n 2, 1) := by decide +kernel
theorem dX11_facet_71 : decode cX11_facet 71 = .ok (.iload_n 1, 1) := by decide +kernel
theorem dX11_facet_72 : decode cX11_facet 72 = .ok (.invokestatic 238, 3) := by decide +kernel
theorem dX11_facet_75 : decode cX11_facet 75 = .ok (.ireturn, 1) := by decide +kernel
theorem dX11_link_0 : decode cX11_link 0 = .ok (.aload_n 0, 1) := by decide +kernel
theorem dX11_link_1 : decode cX11_link 1 = .ok (.iload_n 1, 1) := by decide +kernel
theorem dX11_link_2 : decode cX11_link 2 = .ok (.invokevirtual 130, 3) := by decide +kernel
theorem dX11_link_5 : decode cX11_link 5 = .ok (.ifCond .eq 12, 3) := by decide +kernel
theorem dX11_link_17 : decode cX11_link 17 = .ok (.ldc 160, 2) := by decide +kernel
theorem dX11_link_19 : decode cX11_link 19 = .ok (.ireturn, 1) := by decide +kernel
theorem dX11_room_0 : decode cX11_room 0 = .ok (.iload_n 1, 1) := by decide +kernel
theorem dX11_room_1 : decode cX11_room 1 = .ok (.invokestatic 229, 3) := by decide +kernel
theorem dX11_room_4 : decode cX11_room 4 = .ok (.ifCond .ne 5, 3) := by decide +kernel
theorem dX11_room_7 : decode cX11_room 7 = .ok (.iconst (-1), 1) := by decide +kernel
theorem dX11_room_8 : decode cX11_room 8 = .ok (.ireturn, 1) := by decide +kernel
theorem dX11_room_9 : decode cX11_room 9 = .ok (.iconst 0, 1) := by decide +kernel
theorem dX11_room_10 : decode cX11_room 10 = .ok (.istore_n 2, 1) := by decide +kernel
theorem dX11_room_11 : decode cX11_room 11 = .ok (.aload_n 0, 1) := by decide +kernel
theorem dX11_room_12 : decode cX11_room 12 = .ok (.getfield 35, 3) := by decide +kernel
theorem dX11_room_15 : decode cX11_room 15 = .ok (.invokevirtual 232, 3) := by decide +kernel
theorem dX11_room_18 : decode cX11_room 18 = .ok (.lstore_n 3, 1) := by decide +kernel
theorem dX11_room_19 : decode cX11_room 19 = .ok (.iconst 0, 1) := by decide +kernel
theorem dX11_room_20 : decode cX11_room 20 = .ok (.istore 5, 2) := by decide +kernel
theorem dX11_room_22 : decode cX11_room 22 = .ok (.iload 5, 2) := by decide +kernel
theorem dX11_room_24 : decode cX11_room 24 = .ok (.aload_n 0, 1) := by decide +kernel
theorem dX11_room_25 : decode cX11_room 25 = .ok (.getfield 26, 3) := by decide +kernel
theorem dX11_room_28 : decode cX11_room 28 = .ok (.getfield 119, 3) := by decide +kernel
theorem dX11_room_31 : decode cX11_room 31 = .ok (.if_icmp .ge 53, 3) := by decide +kernel
theorem dX11_room_84 : decode cX11_room 84 = .ok (.iload_n 2, 1) := by decide +kernel
theorem dX11_room_85 : decode cX11_room 85 = .ok (.ireturn, 1) := by decide +kernel
theorem dX11_draws_0 : decode cX11_draws 0 = .ok (.iload_n 1, 1) := by decide +kernel
theorem dX11_draws_1 : decode cX11_draws 1 = .ok (.ifCond .ge 5, 3) := by decide +kernel
theorem dX11_draws_4 : decode cX11_draws 4 = .ok (.iconst (-1), 1) := by decide +kernel
theorem dX11_draws_5 : decode cX11_draws 5 = .ok (.ireturn, 1) := by decide +kernel
theorem dX11_draws_6 : decode cX11_draws 6 = .ok (.aload_n 0, 1) := by decide +kernel
theorem dX11_draws_7 : decode cX11_draws 7 = .ok (.getfield 291, 3) := by decide +kernel
theorem dX11_draws_10 : decode cX11_draws 10 = .ok (.istore_n 2, 1) := by decide +kernel
theorem dX11_draws_11 : decode cX11_draws 11 = .ok (.aload_n 0, 1) := by decide +kernel
theorem dX11_draws_12 : decode cX11_draws 12 = .ok (.iload_n 1, 1) := by decide +kernel
theorem dX11_draws_13 : decode cX11_draws 13 = .ok (.putfield 291, 3) := by decide +kernel
theorem dX11_draws_16 : decode cX11_draws 16 = .ok (.iload_n 2, 1) := by decide +kernel
theorem dX11_draws_17 : decode cX11_draws 17 = .ok (.ireturn, 1) := by decide +kernel
theorem dX11_drawn_0 : decode cX11_drawn 0 = .ok (.iload_n 1, 1) := by decide +kernel
theorem dX11_drawn_1 : decode cX11_drawn 1 = .ok (.iconst 1, 1) := by decide +kernel
theorem dX11_drawn_2 : decode cX11_drawn 2 = .ok (.if_icmp .lt 28, 3) := by decide +kernel
theorem dX11_drawn_5 : decode cX11_drawn 5 = .ok (.iload_n 1, 1) := by decide +kernel
theorem dX11_drawn_6 : decode cX11_drawn 6 = .ok (.bipush 40, 2) := by decide +kernel
theorem dX11_drawn_8 : decode cX11_drawn 8 = .ok (.if_icmp .gt 22, 3) := by decide +kernel
theorem dX11_drawn_11 : decode cX11_drawn 11 = .ok (.iload_n 2, 1) := by decide +kernel
theorem dX11_drawn_12 : decode cX11_drawn 12 = .ok (.ifCond .lt 18, 3) := by decide +kernel
theorem dX11_drawn_15 : decode cX11_drawn 15 = .ok (.iload_n 2, 1) := by decide +kernel
theorem dX11_drawn_16 : decode cX11_drawn 16 = .ok (.iconst 2, 1) := by decide +kernel
theorem dX11_drawn_17 : decode cX11_drawn 17 = .ok (.if_icmp .gt 13, 3) := by decide +kernel
theorem dX11_drawn_20 : decode cX11_drawn 20 = .ok (.aload_n 0, 1) := by decide +kernel
theorem dX11_drawn_21 : decode cX11_drawn 21 = .ok (.getfield 26, 3) := by decide +kernel
theorem dX11_drawn_24 : decode cX11_drawn 24 = .ok (.getfield 119, 3) := by decide +kernel
theorem dX11_drawn_27 : decode cX11_drawn 27 = .ok (.ifCond .ne 5, 3) := by decide +kernel
theorem dX11_drawn_30 : decode cX11_drawn 30 = .ok (.iconst (-1), 1) := by decide +kernel
theorem dX11_drawn_31 : decode cX11_drawn 31 = .ok (.ireturn, 1) := by decide +kernel
theorem dX11_level_0 : decode cX11_level 0 = .ok (.iload_n 1, 1) := by decide +kernel
theorem dX11_level_1 : decode cX11_level 1 = .ok (.ifCond .lt 12, 3) := by decide +kernel
theorem dX11_level_4 : decode cX11_level 4 = .ok (.iload_n 2, 1) := by decide +kernel
theorem dX11_level_5 : decode cX11_level 5 = .ok (.ifCond .lt 8, 3) := by decide +kernel
theorem dX11_level_8 : decode cX11_level 8 = .ok (.iload_n 2, 1) := by decide +kernel
theorem dX11_level_9 : decode cX11_level 9 = .ok (.iconst 1, 1) := by decide +kernel
theorem dX11_level_10 : decode cX11_level 10 = .ok (.if_icmp .le 5, 3) := by decide +kernel
theorem dX11_level_13 : decode cX11_level 13 = .ok (.iconst (-1), 1) := by decide +kernel
theorem dX11_level_14 : decode cX11_level 14 = .ok (.ireturn, 1) := by decide +kernel
theorem dX11_level_15 : decode cX11_level 15 = .ok (.aload_n 0, 1) := by decide +kernel
theorem dX11_level_16 : decode cX11_level 16 = .ok (.getfield 51, 3) := by decide +kernel
theorem dX11_level_19 : decode cX11_level 19 = .ok (.iload_n 1, 1) := by decide +kernel
theorem dX11_level_20 : decode cX11_level 20 = .ok (.invokevirtual 302, 3) := by decide +kernel
theorem dX11_level_23 : decode cX11_level 23 = .ok (.lstore_n 3, 1) := by decide +kernel
theorem dX11_level_24 : decode cX11_level 24 = .ok (.iload_n 2, 1) := by decide +kernel
theorem dX11_level_25 : decode cX11_level 25 = .ok (.ifCond .ne 10, 3) := by decide +kernel
theorem dX11_level_28 : decode cX11_level 28 = .ok (.lload_n 3, 1) := by decide +kernel
theorem dX11_level_29 : decode cX11_level 29 = .ok (.invokestatic 151, 3) := by decide +kernel
theorem dX11_level_32 : decode cX11_level 32 = .ok (.goto 11, 3) := by decide +kernel
theorem dX11_level_35 : decode cX11_level 35 = .ok (.aload_n 0, 1) := by decide +kernel
theorem dX11_level_36 : decode cX11_level 36 = .ok (.getfield 26, 3) := by decide +kernel
theorem dX11_level_39 : decode cX11_level 39 = .ok (.lload_n 3, 1) := by decide +kernel
theorem dX11_level_40 : decode cX11_level 40 = .ok (.invokevirtual 284, 3) := by decide +kernel
theorem dX11_level_43 : decode cX11_level 43 = .ok (.ireturn, 1) := by decide +kernel
theorem dX11_levelBetti_0 : decode cX11_levelBetti 0 = .ok (.iload_n 1, 1) := by decide +kernel
theorem dX11_levelBetti_1 : decode cX11_levelBetti 1 = .ok (.ifCond .lt 10, 3) := by decide +kernel
theorem dX11_levelBetti_4 : decode cX11_levelBetti 4 = .ok (.iload_n 2, 1) := by decide +kernel
theorem dX11_levelBetti_5 : decode cX11_levelBetti 5 = .ok (.invokestatic 229, 3) := by decide +kernel
theorem dX11_levelBetti_8 : decode cX11_levelBetti 8 = .ok (.ifCond .ne 5, 3) := by decide +kernel
theorem dX11_levelBetti_11 : decode cX11_levelBetti 11 = .ok (.iconst (-1), 1) := by decide +kernel
theorem dX11_levelBetti_12 : decode cX11_levelBetti 12 = .ok (.ireturn, 1) := by decide +kernel
theorem dX11_levelBetti_13 : decode cX11_levelBetti 13 = .ok (.aload_n 0, 1) := by decide +kernel
theorem dX11_levelBetti_14 : decode cX11_levelBetti 14 = .ok (.getfield 69, 3) := by decide +kernel
theorem dX11_levelBetti_17 : decode cX11_levelBetti 17 = .ok (.aload_n 0, 1) := by decide +kernel
theorem dX11_levelBetti_18 : decode cX11_levelBetti 18 = .ok (.getfield 26, 3) := by decide +kernel
theorem dX11_levelBetti_21 : decode cX11_levelBetti 21 = .ok (.aload_n 0, 1) := by decide +kernel
theorem dX11_levelBetti_22 : decode cX11_levelBetti 22 = .ok (.getfield 51, 3) := by decide +kernel
theorem dX11_levelBetti_25 : decode cX11_levelBetti 25 = .ok (.iload_n 1, 1) := by decide +kernel
theorem dX11_levelBetti_26 : decode cX11_levelBetti 26 = .ok (.invokevirtual 302, 3) := by decide +kernel
theorem dX11_levelBetti_29 : decode cX11_levelBetti 29 = .ok (.invokevirtual 305, 3) := by decide +kernel
theorem dX11_levelBetti_32 : decode cX11_levelBetti 32 = .ok (.iload_n 2, 1) := by decide +kernel
theorem dX11_levelBetti_33 : decode cX11_levelBetti 33 = .ok (.iconst 0, 1) := by decide +kernel
theorem dX11_levelBetti_34 : decode cX11_levelBetti 34 = .ok (.invokevirtual 269, 3) := by decide +kernel
theorem dX11_levelBetti_37 : decode cX11_levelBetti 37 = .ok (.ireturn, 1) := by decide +kernel
theorem dX11_keep_0 : decode cX11_keep 0 = .ok (.iload_n 1, 1) := by decide +kernel
theorem dX11_keep_1 : decode cX11_keep 1 = .ok (.ifCond .lt 18, 3) := by decide +kernel
theorem dX11_keep_4 : decode cX11_keep 4 = .ok (.iload_n 1, 1) := by decide +kernel
theorem dX11_keep_5 : decode cX11_keep 5 = .ok (.iconst 3, 1) := by decide +kernel
theorem dX11_keep_6 : decode cX11_keep 6 = .ok (.if_icmp .ge 13, 3) := by decide +kernel
theorem dX11_keep_9 : decode cX11_keep 9 = .ok (.aload_n 0, 1) := by decide +kernel
theorem dX11_keep_10 : decode cX11_keep 10 = .ok (.getfield 26, 3) := by decide +kernel
theorem dX11_keep_13 : decode cX11_keep 13 = .ok (.getfield 119, 3) := by decide +kernel
theorem dX11_keep_16 : decode cX11_keep 16 = .ok (.ifCond .ne 5, 3) := by decide +kernel
theorem dX11_keep_19 : decode cX11_keep 19 = .ok (.iconst (-1), 1) := by decide +kernel
theorem dX11_keep_20 : decode cX11_keep 20 = .ok (.ireturn, 1) := by decide +kernel
theorem dX11_same_0 : decode cX11_same 0 = .ok (.iload_n 1, 1) := by decide +kernel
theorem dX11_same_1 : decode cX11_same 1 = .ok (.ifCond .lt 8, 3) := by decide +kernel
theorem dX11_same_4 : decode cX11_same 4 = .ok (.iload_n 1, 1) := by decide +kernel
theorem dX11_same_5 : decode cX11_same 5 = .ok (.iconst 3, 1) := by decide +kernel
theorem dX11_same_6 : decode cX11_same 6 = .ok (.if_icmp .lt 5, 3) := by decide +kernel
theorem dX11_same_9 : decode cX11_same 9 = .ok (.iconst (-1), 1) := by decide +kernel
theorem dX11_same_10 : decode cX11_same 10 = .ok (.ireturn, 1) := by decide +kernel
theorem dX11_same_11 : decode cX11_same 11 = .ok (.aload_n 0, 1) := by decide +kernel
theorem dX11_same_12 : decode cX11_same 12 = .ok (.getfield 83, 3) := by decide +kernel
theorem dX11_same_15 : decode cX11_same 15 = .ok (.getfield 316, 3) := by decide +kernel
theorem dX11_same_18 : decode cX11_same 18 = .ok (.iload_n 1, 1) := by decide +kernel
theorem dX11_same_19 : decode cX11_same 19 = .ok (.invokestatic 168, 3) := by decide +kernel
theorem dX11_same_22 : decode cX11_same 22 = .ok (.ifCond .ne 6, 3) := by decide +kernel
theorem dX11_same_25 : decode cX11_same 25 = .ok (.bipush (-2), 2) := by decide +kernel
theorem dX11_same_27 : decode cX11_same 27 = .ok (.ireturn, 1) := by decide +kernel
theorem dX11_count_0 : decode cX11_count 0 = .ok (.iload_n 1, 1) := by decide +kernel
theorem dX11_count_1 : decode cX11_count 1 = .ok (.tableswitch 153 0 9 #[55, 63, 74, 89, 97, 102, 117, 132, 140, 145], 55) := by decide +kernel
theorem dX11_count_56 : decode cX11_count 56 = .ok (.aload_n 0, 1) := by decide +kernel
theorem dX11_count_57 : decode cX11_count 57 = .ok (.getfield 26, 3) := by decide +kernel
theorem dX11_count_60 : decode cX11_count 60 = .ok (.getfield 119, 3) := by decide +kernel
theorem dX11_count_63 : decode cX11_count 63 = .ok (.ireturn, 1) := by decide +kernel
theorem dX11_count_64 : decode cX11_count 64 = .ok (.aload_n 0, 1) := by decide +kernel
theorem dX11_count_65 : decode cX11_count 65 = .ok (.getfield 35, 3) := by decide +kernel
theorem dX11_count_68 : decode cX11_count 68 = .ok (.getfield 147, 3) := by decide +kernel
theorem dX11_count_71 : decode cX11_count 71 = .ok (.invokestatic 151, 3) := by decide +kernel
theorem dX11_count_74 : decode cX11_count 74 = .ok (.ireturn, 1) := by decide +kernel
theorem dX11_count_75 : decode cX11_count 75 = .ok (.aload_n 0, 1) := by decide +kernel
theorem dX11_count_76 : decode cX11_count 76 = .ok (.getfield 26, 3) := by decide +kernel
theorem dX11_count_79 : decode cX11_count 79 = .ok (.aload_n 0, 1) := by decide +kernel
theorem dX11_count_80 : decode cX11_count 80 = .ok (.getfield 35, 3) := by decide +kernel
theorem dX11_count_83 : decode cX11_count 83 = .ok (.getfield 147, 3) := by decide +kernel
theorem dX11_count_86 : decode cX11_count 86 = .ok (.invokevirtual 323, 3) := by decide +kernel
theorem dX11_count_89 : decode cX11_count 89 = .ok (.ireturn, 1) := by decide +kernel
theorem dX11_count_90 : decode cX11_count 90 = .ok (.aload_n 0, 1) := by decide +kernel
theorem dX11_count_91 : decode cX11_count 91 = .ok (.getfield 35, 3) := by decide +kernel
theorem dX11_count_94 : decode cX11_count 94 = .ok (.invokevirtual 313, 3) := by decide +kernel
theorem dX11_count_97 : decode cX11_count 97 = .ok (.ireturn, 1) := by decide +kernel
theorem dX11_count_98 : decode cX11_count 98 = .ok (.aload_n 0, 1) := by decide +kernel
theorem dX11_count_99 : decode cX11_count 99 = .ok (.invokevirtual 187, 3) := by decide +kernel
theorem dX11_count_102 : decode cX11_count 102 = .ok (.ireturn, 1) := by decide +kernel
theorem dX11_count_103 : decode cX11_count 103 = .ok (.aload_n 0, 1) := by decide +kernel
theorem dX11_count_104 : decode cX11_count 104 = .ok (.getfield 26, 3) := by decide +kernel
theorem dX11_count_107 : decode cX11_count 107 = .ok (.aload_n 0, 1) := by decide +kernel
theorem dX11_count_108 : decode cX11_count 108 = .ok (.getfield 35, 3) := by decide +kernel
theorem dX11_count_111 : decode cX11_count 111 = .ok (.getfield 147, 3) := by decide +kernel
theorem dX11_count_114 : decode cX11_count 114 = .ok (.invokevirtual 284, 3) := by decide +kernel
theorem dX11_count_117 : decode cX11_count 117 = .ok (.ireturn, 1) := by decide +kernel
theorem dX11_count_118 : decode cX11_count 118 = .ok (.aload_n 0, 1) := by decide +kernel
theorem dX11_count_119 : decode cX11_count 119 = .ok (.getfield 26, 3) := by decide +kernel
theorem dX11_count_122 : decode cX11_count 122 = .ok (.aload_n 0, 1) := by decide +kernel
theorem dX11_count_123 : decode cX11_count 123 = .ok (.getfield 35, 3) := by decide +kernel
theorem dX11_count_126 : decode cX11_count 126 = .ok (.getfield 147, 3) := by decide +kernel
theorem dX11_count_129 : decode cX11_count 129 = .ok (.invokevirtual 326, 3) := by decide +kernel
theorem dX11_count_132 : decode cX11_count 132 = .ok (.ireturn, 1) := by decide +kernel
theorem dX11_count_133 : decode cX11_count 133 = .ok (.aload_n 0, 1) := by decide +kernel
theorem dX11_count_134 : decode cX11_count 134 = .ok (.getfield 76, 3) := by decide +kernel
theorem dX11_count_137 : decode cX11_count 137 = .ok (.getfield 115, 3) := by decide +kernel
theorem dX11_count_140 : decode cX11_count 140 = .ok (.ireturn, 1) := by decide +kernel
theorem dX11_count_141 : decode cX11_count 141 = .ok (.aload_n 0, 1) := by decide +kernel
theorem dX11_count_142 : decode cX11_count 142 = .ok (.getfield 291, 3) := by decide +kernel
theorem dX11_count_145 : decode cX11_count 145 = .ok (.ireturn, 1) := by decide +kernel
theorem dX11_count_146 : decode cX11_count 146 = .ok (.aload_n 0, 1) := by decide +kernel
theorem dX11_count_147 : decode cX11_count 147 = .ok (.getfield 10, 3) := by decide +kernel
theorem dX11_count_150 : decode cX11_count 150 = .ok (.getfield 87, 3) := by decide +kernel
theorem dX11_count_153 : decode cX11_count 153 = .ok (.ireturn, 1) := by decide +kernel
theorem dX11_count_154 : decode cX11_count 154 = .ok (.iconst (-1), 1) := by decide +kernel
theorem dX11_count_155 : decode cX11_count 155 = .ok (.ireturn, 1) := by decide +kernel
theorem dX11_isDim_0 : decode cX11_isDim 0 = .ok (.iload_n 0, 1) := by decide +kernel
theorem dX11_isDim_1 : decode cX11_isDim 1 = .ok (.ifCond .lt 12, 3) := by decide +kernel
theorem dX11_isDim_4 : decode cX11_isDim 4 = .ok (.iload_n 0, 1) := by decide +kernel
theorem dX11_isDim_5 : decode cX11_isDim 5 = .ok (.iconst 5, 1) := by decide +kernel
theorem dX11_isDim_6 : decode cX11_isDim 6 = .ok (.if_icmp .ge 7, 3) := by decide +kernel
theorem dX11_isDim_9 : decode cX11_isDim 9 = .ok (.iconst 1, 1) := by decide +kernel
theorem dX11_isDim_10 : decode cX11_isDim 10 = .ok (.goto 4, 3) := by decide +kernel
theorem dX11_isDim_13 : decode cX11_isDim 13 = .ok (.iconst 0, 1) := by decide +kernel
theorem dX11_isDim_14 : decode cX11_isDim 14 = .ok (.ireturn, 1) := by decide +kernel
theorem dX11_isIn_0 : decode cX11_isIn 0 = .ok (.lload_n 0, 1) := by decide +kernel
theorem dX11_isIn_1 : decode cX11_isIn 1 = .ok (.iload_n 2, 1) := by decide +kernel
theorem dX11_isIn_2 : decode cX11_isIn 2 = .ok (.lushr, 1) := by decide +kernel
theorem dX11_isIn_3 : decode cX11_isIn 3 = .ok (.lconst 1, 1) := by decide +kernel
theorem dX11_isIn_4 : decode cX11_isIn 4 = .ok (.land, 1) := by decide +kernel
theorem dX11_isIn_5 : decode cX11_isIn 5 = .ok (.lconst 0, 1) := by decide +kernel
theorem dX11_isIn_6 : decode cX11_isIn 6 = .ok (.lcmp, 1) := by decide +kernel
theorem dX11_isIn_7 : decode cX11_isIn 7 = .ok (.ifCond .eq 7, 3) := by decide +kernel
theorem dX11_isIn_14 : decode cX11_isIn 14 = .ok (.iconst 0, 1) := by decide +kernel
theorem dX11_isIn_15 : decode cX11_isIn 15 = .ok (.ireturn, 1) := by decide +kernel
theorem dX11_lowest_0 : decode cX11_lowest 0 = .ok (.lload_n 0, 1) := by decide +kernel
theorem dX11_lowest_1 : decode cX11_lowest 1 = .ok (.lload_n 0, 1) := by decide +kernel
theorem dX11_lowest_2 : decode cX11_lowest 2 = .ok (.lneg, 1) := by decide +kernel
theorem dX11_lowest_3 : decode cX11_lowest 3 = .ok (.land, 1) := by decide +kernel
theorem dX11_lowest_4 : decode cX11_lowest 4 = .ok (.lconst 1, 1) := by decide +kernel
theorem dX11_lowest_5 : decode cX11_lowest 5 = .ok (.lsub, 1) := by decide +kernel
theorem dX11_lowest_6 : decode cX11_lowest 6 = .ok (.invokestatic 151, 3) := by decide +kernel
theorem dX11_lowest_9 : decode cX11_lowest 9 = .ok (.bipush 63, 2) := by decide +kernel
theorem dX11_lowest_11 : decode cX11_lowest 11 = .ok (.iand, 1) := by decide +kernel
theorem dX11_lowest_12 : decode cX11_lowest 12 = .ok (.ireturn, 1) := by decide +kernel
theorem dX11_nth_0 : decode cX11_nth 0 = .ok (.lload_n 0, 1) := by decide +kernel
theorem dX11_nth_1 : decode cX11_nth 1 = .ok (.lstore_n 3, 1) := by decide +kernel
theorem dX11_nth_2 : decode cX11_nth 2 = .ok (.iconst 0, 1) := by decide +kernel
theorem dX11_nth_3 : decode cX11_nth 3 = .ok (.istore 5, 2) := by decide +kernel
theorem dX11_nth_5 : decode cX11_nth 5 = .ok (.iload 5, 2) := by decide +kernel
theorem dX11_nth_7 : decode cX11_nth 7 = .ok (.iload_n 2, 1) := by decide +kernel
theorem dX11_nth_8 : decode cX11_nth 8 = .ok (.if_icmp .ge 21, 3) := by decide +kernel
theorem dX11_nth_11 : decode cX11_nth 11 = .ok (.lload_n 3, 1) := by decide +kernel
theorem dX11_nth_12 : decode cX11_nth 12 = .ok (.lconst 0, 1) := by decide +kernel
theorem dX11_nth_13 : decode cX11_nth 13 = .ok (.lcmp, 1) := by decide +kernel
theorem dX11_nth_14 : decode cX11_nth 14 = .ok (.ifCond .eq 15, 3) := by decide +kernel
theorem dX11_nth_29 : decode cX11_nth 29 = .ok (.lload_n 3, 1) := by decide +kernel
theorem dX11_nth_30 : decode cX11_nth 30 = .ok (.invokestatic 220, 3) := by decide +kernel
theorem dX11_nth_33 : decode cX11_nth 33 = .ok (.ireturn, 1) := by decide +kernel
theorem dX11_listed_0 : decode cX11_listed 0 = .ok (.lload_n 0, 1) := by decide +kernel
theorem dX11_listed_1 : decode cX11_listed 1 = .ok (.invokestatic 151, 3) := by decide +kernel
theorem dX11_listed_4 : decode cX11_listed 4 = .ok (.istore_n 3, 1) := by decide +kernel
theorem dX11_listed_5 : decode cX11_listed 5 = .ok (.iload_n 2, 1) := by decide +kernel
theorem dX11_listed_6 : decode cX11_listed 6 = .ok (.iconst (-1), 1) := by decide +kernel
theorem dX11_listed_7 : decode cX11_listed 7 = .ok (.if_icmp .ne 5, 3) := by decide +kernel
theorem dX11_listed_10 : decode cX11_listed 10 = .ok (.iload_n 3, 1) := by decide +kernel
theorem dX11_listed_11 : decode cX11_listed 11 = .ok (.ireturn, 1) := by decide +kernel
theorem dX11_listed_12 : decode cX11_listed 12 = .ok (.iload_n 2, 1) := by decide +kernel
theorem dX11_listed_13 : decode cX11_listed 13 = .ok (.iload_n 3, 1) := by decide +kernel
theorem dX11_listed_14 : decode cX11_listed 14 = .ok (.if_icmp .ge 11, 3) := by decide +kernel
theorem dX11_listed_17 : decode cX11_listed 17 = .ok (.lload_n 0, 1) := by decide +kernel
theorem dX11_listed_18 : decode cX11_listed 18 = .ok (.iload_n 2, 1) := by decide +kernel
theorem dX11_listed_19 : decode cX11_listed 19 = .ok (.invokestatic 329, 3) := by decide +kernel
theorem dX11_listed_22 : decode cX11_listed 22 = .ok (.goto 5, 3) := by decide +kernel
theorem dX11_listed_25 : decode cX11_listed 25 = .ok (.bipush (-2), 2) := by decide +kernel
theorem dX11_listed_27 : decode cX11_listed 27 = .ok (.ireturn, 1) := by decide +kernel
theorem dX11_criticalOnes_0 : decode cX11_criticalOnes 0 = .ok (.aload_n 0, 1) := by decide +kernel
theorem dX11_criticalOnes_1 : decode cX11_criticalOnes 1 = .ok (.getfield 35, 3) := by decide +kernel
theorem dX11_criticalOnes_4 : decode cX11_criticalOnes 4 = .ok (.invokevirtual 232, 3) := by decide +kernel
theorem dX11_criticalOnes_7 : decode cX11_criticalOnes 7 = .ok (.invokestatic 151, 3) := by decide +kernel
theorem dX11_criticalOnes_10 : decode cX11_criticalOnes 10 = .ok (.ireturn, 1) := by decide +kernel
theorem dX11_basis_0 : decode cX11_basis 0 = .ok (.iload_n 1, 1) := by decide +kernel
theorem dX11_basis_1 : decode cX11_basis 1 = .ok (.iconst 1, 1) := by decide +kernel
theorem dX11_basis_2 : decode cX11_basis 2 = .ok (.if_icmp .ne 13, 3) := by decide +kernel
theorem dX11_basis_5 : decode cX11_basis 5 = .ok (.aload_n 0, 1) := by decide +kernel
theorem dX11_basis_6 : decode cX11_basis 6 = .ok (.getfield 35, 3) := by decide +kernel
theorem dX11_basis_9 : decode cX11_basis 9 = .ok (.invokevirtual 232, 3) := by decide +kernel
theorem dX11_basis_12 : decode cX11_basis 12 = .ok (.goto 10, 3) := by decide +kernel
theorem dX11_basis_15 : decode cX11_basis 15 = .ok (.aload_n 0, 1) := by decide +kernel
theorem dX11_basis_16 : decode cX11_basis 16 = .ok (.getfield 35, 3) := by decide +kernel
theorem dX11_basis_19 : decode cX11_basis 19 = .ok (.getfield 147, 3) := by decide +kernel
theorem dX11_basis_22 : decode cX11_basis 22 = .ok (.lreturn, 1) := by decide +kernel
theorem dX11_isThere_0 : decode cX11_isThere 0 = .ok (.aload_n 0, 1) := by decide +kernel
theorem dX11_isThere_1 : decode cX11_isThere 1 = .ok (.getfield 26, 3) := by decide +kernel
theorem dX11_isThere_4 : decode cX11_isThere 4 = .ok (.iload_n 1, 1) := by decide +kernel
theorem dX11_isThere_5 : decode cX11_isThere 5 = .ok (.invokevirtual 120, 3) := by decide +kernel
theorem dX11_isThere_8 : decode cX11_isThere 8 = .ok (.ifCond .eq 21, 3) := by decide +kernel
theorem dX11_isThere_29 : decode cX11_isThere 29 = .ok (.iconst 0, 1) := by decide +kernel
theorem dX11_isThere_30 : decode cX11_isThere 30 = .ok (.ireturn, 1) := by decide +kernel
theorem dX11_areEnds_0 : decode cX11_areEnds 0 = .ok (.aload_n 0, 1) := by decide +kernel
theorem dX11_areEnds_1 : decode cX11_areEnds 1 = .ok (.iload_n 1, 1) := by decide +kernel
theorem dX11_areEnds_2 : decode cX11_areEnds 2 = .ok (.invokevirtual 130, 3) := by decide +kernel
theorem dX11_areEnds_5 : decode cX11_areEnds 5 = .ok (.ifCond .eq 11, 3) := by decide +kernel
theorem dX11_areEnds_16 : decode cX11_areEnds 16 = .ok (.iconst 0, 1) := by decide +kernel
theorem dX11_areEnds_17 : decode cX11_areEnds 17 = .ok (.ireturn, 1) := by decide +kernel
theorem dJ13_bitCount_95d88_0 : decode cJ13_bitCount_95d88 0 = .ok (.lload_n 0, 1) := by decide +kernel
theorem dJ13_bitCount_95d88_1 : decode cJ13_bitCount_95d88 1 = .ok (.lload_n 0, 1) := by decide +kernel
theorem dJ13_bitCount_95d88_2 : decode cJ13_bitCount_95d88 2 = .ok (.iconst 1, 1) := by decide +kernel
theorem dJ13_bitCount_95d88_3 : decode cJ13_bitCount_95d88 3 = .ok (.lushr, 1) := by decide +kernel
theorem dJ13_bitCount_95d88_4 : decode cJ13_bitCount_95d88 4 = .ok (.ldc2_w 314, 3) := by decide +kernel
theorem dJ13_bitCount_95d88_7 : decode cJ13_bitCount_95d88 7 = .ok (.land, 1) := by decide +kernel
theorem dJ13_bitCount_95d88_8 : decode cJ13_bitCount_95d88 8 = .ok (.lsub, 1) := by decide +kernel
theorem dJ13_bitCount_95d88_9 : decode cJ13_bitCount_95d88 9 = .ok (.lstore_n 0, 1) := by decide +kernel
theorem dJ13_bitCount_95d88_10 : decode cJ13_bitCount_95d88 10 = .ok (.lload_n 0, 1) := by decide +kernel
theorem dJ13_bitCount_95d88_11 : decode cJ13_bitCount_95d88 11 = .ok (.ldc2_w 316, 3) := by decide +kernel
theorem dJ13_bitCount_95d88_14 : decode cJ13_bitCount_95d88 14 = .ok (.land, 1) := by decide +kernel
theorem dJ13_bitCount_95d88_15 : decode cJ13_bitCount_95d88 15 = .ok (.lload_n 0, 1) := by decide +kernel
theorem dJ13_bitCount_95d88_16 : decode cJ13_bitCount_95d88 16 = .ok (.iconst 2, 1) := by decide +kernel
theorem dJ13_bitCount_95d88_17 : decode cJ13_bitCount_95d88 17 = .ok (.lushr, 1) := by decide +kernel
theorem dJ13_bitCount_95d88_18 : decode cJ13_bitCount_95d88 18 = .ok (.ldc2_w 316, 3) := by decide +kernel
theorem dJ13_bitCount_95d88_21 : decode cJ13_bitCount_95d88 21 = .ok (.land, 1) := by decide +kernel
theorem dJ13_bitCount_95d88_22 : decode cJ13_bitCount_95d88 22 = .ok (.ladd, 1) := by decide +kernel
theorem dJ13_bitCount_95d88_23 : decode cJ13_bitCount_95d88 23 = .ok (.lstore_n 0, 1) := by decide +kernel
theorem dJ13_bitCount_95d88_24 : decode cJ13_bitCount_95d88 24 = .ok (.lload_n 0, 1) := by decide +kernel
theorem dJ13_bitCount_95d88_25 : decode cJ13_bitCount_95d88 25 = .ok (.lload_n 0, 1) := by decide +kernel
theorem dJ13_bitCount_95d88_26 : decode cJ13_bitCount_95d88 26 = .ok (.iconst 4, 1) := by decide +kernel
theorem dJ13_bitCount_95d88_27 : decode cJ13_bitCount_95d88 27 = .ok (.lushr, 1) := by decide +kernel
theorem dJ13_bitCount_95d88_28 : decode cJ13_bitCount_95d88 28 = .ok (.ladd, 1) := by decide +kernel
theorem dJ13_bitCount_95d88_29 : decode cJ13_bitCount_95d88 29 = .ok (.ldc2_w 318, 3) := by decide +kernel
theorem dJ13_bitCount_95d88_32 : decode cJ13_bitCount_95d88 32 = .ok (.land, 1) := by decide +kernel
theorem dJ13_bitCount_95d88_33 : decode cJ13_bitCount_95d88 33 = .ok (.lstore_n 0, 1) := by decide +kernel
theorem dJ13_bitCount_95d88_34 : decode cJ13_bitCount_95d88 34 = .ok (.lload_n 0, 1) := by decide +kernel
theorem dJ13_bitCount_95d88_35 : decode cJ13_bitCount_95d88 35 = .ok (.lload_n 0, 1) := by decide +kernel
theorem dJ13_bitCount_95d88_36 : decode cJ13_bitCount_95d88 36 = .ok (.bipush 8, 2) := by decide +kernel
theorem dJ13_bitCount_95d88_38 : decode cJ13_bitCount_95d88 38 = .ok (.lushr, 1) := by decide +kernel
theorem dJ13_bitCount_95d88_39 : decode cJ13_bitCount_95d88 39 = .ok (.ladd, 1) := by decide +kernel
theorem dJ13_bitCount_95d88_40 : decode cJ13_bitCount_95d88 40 = .ok (.lstore_n 0, 1) := by decide +kernel
theorem dJ13_bitCount_95d88_41 : decode cJ13_bitCount_95d88 41 = .ok (.lload_n 0, 1) := by decide +kernel
theorem dJ13_bitCount_95d88_42 : decode cJ13_bitCount_95d88 42 = .ok (.lload_n 0, 1) := by decide +kernel
theorem dJ13_bitCount_95d88_43 : decode cJ13_bitCount_95d88 43 = .ok (.bipush 16, 2) := by decide +kernel
theorem dJ13_bitCount_95d88_45 : decode cJ13_bitCount_95d88 45 = .ok (.lushr, 1) := by decide +kernel
theorem dJ13_bitCount_95d88_46 : decode cJ13_bitCount_95d88 46 = .ok (.ladd, 1) := by decide +kernel
theorem dJ13_bitCount_95d88_47 : decode cJ13_bitCount_95d88 47 = .ok (.lstore_n 0, 1) := by decide +kernel
theorem dJ13_bitCount_95d88_48 : decode cJ13_bitCount_95d88 48 = .ok (.lload_n 0, 1) := by decide +kernel
theorem dJ13_bitCount_95d88_49 : decode cJ13_bitCount_95d88 49 = .ok (.lload_n 0, 1) := by decide +kernel
theorem dJ13_bitCount_95d88_50 : decode cJ13_bitCount_95d88 50 = .ok (.bipush 32, 2) := by decide +kernel
theorem dJ13_bitCount_95d88_52 : decode cJ13_bitCount_95d88 52 = .ok (.lushr, 1) := by decide +kernel
theorem dJ13_bitCount_95d88_53 : decode cJ13_bitCount_95d88 53 = .ok (.ladd, 1) := by decide +kernel
theorem dJ13_bitCount_95d88_54 : decode cJ13_bitCount_95d88 54 = .ok (.lstore_n 0, 1) := by decide +kernel
theorem dJ13_bitCount_95d88_55 : decode cJ13_bitCount_95d88 55 = .ok (.lload_n 0, 1) := by decide +kernel
theorem dJ13_bitCount_95d88_56 : decode cJ13_bitCount_95d88 56 = .ok (.l2i, 1) := by decide +kernel
theorem dJ13_bitCount_95d88_57 : decode cJ13_bitCount_95d88 57 = .ok (.bipush 127, 2) := by decide +kernel
theorem dJ13_bitCount_95d88_59 : decode cJ13_bitCount_95d88 59 = .ok (.iand, 1) := by decide +kernel
theorem dJ13_bitCount_95d88_60 : decode cJ13_bitCount_95d88 60 = .ok (.ireturn, 1) := by decide +kernel
