set_option maxRecDepth 20000 in
theorem ggX0_init_X5_init : GoodIn wsX0_init wsX5_init := goodIn_r _ [13, 14, 2, 3, 4, 15, 16, 17, 22, 23, 24, 25, 26, 27] (by decide +kernel) (by decide +kernel)
set_option maxRecDepth 20000 in
theorem gX0_init_X5_init_n25 : GoodIn wsX0_init (wsX5_init) := ggX0_init_X5_init
set_option maxRecDepth 20000 in
theorem ggX0_bettiOf_J13_bitCount_95d88 : GoodIn wsX0_bettiOf wsJ13_bitCount_95d88 := goodIn_r _ [6, 7, 8, 9] (by decide +kernel) (by decide +kernel)
set_option maxRecDepth 20000 in
theorem gX0_bettiOf_J13_bitCount_95d88 : GoodIn wsX0_bettiOf (va_wsS RX0 35 yJ13_bitCount_95d88 wsJ13_bitCount_95d88) := goodIn_app (goodIn_of _ (by decide +kernel)) ggX0_bettiOf_J13_bitCount_95d88
set_option maxRecDepth 20000 in
theorem ggX0_bettiOf_X0_rankOf : GoodIn wsX0_bettiOf wsX0_rankOf := goodIn_r _ [14, 1, 2, 15, 16, 17, 18, 13, 19, 20, 21, 22, 3, 4, 5, 6, 7, 8, 9, 23, 24, 25, 26, 27, 28, 29, 30, 31, 32, 33, 34, 35, 36, 37, 38, 39, 40, 41, 42, 43, 44, 45, 46, 47, 48, 49, 50, 51, 52, 53, 54, 55, 56, 57, 58, 59, 60, 61, 62, 63, 64, 65, 66, 67, 68, 69, 70, 71, 72, 73, 74, 75, 76, 77, 78, 79, 80, 81, 82, 83, 84, 85, 86, 87, 88, 89, 90, 91, 92, 93, 94, 95, 96, 97, 98, 99, 100, 101, 102, 103, 104, 105, 106, 107, 108, 109, 110, 111, 112, 113, 114, 115, 116, 117, 118, 119, 120, 121, 122, 123, 124, 125, 126, 127, 128, 129, 130, 131, 132, 133, 134, 135, 136, 137, 138, 139, 140, 141, 142, 143, 144, 145, 146, 147, 148, 149, 150, 151, 152, 153, 154, 155, 156, 157, 158, 159, 160, 161, 162, 163, 164, 165, 166, 167, 168, 169, 170, 171, 172, 173, 174, 175, 176, 177, 178, 179, 180, 181, 182, 183, 184, 185, 186, 187, 188] (by decide +kernel) (by decide +kernel)
set_option maxRecDepth 20000 in
theorem gX0_bettiOf_X0_rankOf : GoodIn wsX0_bettiOf (wsV RX0 41 RX0 yX0_rankOf wsX0_rankOf) := goodIn_app (goodIn_of _ (by decide +kernel)) ggX0_bettiOf_X0_rankOf
set_option maxRecDepth 20000 in
theorem ggX0_torsionsOf_X0_rankOf : GoodIn wsX0_torsionsOf wsX0_rankOf := goodIn_r _ [9, 10, 11, 1, 12, 13, 14, 8, 15, 16, 17, 18, 19, 20, 21, 22, 23, 24, 25, 26, 27, 28, 29, 30, 31, 32, 33, 34, 35, 36, 37, 38, 39, 40, 41, 42, 43, 44, 45, 46, 47, 48, 49, 50, 51, 52, 53, 54, 55, 56, 57, 58, 59, 60, 61, 62, 63, 64, 65, 66, 67, 68, 69, 70, 71, 72, 73, 74, 75, 76, 77, 78, 79, 80, 81, 82, 83, 84, 85, 86, 87, 88, 89, 90, 91, 92, 93, 94, 95, 96, 97, 98, 99, 100, 101, 102, 103, 104, 105, 106, 107, 108, 109, 110, 111, 112, 113, 114, 115, 116, 117, 118, 119, 120, 121, 122, 123, 124, 125, 126, 127, 128, 129, 130, 131, 132, 133, 134, 135, 136, 137, 138, 139, 140, 141, 142, 143, 144, 145, 146, 147, 148, 149, 150, 151, 152, 153, 154, 155, 210, 211, 212, 213, 220, 221, 222, 223, 224, 225, 226, 214, 215, 216, 217, 218, 219, 227, 228, 229, 230, 231, 232, 233, 234, 235, 236, 237, 238, 239, 240, 241, 242, 243, 244, 245] (by decide +kernel) (by decide +kernel)
set_option maxRecDepth 20000 in
theorem gX0_torsionsOf_X0_rankOf : GoodIn wsX0_torsionsOf (wsV RX0 41 RX0 yX0_rankOf wsX0_rankOf) := goodIn_app (goodIn_of _ (by decide +kernel)) ggX0_torsionsOf_X0_rankOf
set_option maxRecDepth 20000 in
theorem ggX0_rankOf_X0_fill : GoodIn wsX0_rankOf wsX0_fill := goodIn_r _ [8, 3, 1, 9, 10, 11, 12, 13, 14, 15, 16, 17, 18, 19, 20, 21, 22, 23, 24, 25, 26, 27, 28, 29, 30, 31, 32, 33, 34, 35, 36, 37, 38, 39, 40, 41, 42, 43, 44, 45, 46, 47, 48, 49, 50, 51, 52, 53, 54, 55, 56, 57, 58, 59, 60, 61, 62, 63, 64, 65, 66, 67, 68, 69, 70, 71, 72, 73, 74, 75, 76, 77, 78, 79, 80, 81, 82, 83, 84, 85, 86, 87, 88, 89, 90, 91, 92, 93, 94, 95, 96, 97, 98, 99, 100, 101, 102, 103, 104, 105, 106, 107, 108, 109, 110, 111, 112, 113, 114, 7, 115, 116, 117, 118, 119, 120, 121, 122, 149, 150, 151, 152, 153, 154, 155, 156, 157, 158, 159, 160, 161, 162, 163, 164, 165, 166, 167, 168, 169, 170, 171, 172, 173, 174, 175, 176, 177, 178, 179, 180, 181, 182, 183, 184] (by decide +kernel) (by decide +kernel)
set_option maxRecDepth 20000 in
theorem gX0_rankOf_X0_fill : GoodIn wsX0_rankOf (wsV RX0 55 RX0 yX0_fill wsX0_fill) := goodIn_app (goodIn_of _ (by decide +kernel)) ggX0_rankOf_X0_fill
set_option maxRecDepth 20000 in
theorem ggX0_rankOf_X5_eliminate : GoodIn wsX0_rankOf wsX5_eliminate := goodIn_r _ [126, 122, 127, 24, 25, 128, 129, 130, 131, 132, 133, 134, 135, 22, 136, 137, 138, 139, 140, 141, 142, 143, 144, 145, 146, 147, 148, 160, 161, 162, 163, 164, 165] (by decide +kernel) (by decide +kernel)
set_option maxRecDepth 20000 in
theorem gX0_rankOf_X5_eliminate : GoodIn wsX0_rankOf (wsV RX0 59 RX5 yX5_eliminate wsX5_eliminate) := goodIn_app (goodIn_of _ (by decide +kernel)) ggX0_rankOf_X5_eliminate
set_option maxRecDepth 20000 in
theorem ggX0_fill_J13_bitCount_95d88 : GoodIn wsX0_fill wsJ13_bitCount_95d88 := goodIn_r _ [9, 10, 11, 12] (by decide +kernel) (by decide +kernel)
set_option maxRecDepth 20000 in
theorem gX0_fill_J13_bitCount_95d88 : GoodIn wsX0_fill (va_wsS RX0 35 yJ13_bitCount_95d88 wsJ13_bitCount_95d88) := goodIn_app (goodIn_of _ (by decide +kernel)) ggX0_fill_J13_bitCount_95d88
set_option maxRecDepth 20000 in
theorem ggX0_fill_X5_resize : GoodIn wsX0_fill wsX5_resize := goodIn_r _ [17, 18, 19, 129, 130, 131, 132, 133, 134] (by decide +kernel) (by decide +kernel)
set_option maxRecDepth 20000 in
theorem gX0_fill_X5_resize : GoodIn wsX0_fill (wsV RX0 63 RX5 yX5_resize wsX5_resize) := goodIn_app (goodIn_of _ (by decide +kernel)) ggX0_fill_X5_resize
set_option maxRecDepth 20000 in
theorem ggX2_upTo_X2_measure : GoodIn wsX2_upTo wsX2_measure := goodIn_r _ [8, 9, 10, 11, 2, 1, 12, 13, 14, 15, 16, 17, 18, 19, 20, 7, 21, 22, 23, 3, 24, 25, 26, 27, 28, 29, 30, 31, 32, 33, 34, 35, 36, 37, 38, 39, 40, 41, 42, 43, 44, 45, 46, 47, 48, 49, 50, 51, 52, 53, 54, 55] (by decide +kernel) (by decide +kernel)
set_option maxRecDepth 20000 in
theorem gX2_upTo_X2_measure : GoodIn wsX2_upTo (wsV RX2 30 RX2 yX2_measure wsX2_measure) := goodIn_app (goodIn_of _ (by decide +kernel)) ggX2_upTo_X2_measure
set_option maxRecDepth 20000 in
theorem ggX2_measure_J7_fill_53178 : GoodIn wsX2_measure wsJ7_fill_53178 := goodIn_r _ [11] (by decide +kernel) (by decide +kernel)
set_option maxRecDepth 20000 in
theorem gX2_measure_J7_fill_53178 : GoodIn wsX2_measure (va_wsS RX2 45 yJ7_fill_53178 wsJ7_fill_53178) := goodIn_app (goodIn_of _ (by decide +kernel)) ggX2_measure_J7_fill_53178
set_option maxRecDepth 20000 in
theorem ggX6_init_J7_fill_53178 : GoodIn wsX6_init wsJ7_fill_53178 := goodIn_r _ [10] (by decide +kernel) (by decide +kernel)
set_option maxRecDepth 20000 in
theorem gX6_init_J7_fill_53178 : GoodIn wsX6_init (va_wsS RX6 19 yJ7_fill_53178 wsJ7_fill_53178) := goodIn_app (goodIn_of _ (by decide +kernel)) ggX6_init_J7_fill_53178
set_option maxRecDepth 20000 in
theorem ggX6_howMany_J13_bitCount_95d88 : GoodIn wsX6_howMany wsJ13_bitCount_95d88 := goodIn_r _ [5, 6, 7, 8] (by decide +kernel) (by decide +kernel)
set_option maxRecDepth 20000 in
theorem gX6_howMany_J13_bitCount_95d88 : GoodIn wsX6_howMany (va_wsS RX6 65 yJ13_bitCount_95d88 wsJ13_bitCount_95d88) := goodIn_app (goodIn_of _ (by decide +kernel)) ggX6_howMany_J13_bitCount_95d88
set_option maxRecDepth 20000 in
theorem ggX8_read_J7_fill_53178 : GoodIn wsX8_read wsJ7_fill_53178 := goodIn_r _ [8] (by decide +kernel) (by decide +kernel)
set_option maxRecDepth 20000 in
theorem gX8_read_J7_fill_53178 : GoodIn wsX8_read (va_wsS RX8 15 yJ7_fill_53178 wsJ7_fill_53178) := goodIn_app (goodIn_of _ (by decide +kernel)) ggX8_read_J7_fill_53178
set_option maxRecDepth 20000 in
theorem ggX8_read_X8_skipBlanks : GoodIn wsX8_read wsX8_skipBlanks := goodIn_r _ [13, 3, 4, 14, 15, 16, 17, 18, 19, 20, 42, 43, 44, 45, 46] (by decide +kernel) (by decide +kernel)
set_option maxRecDepth 20000 in
theorem gX8_read_X8_skipBlanks : GoodIn wsX8_read (wsV RX8 28 RX8 yX8_skipBlanks wsX8_skipBlanks) := goodIn_app (goodIn_of _ (by decide +kernel)) ggX8_read_X8_skipBlanks
set_option maxRecDepth 20000 in
theorem ggX8_read_X8_readFacet : GoodIn wsX8_read wsX8_readFacet := goodIn_r _ [24, 3, 4, 2, 14, 15, 16, 17, 18, 19, 20, 25, 26, 12, 27, 28, 29, 30, 31, 32, 33, 34, 35, 36, 37, 38, 39, 40, 41, 1, 42, 43, 44, 45, 46] (by decide +kernel) (by decide +kernel)
set_option maxRecDepth 20000 in
theorem gX8_read_X8_readFacet : GoodIn wsX8_read (wsV RX8 32 RX8 yX8_readFacet wsX8_readFacet) := goodIn_app (goodIn_of _ (by decide +kernel)) ggX8_read_X8_readFacet
set_option maxRecDepth 20000 in
theorem ggX8_readFacet_X10_at : GoodIn wsX8_readFacet wsX10_at := goodIn_r _ [8, 9, 10, 33, 34] (by decide +kernel) (by decide +kernel)
set_option maxRecDepth 20000 in
theorem gX8_readFacet_X10_at : GoodIn wsX8_readFacet (wsV RX8 41 RX10 yX10_at wsX10_at) := goodIn_app (goodIn_of _ (by decide +kernel)) ggX8_readFacet_X10_at
set_option maxRecDepth 20000 in
theorem ggX8_readFacet_X8_isLetter : GoodIn wsX8_readFacet wsX8_isLetter := goodIn_r _ [14] (by decide +kernel) (by decide +kernel)
set_option maxRecDepth 20000 in
theorem gX8_readFacet_X8_isLetter : GoodIn wsX8_readFacet (va_wsS RX8 49 yX8_isLetter wsX8_isLetter) := goodIn_app (goodIn_of _ (by decide +kernel)) ggX8_readFacet_X8_isLetter
set_option maxRecDepth 20000 in
theorem ggX8_readFacet_X8_fault : GoodIn wsX8_readFacet wsX8_fault := goodIn_r _ [17] (by decide +kernel) (by decide +kernel)
set_option maxRecDepth 20000 in
theorem gX8_readFacet_X8_fault : GoodIn wsX8_readFacet (va_wsS RX8 45 yX8_fault wsX8_fault) := goodIn_app (goodIn_of _ (by decide +kernel)) ggX8_readFacet_X8_fault
set_option maxRecDepth 20000 in
theorem ggX9_init_J7_fill_53178 : GoodIn wsX9_init wsJ7_fill_53178 := goodIn_r _ [15] (by decide +kernel) (by decide +kernel)
set_option maxRecDepth 20000 in
theorem gX9_init_J7_fill_53178 : GoodIn wsX9_init (va_wsS RX9 31 yJ7_fill_53178 wsJ7_fill_53178) := goodIn_app (goodIn_of _ (by decide +kernel)) ggX9_init_J7_fill_53178
set_option maxRecDepth 20000 in
theorem ggX9_eulerOf_J13_bitCount_95d88 : GoodIn wsX9_eulerOf wsJ13_bitCount_95d88 := goodIn_r _ [5, 6, 7, 8] (by decide +kernel) (by decide +kernel)
set_option maxRecDepth 20000 in
theorem gX9_eulerOf_J13_bitCount_95d88 : GoodIn wsX9_eulerOf (va_wsS RX9 62 yJ13_bitCount_95d88 wsJ13_bitCount_95d88) := goodIn_app (goodIn_of _ (by decide +kernel)) ggX9_eulerOf_J13_bitCount_95d88
set_option maxRecDepth 20000 in
theorem ggX11_init_X10_init : GoodIn wsX11_init wsX10_init := goodIn_r _ [45, 46, 2, 3, 47, 48, 125, 126] (by decide +kernel) (by decide +kernel)
set_option maxRecDepth 20000 in
theorem gX11_init_X10_init_n9 : GoodIn wsX11_init (wsX10_init) := ggX11_init_X10_init
set_option maxRecDepth 20000 in
theorem ggX11_init_X8_init : GoodIn wsX11_init wsX8_init := goodIn_r _ [50, 51, 2, 3, 47, 52, 138, 139, 140] (by decide +kernel) (by decide +kernel)
set_option maxRecDepth 20000 in
theorem gX11_init_X8_init_n18 : GoodIn wsX11_init (wsX8_init) := ggX11_init_X8_init
set_option maxRecDepth 20000 in
theorem ggX11_init_X9_init : GoodIn wsX11_init wsX9_init := goodIn_r _ [55, 56, 2, 3, 47, 57, 58, 59, 60, 61, 62, 63, 64, 65, 66, 67, 141, 142, 143, 144, 145, 146, 147] (by decide +kernel) (by decide +kernel)
set_option maxRecDepth 20000 in
theorem gX11_init_X9_init : GoodIn wsX11_init (wsX9_init) := ggX11_init_X9_init
set_option maxRecDepth 20000 in
theorem ggX11_init_X6_init : GoodIn wsX11_init wsX6_init := goodIn_r _ [70, 71, 2, 3, 47, 72, 73, 74, 65, 66, 67, 148, 149, 150, 151, 152, 153] (by decide +kernel) (by decide +kernel)
set_option maxRecDepth 20000 in
theorem gX11_init_X6_init : GoodIn wsX11_init (wsX6_init) := ggX11_init_X6_init
set_option maxRecDepth 20000 in
theorem ggX11_init_X7_init : GoodIn wsX11_init wsX7_init := goodIn_r _ [77, 78, 2, 3, 79, 154, 155, 156] (by decide +kernel) (by decide +kernel)
set_option maxRecDepth 20000 in
theorem gX11_init_X7_init : GoodIn wsX11_init (wsX7_init) := ggX11_init_X7_init
set_option maxRecDepth 20000 in
theorem ggX11_init_X2_init : GoodIn wsX11_init wsX2_init := goodIn_r _ [82, 83, 2, 3, 47, 84, 85, 86, 87, 88, 157, 158, 159, 160, 161, 162] (by decide +kernel) (by decide +kernel)
set_option maxRecDepth 20000 in
theorem gX11_init_X2_init : GoodIn wsX11_init (wsX2_init) := ggX11_init_X2_init
set_option maxRecDepth 20000 in
theorem ggX11_init_X1_init : GoodIn wsX11_init wsX1_init := goodIn_r _ [91, 92, 2, 3, 60, 93, 94, 47, 95, 96, 97, 98, 163, 164, 165, 166, 167, 168, 169] (by decide +kernel) (by decide +kernel)
set_option maxRecDepth 20000 in
theorem gX11_init_X1_init : GoodIn wsX11_init (wsX1_init) := ggX11_init_X1_init
set_option maxRecDepth 20000 in
theorem ggX11_init_X0_init : GoodIn wsX11_init wsX0_init := goodIn_r _ [101, 102, 2, 3, 60, 103, 104, 105, 106, 107, 108, 109, 110, 111, 112, 113, 114, 115, 170, 171, 172, 173, 180, 181, 182, 183, 184, 185] (by decide +kernel) (by decide +kernel)
set_option maxRecDepth 20000 in
theorem gX11_init_X0_init : GoodIn wsX11_init (wsX0_init) := ggX11_init_X0_init
set_option maxRecDepth 20000 in
theorem ggX11_init_X3_init : GoodIn wsX11_init wsX3_init := goodIn_r _ [117, 118, 2, 3, 47, 119, 60, 120, 174, 175, 176, 177] (by decide +kernel) (by decide +kernel)
set_option maxRecDepth 20000 in
theorem gX11_init_X3_init_n75 : GoodIn wsX11_init (wsX3_init) := ggX11_init_X3_init
set_option maxRecDepth 20000 in
theorem ggX11_init_X4_init : GoodIn wsX11_init wsX4_init := goodIn_r _ [122, 123, 2, 3, 47, 124, 178, 179] (by decide +kernel) (by decide +kernel)
set_option maxRecDepth 20000 in
theorem gX11_init_X4_init_n82 : GoodIn wsX11_init (wsX4_init) := ggX11_init_X4_init
set_option maxRecDepth 20000 in
theorem ggX11_feed_X10_append : GoodIn wsX11_feed wsX10_append := goodIn_r _ [7, 8, 9, 21, 22] (by decide +kernel) (by decide +kernel)
set_option maxRecDepth 20000 in
theorem gX11_feed_X10_append : GoodIn wsX11_feed (wsV RX11 91 RX10 yX10_append wsX10_append) := goodIn_app (goodIn_of _ (by decide +kernel)) ggX11_feed_X10_append
set_option maxRecDepth 20000 in
theorem ggX11_complex_X8_read : GoodIn wsX11_complex wsX8_read := goodIn_r _ [15, 16, 17, 18, 19, 20, 21, 22, 23, 24, 25, 26, 14, 27, 28, 29, 30, 31, 32, 33, 34, 35, 36, 37, 38, 39, 40, 41, 42, 43, 44, 45, 46, 47, 48, 49, 50, 51, 52, 53, 54, 55, 114, 115, 116, 112, 113] (by decide +kernel) (by decide +kernel)
set_option maxRecDepth 20000 in
theorem gX11_complex_X8_read : GoodIn wsX11_complex (wsV RX11 95 RX8 yX8_read wsX8_read) := goodIn_app (goodIn_of _ (by decide +kernel)) ggX11_complex_X8_read
set_option maxRecDepth 20000 in
theorem ggX11_simplex_X9_has : GoodIn wsX11_simplex wsX9_has := goodIn_r _ [13, 14, 83, 84, 85, 86, 87, 88, 89] (by decide +kernel) (by decide +kernel)
set_option maxRecDepth 20000 in
theorem gX11_simplex_X9_has : GoodIn wsX11_simplex (wsV RX11 120 RX9 yX9_has wsX9_has) := goodIn_app (goodIn_of _ (by decide +kernel)) ggX11_simplex_X9_has
set_option maxRecDepth 20000 in
theorem ggX11_sign_X9_has : GoodIn wsX11_sign wsX9_has := goodIn_r _ [7, 8, 36, 37, 38, 39, 40, 41, 42] (by decide +kernel) (by decide +kernel)
set_option maxRecDepth 20000 in
theorem gX11_sign_X9_has : GoodIn wsX11_sign (wsV RX11 120 RX9 yX9_has wsX9_has) := goodIn_app (goodIn_of _ (by decide +kernel)) ggX11_sign_X9_has
set_option maxRecDepth 20000 in
theorem ggX11_pair_X11_isThere : GoodIn wsX11_pair wsX11_isThere := goodIn_r _ [9, 1, 3, 10, 11, 12, 13, 14, 15, 16, 17, 18, 8, 19, 80, 81, 82, 83, 84, 85, 86, 87, 88, 89, 90, 98, 99, 100, 101, 102, 103, 91, 92, 93, 94, 95, 96, 97] (by decide +kernel) (by decide +kernel)
set_option maxRecDepth 20000 in
theorem gX11_pair_X11_isThere : GoodIn wsX11_pair (wsV RX11 130 RX11 yX11_isThere wsX11_isThere) := goodIn_app (goodIn_of _ (by decide +kernel)) ggX11_pair_X11_isThere
set_option maxRecDepth 20000 in
theorem ggX11_part_X11_isThere : GoodIn wsX11_part wsX11_isThere := goodIn_r _ [8, 9, 1, 10, 11, 12, 13, 14, 15, 16, 17, 18, 7, 19, 67, 68, 69, 70, 71, 72, 73, 74, 75, 76, 77, 78, 79, 80, 81, 82, 83, 84, 85, 86, 87, 88, 89, 90] (by decide +kernel) (by decide +kernel)
set_option maxRecDepth 20000 in
theorem gX11_part_X11_isThere : GoodIn wsX11_part (wsV RX11 130 RX11 yX11_isThere wsX11_isThere) := goodIn_app (goodIn_of _ (by decide +kernel)) ggX11_part_X11_isThere
set_option maxRecDepth 20000 in
theorem ggX11_cancel_X11_areEnds : GoodIn wsX11_cancel wsX11_areEnds := goodIn_r _ [9, 10, 11, 3, 12, 13, 14, 8, 15, 16, 17, 18, 19, 20, 21, 22, 23, 24, 25, 26, 27, 28, 29, 30, 31, 32, 33, 34, 35, 36, 37, 38, 147, 148, 149, 150, 151, 152, 153, 154, 155, 156, 157, 165, 166, 167, 168, 169, 170, 171, 172, 173, 174, 175, 176, 177] (by decide +kernel) (by decide +kernel)
set_option maxRecDepth 20000 in
theorem gX11_cancel_X11_areEnds : GoodIn wsX11_cancel (wsV RX11 203 RX11 yX11_areEnds wsX11_areEnds) := goodIn_app (goodIn_of _ (by decide +kernel)) ggX11_cancel_X11_areEnds
set_option maxRecDepth 20000 in
theorem ggX11_collapse_X11_isThere : GoodIn wsX11_collapse wsX11_isThere := goodIn_r _ [10, 3, 2, 5, 11, 12, 13, 14, 15, 16, 17, 18, 9, 19, 70, 71, 72, 73, 74, 75, 76, 77, 78, 79, 80, 88, 89, 90, 91, 92, 93, 81, 82, 83, 84, 85, 86, 87] (by decide +kernel) (by decide +kernel)
set_option maxRecDepth 20000 in
theorem gX11_collapse_X11_isThere : GoodIn wsX11_collapse (wsV RX11 130 RX11 yX11_isThere wsX11_isThere) := goodIn_app (goodIn_of _ (by decide +kernel)) ggX11_collapse_X11_isThere
set_option maxRecDepth 20000 in
theorem ggX11_critical_X11_isDim : GoodIn wsX11_critical wsX11_isDim := goodIn_r _ [7] (by decide +kernel) (by decide +kernel)
set_option maxRecDepth 20000 in
theorem gX11_critical_X11_isDim : GoodIn wsX11_critical (va_wsS RX11 229 yX11_isDim wsX11_isDim) := goodIn_app (goodIn_of _ (by decide +kernel)) ggX11_critical_X11_isDim
set_option maxRecDepth 20000 in
theorem ggX11_critical_X6_unpaired : GoodIn wsX11_critical wsX6_unpaired := goodIn_r _ [12, 13, 14, 15, 16, 51, 52, 53, 54, 55, 56] (by decide +kernel) (by decide +kernel)
set_option maxRecDepth 20000 in
theorem gX11_critical_X6_unpaired : GoodIn wsX11_critical (wsV RX11 232 RX6 yX6_unpaired wsX6_unpaired) := goodIn_app (goodIn_of _ (by decide +kernel)) ggX11_critical_X6_unpaired
set_option maxRecDepth 20000 in
theorem ggX11_critical_X11_listed : GoodIn wsX11_critical wsX11_listed := goodIn_r _ [19, 20, 21, 22, 23, 24, 25, 26, 27, 28, 6, 29, 30, 31, 32] (by decide +kernel) (by decide +kernel)
set_option maxRecDepth 20000 in
theorem gX11_critical_X11_listed : GoodIn wsX11_critical (va_wsS RX11 238 yX11_listed wsX11_listed) := goodIn_app (goodIn_of _ (by decide +kernel)) ggX11_critical_X11_listed
set_option maxRecDepth 20000 in
theorem ggX11_paths_X11_areEnds : GoodIn wsX11_paths wsX11_areEnds := goodIn_r _ [7, 8, 9, 10, 11, 12, 13, 6, 14, 15, 16, 17, 18, 19, 20, 21, 22, 23, 24, 25, 26, 27, 28, 29, 30, 31, 32, 33, 34, 35, 36, 37, 103, 104, 105, 106, 107, 108, 109, 110, 111, 112, 113, 114, 115, 116, 117, 118, 119, 120, 121, 122, 123, 124, 125, 126] (by decide +kernel) (by decide +kernel)
set_option maxRecDepth 20000 in
theorem gX11_paths_X11_areEnds : GoodIn wsX11_paths (wsV RX11 203 RX11 yX11_areEnds wsX11_areEnds) := goodIn_app (goodIn_of _ (by decide +kernel)) ggX11_paths_X11_areEnds
set_option maxRecDepth 20000 in
theorem ggX11_path_X11_areEnds : GoodIn wsX11_path wsX11_areEnds := goodIn_r _ [7, 8, 9, 10, 11, 12, 13, 6, 14, 15, 16, 17, 18, 19, 20, 21, 22, 23, 24, 25, 26, 27, 28, 29, 30, 31, 32, 33, 34, 35, 36, 37, 113, 114, 115, 116, 117, 118, 119, 120, 121, 122, 123, 131, 132, 133, 134, 135, 136, 137, 138, 139, 140, 141, 142, 143] (by decide +kernel) (by decide +kernel)
set_option maxRecDepth 20000 in
theorem gX11_path_X11_areEnds : GoodIn wsX11_path (wsV RX11 203 RX11 yX11_areEnds wsX11_areEnds) := goodIn_app (goodIn_of _ (by decide +kernel)) ggX11_path_X11_areEnds
set_option maxRecDepth 20000 in
theorem ggX11_incidence_X11_areEnds : GoodIn wsX11_incidence wsX11_areEnds := goodIn_r _ [10, 3, 4, 11, 12, 13, 14, 9, 15, 16, 17, 18, 19, 20, 21, 22, 23, 24, 25, 26, 27, 28, 29, 30, 31, 32, 33, 34, 35, 36, 37, 38, 125, 126, 127, 128, 129, 130, 131, 132, 133, 134, 135, 136, 137, 138, 139, 140, 141, 142, 150, 151, 152, 153, 154, 155] (by decide +kernel) (by decide +kernel)
set_option maxRecDepth 20000 in
theorem gX11_incidence_X11_areEnds : GoodIn wsX11_incidence (wsV RX11 203 RX11 yX11_areEnds wsX11_areEnds) := goodIn_app (goodIn_of _ (by decide +kernel)) ggX11_incidence_X11_areEnds
set_option maxRecDepth 20000 in
theorem ggX11_chain_X11_isThere : GoodIn wsX11_chain wsX11_isThere := goodIn_r _ [11, 3, 1, 12, 13, 14, 15, 16, 17, 18, 19, 20, 10, 21, 121, 122, 123, 124, 125, 126, 127, 128, 129, 130, 131, 146, 147, 148, 149, 150, 151, 132, 133, 134, 135, 136, 137, 138] (by decide +kernel) (by decide +kernel)
set_option maxRecDepth 20000 in
theorem gX11_chain_X11_isThere : GoodIn wsX11_chain (wsV RX11 130 RX11 yX11_isThere wsX11_isThere) := goodIn_app (goodIn_of _ (by decide +kernel)) ggX11_chain_X11_isThere
set_option maxRecDepth 20000 in
theorem ggX11_root_X11_isThere : GoodIn wsX11_root wsX11_isThere := goodIn_r _ [11, 1, 3, 12, 13, 14, 15, 16, 17, 18, 19, 20, 10, 21, 35, 36, 37, 38, 39, 40, 41, 42, 43, 44, 45, 53, 54, 55, 56, 57, 58, 46, 47, 48, 49, 50, 51, 52] (by decide +kernel) (by decide +kernel)
set_option maxRecDepth 20000 in
theorem gX11_root_X11_isThere : GoodIn wsX11_root (wsV RX11 130 RX11 yX11_isThere wsX11_isThere) := goodIn_app (goodIn_of _ (by decide +kernel)) ggX11_root_X11_isThere
set_option maxRecDepth 20000 in
theorem ggX11_through_X11_areEnds : GoodIn wsX11_through wsX11_areEnds := goodIn_r _ [11, 3, 4, 12, 13, 14, 15, 10, 16, 17, 18, 19, 20, 21, 22, 23, 24, 25, 26, 27, 28, 29, 30, 31, 32, 33, 34, 35, 36, 37, 38, 39, 135, 136, 137, 138, 139, 140, 141, 142, 143, 144, 145, 146, 147, 148, 149, 150, 151, 152, 160, 161, 162, 163, 164, 165] (by decide +kernel) (by decide +kernel)
set_option maxRecDepth 20000 in
theorem gX11_through_X11_areEnds : GoodIn wsX11_through (wsV RX11 203 RX11 yX11_areEnds wsX11_areEnds) := goodIn_app (goodIn_of _ (by decide +kernel)) ggX11_through_X11_areEnds
set_option maxRecDepth 20000 in
theorem ggX11_squares_X6_unpaired : GoodIn wsX11_squares wsX6_unpaired := goodIn_r _ [9, 10, 11, 12, 13, 134, 135, 136, 137, 138, 139] (by decide +kernel) (by decide +kernel)
set_option maxRecDepth 20000 in
theorem gX11_squares_X6_unpaired : GoodIn wsX11_squares (wsV RX11 232 RX6 yX6_unpaired wsX6_unpaired) := goodIn_app (goodIn_of _ (by decide +kernel)) ggX11_squares_X6_unpaired
set_option maxRecDepth 20000 in
theorem ggX11_betti_X11_isDim : GoodIn wsX11_betti wsX11_isDim := goodIn_r _ [5] (by decide +kernel) (by decide +kernel)
set_option maxRecDepth 20000 in
theorem gX11_betti_X11_isDim : GoodIn wsX11_betti (va_wsS RX11 229 yX11_isDim wsX11_isDim) := goodIn_app (goodIn_of _ (by decide +kernel)) ggX11_betti_X11_isDim
set_option maxRecDepth 20000 in
theorem ggX11_betti_X11_basis : GoodIn wsX11_betti wsX11_basis := goodIn_r _ [9, 10, 11, 12, 13, 14, 15, 16, 17, 18, 19, 20, 174, 175, 176, 177, 178, 179, 180, 181, 182, 183, 184, 185, 186, 187, 188, 189, 190] (by decide +kernel) (by decide +kernel)
set_option maxRecDepth 20000 in
theorem gX11_betti_X11_basis : GoodIn wsX11_betti (wsV RX11 266 RX11 yX11_basis wsX11_basis) := goodIn_app (goodIn_of _ (by decide +kernel)) ggX11_betti_X11_basis
set_option maxRecDepth 20000 in
theorem ggX11_betti_X0_bettiOf : GoodIn wsX11_betti wsX0_bettiOf := goodIn_r _ [25, 26, 27, 28, 29, 30, 31, 32, 33, 34, 35, 36, 37, 24, 38, 39, 40, 41, 42, 43, 44, 45, 46, 47, 48, 49, 50, 51, 52, 53, 54, 4, 55, 56, 57, 58, 59, 60, 61, 62, 63, 64, 65, 66, 67, 68, 69, 70, 71, 72, 73, 74, 75, 76, 77, 78, 79, 80, 81, 82, 83, 84, 85, 86, 87, 88, 15, 89, 90, 91, 92, 93, 94, 95, 96, 97, 98, 99, 100, 101, 102, 103, 104, 105, 106, 107, 108, 109, 110, 111, 112, 113, 114, 20, 115, 116, 117, 118, 119, 120, 121, 122, 123, 124, 125, 126, 127, 128, 129, 130, 131, 132, 133, 134, 135, 136, 137, 138, 139, 140, 141, 142, 143, 144, 145, 146, 147, 148, 149, 150, 151, 152, 153, 154, 155, 156, 157, 158, 159, 160, 161, 162, 163, 164, 165, 166, 167, 168, 169, 170, 171, 172, 173, 191, 192, 193, 194, 195, 196, 197, 198, 199, 200, 201, 202, 203, 204, 205, 206, 207, 208, 209, 210, 211, 212, 213, 214, 215, 216, 217, 218, 219, 220, 185, 186, 187, 188, 189, 190] (by decide +kernel) (by decide +kernel)
set_option maxRecDepth 20000 in
theorem gX11_betti_X0_bettiOf : GoodIn wsX11_betti (wsV RX11 269 RX0 yX0_bettiOf wsX0_bettiOf) := goodIn_app (goodIn_of _ (by decide +kernel)) ggX11_betti_X0_bettiOf
set_option maxRecDepth 20000 in
theorem ggX11_torsion_X11_isDim : GoodIn wsX11_torsion wsX11_isDim := goodIn_r _ [8] (by decide +kernel) (by decide +kernel)
set_option maxRecDepth 20000 in
theorem gX11_torsion_X11_isDim : GoodIn wsX11_torsion (va_wsS RX11 229 yX11_isDim wsX11_isDim) := goodIn_app (goodIn_of _ (by decide +kernel)) ggX11_torsion_X11_isDim
set_option maxRecDepth 20000 in
theorem ggX11_torsion_X11_basis : GoodIn wsX11_torsion wsX11_basis := goodIn_r _ [12, 13, 14, 15, 16, 17, 18, 19, 20, 21, 22, 23, 234, 235, 236, 237, 238, 239, 240, 241, 242, 243, 244, 249, 250, 251, 252, 253, 254] (by decide +kernel) (by decide +kernel)
set_option maxRecDepth 20000 in
theorem gX11_torsion_X11_basis : GoodIn wsX11_torsion (wsV RX11 266 RX11 yX11_basis wsX11_basis) := goodIn_app (goodIn_of _ (by decide +kernel)) ggX11_torsion_X11_basis
set_option maxRecDepth 20000 in
theorem ggX11_torsion_X0_torsionsOf : GoodIn wsX11_torsion wsX0_torsionsOf := goodIn_r _ [28, 29, 30, 31, 32, 33, 34, 35, 27, 36, 37, 38, 39, 40, 41, 42, 43, 44, 45, 46, 47, 48, 49, 50, 51, 52, 53, 54, 55, 56, 57, 58, 59, 60, 7, 61, 62, 63, 64, 65, 66, 67, 68, 69, 70, 71, 72, 73, 74, 75, 76, 77, 78, 79, 80, 81, 82, 83, 84, 85, 86, 87, 88, 89, 90, 91, 92, 93, 94, 18, 95, 96, 97, 98, 99, 100, 101, 102, 103, 104, 105, 106, 107, 108, 109, 110, 111, 112, 113, 114, 115, 116, 117, 118, 119, 120, 23, 121, 122, 123, 124, 125, 126, 127, 128, 129, 130, 131, 132, 133, 134, 135, 136, 137, 138, 139, 140, 141, 142, 143, 144, 145, 146, 147, 148, 149, 150, 151, 152, 153, 154, 155, 156, 157, 158, 159, 160, 161, 162, 163, 164, 165, 166, 167, 168, 169, 170, 171, 172, 173, 174, 175, 176, 177, 178, 179, 180, 181, 182, 183, 184, 185, 186, 187, 188, 189, 190, 191, 192, 193, 194, 195, 196, 197, 198, 199, 200, 201, 202, 203, 204, 205, 206, 207, 208, 209, 210, 211, 212, 213, 214, 215, 216, 217, 218, 219, 220, 221, 222, 223, 224, 225, 226, 227, 228, 229, 230, 231, 232, 233, 245, 246, 247, 248, 255, 256, 257, 258, 259, 260, 261, 262, 263, 264, 265, 266, 267, 268, 269, 270, 271, 272, 273, 274, 275, 276, 277, 278, 279, 280, 249, 250, 251, 252, 253, 254] (by decide +kernel) (by decide +kernel)
set_option maxRecDepth 20000 in
theorem gX11_torsion_X0_torsionsOf : GoodIn wsX11_torsion (wsV RX11 273 RX0 yX0_torsionsOf wsX0_torsionsOf) := goodIn_app (goodIn_of _ (by decide +kernel)) ggX11_torsion_X0_torsionsOf
set_option maxRecDepth 20000 in
theorem ggX11_slack_X11_isDim : GoodIn wsX11_slack wsX11_isDim := goodIn_r _ [10] (by decide +kernel) (by decide +kernel)
set_option maxRecDepth 20000 in
theorem gX11_slack_X11_isDim : GoodIn wsX11_slack (va_wsS RX11 229 yX11_isDim wsX11_isDim) := goodIn_app (goodIn_of _ (by decide +kernel)) ggX11_slack_X11_isDim
set_option maxRecDepth 20000 in
theorem ggX11_slack_X6_unpaired : GoodIn wsX11_slack wsX6_unpaired := goodIn_r _ [15, 16, 17, 18, 19, 191, 192, 193, 194, 195, 196] (by decide +kernel) (by decide +kernel)
set_option maxRecDepth 20000 in
theorem gX11_slack_X6_unpaired : GoodIn wsX11_slack (wsV RX11 232 RX6 yX6_unpaired wsX6_unpaired) := goodIn_app (goodIn_of _ (by decide +kernel)) ggX11_slack_X6_unpaired
set_option maxRecDepth 20000 in
theorem ggX11_slack_J13_bitCount_95d88 : GoodIn wsX11_slack wsJ13_bitCount_95d88 := goodIn_r _ [23, 24, 25, 26] (by decide +kernel) (by decide +kernel)
set_option maxRecDepth 20000 in
theorem gX11_slack_J13_bitCount_95d88 : GoodIn wsX11_slack (va_wsS RX11 151 yJ13_bitCount_95d88 wsJ13_bitCount_95d88) := goodIn_app (goodIn_of _ (by decide +kernel)) ggX11_slack_J13_bitCount_95d88
set_option maxRecDepth 20000 in
theorem ggX11_slack_X0_bettiOf : GoodIn wsX11_slack wsX0_bettiOf := goodIn_r _ [31, 32, 33, 34, 21, 22, 23, 24, 25, 26, 35, 36, 37, 30, 38, 39, 40, 41, 42, 43, 44, 45, 46, 47, 48, 49, 50, 51, 52, 53, 54, 9, 55, 56, 57, 58, 59, 60, 61, 62, 63, 64, 65, 66, 67, 68, 69, 70, 71, 72, 73, 74, 75, 76, 77, 78, 79, 80, 81, 82, 83, 84, 85, 86, 87, 88, 14, 89, 90, 91, 92, 93, 94, 95, 96, 97, 98, 99, 100, 101, 102, 103, 104, 105, 106, 107, 108, 109, 110, 111, 112, 113, 114, 19, 115, 116, 20, 117, 118, 119, 120, 121, 122, 123, 124, 125, 126, 127, 128, 129, 130, 131, 132, 133, 134, 135, 136, 137, 138, 139, 140, 141, 142, 143, 144, 145, 146, 147, 148, 149, 150, 151, 152, 153, 154, 155, 156, 157, 158, 159, 160, 161, 162, 163, 164, 165, 166, 167, 168, 169, 170, 171, 172, 197, 198, 199, 200, 184, 185, 186, 187, 188, 189, 190, 201, 202, 203, 204, 205, 206, 207, 208, 209, 210, 211, 212, 213, 214, 215, 216, 217, 218, 219, 191, 192, 193, 194, 195, 196] (by decide +kernel) (by decide +kernel)
set_option maxRecDepth 20000 in
theorem gX11_slack_X0_bettiOf : GoodIn wsX11_slack (wsV RX11 269 RX0 yX0_bettiOf wsX0_bettiOf) := goodIn_app (goodIn_of _ (by decide +kernel)) ggX11_slack_X0_bettiOf
set_option maxRecDepth 20000 in
theorem ggX11_free_X11_listed : GoodIn wsX11_free wsX11_listed := goodIn_r _ [39, 24, 25, 26, 27, 28, 29, 30, 40, 41, 6, 42, 31, 32, 33] (by decide +kernel) (by decide +kernel)
set_option maxRecDepth 20000 in
theorem gX11_free_X11_listed : GoodIn wsX11_free (va_wsS RX11 238 yX11_listed wsX11_listed) := goodIn_app (goodIn_of _ (by decide +kernel)) ggX11_free_X11_listed
set_option maxRecDepth 20000 in
theorem ggX11_facet_X11_listed : GoodIn wsX11_facet wsX11_listed := goodIn_r _ [25, 26, 27, 28, 29, 30, 31, 32, 33, 34, 9, 35, 36, 37, 38] (by decide +kernel) (by decide +kernel)
set_option maxRecDepth 20000 in
theorem gX11_facet_X11_listed : GoodIn wsX11_facet (va_wsS RX11 238 yX11_listed wsX11_listed) := goodIn_app (goodIn_of _ (by decide +kernel)) ggX11_facet_X11_listed
set_option maxRecDepth 20000 in
theorem ggX11_link_X11_isThere : GoodIn wsX11_link wsX11_isThere := goodIn_r _ [7, 2, 8, 9, 10, 11, 12, 13, 14, 15, 16, 17, 6, 18, 46, 47, 48, 49, 50, 51, 52, 53, 54, 55, 56, 57, 58, 59, 60, 61, 62, 63, 64, 65, 66, 67, 68, 69] (by decide +kernel) (by decide +kernel)
set_option maxRecDepth 20000 in
theorem gX11_link_X11_isThere : GoodIn wsX11_link (wsV RX11 130 RX11 yX11_isThere wsX11_isThere) := goodIn_app (goodIn_of _ (by decide +kernel)) ggX11_link_X11_isThere
set_option maxRecDepth 20000 in
theorem ggX11_room_X11_isDim : GoodIn wsX11_room wsX11_isDim := goodIn_r _ [9] (by decide +kernel) (by decide +kernel)
set_option maxRecDepth 20000 in
theorem gX11_room_X11_isDim : GoodIn wsX11_room (va_wsS RX11 229 yX11_isDim wsX11_isDim) := goodIn_app (goodIn_of _ (by decide +kernel)) ggX11_room_X11_isDim
set_option maxRecDepth 20000 in
theorem ggX11_room_X6_unpaired : GoodIn wsX11_room wsX6_unpaired := goodIn_r _ [14, 15, 16, 17, 18, 62, 63, 64, 65, 66, 67] (by decide +kernel) (by decide +kernel)
set_option maxRecDepth 20000 in
theorem gX11_room_X6_unpaired : GoodIn wsX11_room (wsV RX11 232 RX6 yX6_unpaired wsX6_unpaired) := goodIn_app (goodIn_of _ (by decide +kernel)) ggX11_room_X6_unpaired
set_option maxRecDepth 20000 in
theorem ggX11_level_X2_upTo : GoodIn wsX11_level wsX2_upTo := goodIn_r _ [7, 8, 9, 10, 11, 12, 13, 6, 14, 15, 16, 17, 18, 19, 20, 21, 22, 23, 24, 25, 26, 27, 28, 29, 30, 31, 32, 33, 34, 35, 36, 37, 38, 39, 40, 41, 42, 68, 69, 70, 71, 72, 73, 74, 75, 76, 77, 78, 79, 80, 81, 82, 83, 84, 85, 86] (by decide +kernel) (by decide +kernel)
set_option maxRecDepth 20000 in
theorem gX11_level_X2_upTo : GoodIn wsX11_level (wsV RX11 302 RX2 yX2_upTo wsX2_upTo) := goodIn_app (goodIn_of _ (by decide +kernel)) ggX11_level_X2_upTo
set_option maxRecDepth 20000 in
theorem ggX11_level_J13_bitCount_95d88 : GoodIn wsX11_level wsJ13_bitCount_95d88 := goodIn_r _ [46, 47, 48, 49] (by decide +kernel) (by decide +kernel)
set_option maxRecDepth 20000 in
theorem gX11_level_J13_bitCount_95d88 : GoodIn wsX11_level (va_wsS RX11 151 yJ13_bitCount_95d88 wsJ13_bitCount_95d88) := goodIn_app (goodIn_of _ (by decide +kernel)) ggX11_level_J13_bitCount_95d88
set_option maxRecDepth 20000 in
theorem ggX11_level_X9_eulerOf : GoodIn wsX11_level wsX9_eulerOf := goodIn_r _ [54, 55, 56, 44, 45, 46, 47, 48, 49, 80, 81, 82, 83, 84, 85, 86] (by decide +kernel) (by decide +kernel)
set_option maxRecDepth 20000 in
theorem gX11_level_X9_eulerOf : GoodIn wsX11_level (wsV RX11 284 RX9 yX9_eulerOf wsX9_eulerOf) := goodIn_app (goodIn_of _ (by decide +kernel)) ggX11_level_X9_eulerOf
set_option maxRecDepth 20000 in
theorem ggX11_levelBetti_X11_isDim : GoodIn wsX11_levelBetti wsX11_isDim := goodIn_r _ [7] (by decide +kernel) (by decide +kernel)
set_option maxRecDepth 20000 in
theorem gX11_levelBetti_X11_isDim : GoodIn wsX11_levelBetti (va_wsS RX11 229 yX11_isDim wsX11_isDim) := goodIn_app (goodIn_of _ (by decide +kernel)) ggX11_levelBetti_X11_isDim
set_option maxRecDepth 20000 in
theorem ggX11_levelBetti_X2_upTo : GoodIn wsX11_levelBetti wsX2_upTo := goodIn_r _ [12, 13, 14, 15, 16, 17, 18, 11, 19, 20, 21, 22, 23, 24, 25, 26, 27, 28, 29, 30, 31, 32, 33, 34, 35, 6, 36, 37, 38, 39, 40, 41, 42, 43, 44, 45, 46, 184, 185, 186, 187, 188, 189, 190, 191, 192, 193, 194, 195, 196, 197, 198, 199, 200, 201, 202] (by decide +kernel) (by decide +kernel)
set_option maxRecDepth 20000 in
theorem gX11_levelBetti_X2_upTo : GoodIn wsX11_levelBetti (wsV RX11 302 RX2 yX2_upTo wsX2_upTo) := goodIn_app (goodIn_of _ (by decide +kernel)) ggX11_levelBetti_X2_upTo
set_option maxRecDepth 20000 in
theorem ggX11_levelBetti_X9_withFaces : GoodIn wsX11_levelBetti wsX9_withFaces := goodIn_r _ [51, 52, 53, 35, 6, 36, 196, 197, 198, 199, 200, 201, 202] (by decide +kernel) (by decide +kernel)
set_option maxRecDepth 20000 in
theorem gX11_levelBetti_X9_withFaces : GoodIn wsX11_levelBetti (wsV RX11 305 RX9 yX9_withFaces wsX9_withFaces) := goodIn_app (goodIn_of _ (by decide +kernel)) ggX11_levelBetti_X9_withFaces
set_option maxRecDepth 20000 in
theorem ggX11_levelBetti_X0_bettiOf : GoodIn wsX11_levelBetti wsX0_bettiOf := goodIn_r _ [58, 59, 60, 61, 62, 63, 64, 65, 66, 67, 68, 69, 70, 57, 71, 72, 73, 74, 75, 76, 77, 78, 79, 80, 81, 82, 83, 84, 85, 86, 35, 6, 36, 87, 88, 89, 90, 91, 92, 93, 94, 17, 18, 11, 19, 20, 21, 22, 14, 13, 23, 24, 25, 26, 27, 28, 29, 30, 31, 32, 33, 34, 15, 37, 38, 39, 40, 41, 42, 43, 44, 45, 46, 95, 96, 97, 98, 99, 100, 101, 102, 103, 104, 105, 106, 107, 108, 109, 110, 111, 112, 113, 114, 115, 116, 117, 118, 119, 120, 121, 50, 122, 53, 123, 124, 125, 126, 127, 128, 129, 130, 131, 132, 133, 134, 135, 136, 137, 138, 139, 140, 141, 142, 143, 144, 145, 146, 147, 148, 149, 150, 151, 152, 153, 154, 155, 156, 157, 158, 159, 160, 161, 162, 163, 164, 165, 166, 167, 168, 169, 170, 171, 172, 203, 204, 205, 206, 196, 197, 198, 199, 200, 201, 202, 207, 208, 209, 210, 211, 212, 213, 214, 215, 216, 217, 218, 219, 184, 185, 186, 187, 188, 189, 190, 191, 192, 193, 194, 195] (by decide +kernel) (by decide +kernel)
set_option maxRecDepth 20000 in
theorem gX11_levelBetti_X0_bettiOf : GoodIn wsX11_levelBetti (wsV RX11 269 RX0 yX0_bettiOf wsX0_bettiOf) := goodIn_app (goodIn_of _ (by decide +kernel)) ggX11_levelBetti_X0_bettiOf
set_option maxRecDepth 20000 in
theorem ggX11_same_X11_isIn : GoodIn wsX11_same wsX11_isIn := goodIn_r _ [7] (by decide +kernel) (by decide +kernel)
set_option maxRecDepth 20000 in
theorem gX11_same_X11_isIn : GoodIn wsX11_same (va_wsS RX11 168 yX11_isIn wsX11_isIn) := goodIn_app (goodIn_of _ (by decide +kernel)) ggX11_same_X11_isIn
set_option maxRecDepth 20000 in
theorem ggX11_count_J13_bitCount_95d88 : GoodIn wsX11_count wsJ13_bitCount_95d88 := goodIn_r _ [13, 14, 15, 16] (by decide +kernel) (by decide +kernel)
set_option maxRecDepth 20000 in
theorem gX11_count_J13_bitCount_95d88 : GoodIn wsX11_count (va_wsS RX11 151 yJ13_bitCount_95d88 wsJ13_bitCount_95d88) := goodIn_app (goodIn_of _ (by decide +kernel)) ggX11_count_J13_bitCount_95d88
set_option maxRecDepth 20000 in
theorem ggX11_count_X9_greatestDim : GoodIn wsX11_count wsX9_greatestDim := goodIn_r _ [21, 22, 73, 74, 75, 76, 77, 78, 79] (by decide +kernel) (by decide +kernel)
set_option maxRecDepth 20000 in
theorem gX11_count_X9_greatestDim : GoodIn wsX11_count (wsV RX11 323 RX9 yX9_greatestDim wsX9_greatestDim) := goodIn_app (goodIn_of _ (by decide +kernel)) ggX11_count_X9_greatestDim
set_option maxRecDepth 20000 in
theorem ggX11_count_X6_howMany : GoodIn wsX11_count wsX6_howMany := goodIn_r _ [27, 28, 29, 11, 12, 13, 14, 15, 16, 80, 81, 82, 83, 84, 85] (by decide +kernel) (by decide +kernel)
set_option maxRecDepth 20000 in
theorem gX11_count_X6_howMany : GoodIn wsX11_count (wsV RX11 313 RX6 yX6_howMany wsX6_howMany) := goodIn_app (goodIn_of _ (by decide +kernel)) ggX11_count_X6_howMany
set_option maxRecDepth 20000 in
theorem ggX11_count_X11_criticalOnes : GoodIn wsX11_count wsX11_criticalOnes := goodIn_r _ [34, 3, 35, 36, 37, 26, 38, 39, 28, 40, 41, 10, 11, 12, 13, 14, 15, 16, 62, 63, 64, 65, 66, 67, 68, 69, 70, 71, 72, 80, 81, 82, 83, 84, 85] (by decide +kernel) (by decide +kernel)
set_option maxRecDepth 20000 in
theorem gX11_count_X11_criticalOnes : GoodIn wsX11_count (wsV RX11 187 RX11 yX11_criticalOnes wsX11_criticalOnes) := goodIn_app (goodIn_of _ (by decide +kernel)) ggX11_count_X11_criticalOnes
set_option maxRecDepth 20000 in
theorem ggX11_count_X9_eulerOf : GoodIn wsX11_count wsX9_eulerOf := goodIn_r _ [45, 22, 46, 11, 12, 13, 14, 15, 16, 73, 74, 75, 76, 77, 78, 79] (by decide +kernel) (by decide +kernel)
set_option maxRecDepth 20000 in
theorem gX11_count_X9_eulerOf : GoodIn wsX11_count (wsV RX11 284 RX9 yX9_eulerOf wsX9_eulerOf) := goodIn_app (goodIn_of _ (by decide +kernel)) ggX11_count_X9_eulerOf
set_option maxRecDepth 20000 in
theorem ggX11_count_X9_partsOf : GoodIn wsX11_count wsX9_partsOf := goodIn_r _ [50, 51, 52, 33, 53, 10, 11, 12, 13, 14, 15, 16, 54, 55, 56, 20, 57, 58, 59, 60, 61, 73, 74, 75, 76, 77, 78, 79] (by decide +kernel) (by decide +kernel)
set_option maxRecDepth 20000 in
theorem gX11_count_X9_partsOf : GoodIn wsX11_count (wsV RX11 326 RX9 yX9_partsOf wsX9_partsOf) := goodIn_app (goodIn_of _ (by decide +kernel)) ggX11_count_X9_partsOf
set_option maxRecDepth 20000 in
theorem ggX11_lowest_J13_bitCount_95d88 : GoodIn wsX11_lowest wsJ13_bitCount_95d88 := goodIn_r _ [4, 5, 6, 7] (by decide +kernel) (by decide +kernel)
set_option maxRecDepth 20000 in
theorem gX11_lowest_J13_bitCount_95d88 : GoodIn wsX11_lowest (va_wsS RX11 151 yJ13_bitCount_95d88 wsJ13_bitCount_95d88) := goodIn_app (goodIn_of _ (by decide +kernel)) ggX11_lowest_J13_bitCount_95d88
set_option maxRecDepth 20000 in
theorem ggX11_nth_X11_lowest : GoodIn wsX11_nth wsX11_lowest := goodIn_r _ [4, 5, 6, 7, 8, 9, 10, 11] (by decide +kernel) (by decide +kernel)
set_option maxRecDepth 20000 in
theorem gX11_nth_X11_lowest : GoodIn wsX11_nth (va_wsS RX11 220 yX11_lowest wsX11_lowest) := goodIn_app (goodIn_of _ (by decide +kernel)) ggX11_nth_X11_lowest
set_option maxRecDepth 20000 in
theorem ggX11_listed_J13_bitCount_95d88 : GoodIn wsX11_listed wsJ13_bitCount_95d88 := goodIn_r _ [4, 5, 6, 7] (by decide +kernel) (by decide +kernel)
set_option maxRecDepth 20000 in
theorem gX11_listed_J13_bitCount_95d88 : GoodIn wsX11_listed (va_wsS RX11 151 yJ13_bitCount_95d88 wsJ13_bitCount_95d88) := goodIn_app (goodIn_of _ (by decide +kernel)) ggX11_listed_J13_bitCount_95d88
set_option maxRecDepth 20000 in
theorem ggX11_listed_X11_nth : GoodIn wsX11_listed wsX11_nth := goodIn_r _ [11, 12, 13, 10, 14, 1, 2, 3, 4, 5, 6, 7] (by decide +kernel) (by decide +kernel)
set_option maxRecDepth 20000 in
theorem gX11_listed_X11_nth : GoodIn wsX11_listed (va_wsS RX11 329 yX11_nth wsX11_nth) := goodIn_app (goodIn_of _ (by decide +kernel)) ggX11_listed_X11_nth
set_option maxRecDepth 20000 in
theorem ggX11_criticalOnes_X6_unpaired : GoodIn wsX11_criticalOnes wsX6_unpaired := goodIn_r _ [6, 7, 8, 9, 10, 29, 30, 31, 32, 33, 34] (by decide +kernel) (by decide +kernel)
set_option maxRecDepth 20000 in
theorem gX11_criticalOnes_X6_unpaired : GoodIn wsX11_criticalOnes (wsV RX11 232 RX6 yX6_unpaired wsX6_unpaired) := goodIn_app (goodIn_of _ (by decide +kernel)) ggX11_criticalOnes_X6_unpaired
set_option maxRecDepth 20000 in
theorem ggX11_criticalOnes_J13_bitCount_95d88 : GoodIn wsX11_criticalOnes wsJ13_bitCount_95d88 := goodIn_r _ [14, 15, 16, 17] (by decide +kernel) (by decide +kernel)
set_option maxRecDepth 20000 in
theorem gX11_criticalOnes_J13_bitCount_95d88 : GoodIn wsX11_criticalOnes (va_wsS RX11 151 yJ13_bitCount_95d88 wsJ13_bitCount_95d88) := goodIn_app (goodIn_of _ (by decide +kernel)) ggX11_criticalOnes_J13_bitCount_95d88
set_option maxRecDepth 20000 in
theorem ggX11_basis_X6_unpaired : GoodIn wsX11_basis wsX6_unpaired := goodIn_r _ [7, 8, 9, 10, 11, 23, 24, 25, 26, 27, 28] (by decide +kernel) (by decide +kernel)
set_option maxRecDepth 20000 in
theorem gX11_basis_X6_unpaired : GoodIn wsX11_basis (wsV RX11 232 RX6 yX6_unpaired wsX6_unpaired) := goodIn_app (goodIn_of _ (by decide +kernel)) ggX11_basis_X6_unpaired
set_option maxRecDepth 20000 in
theorem ggX11_isThere_X9_has : GoodIn wsX11_isThere wsX9_has := goodIn_r _ [8, 9, 31, 32, 33, 34, 35, 36, 37] (by decide +kernel) (by decide +kernel)
set_option maxRecDepth 20000 in
theorem gX11_isThere_X9_has : GoodIn wsX11_isThere (wsV RX11 120 RX9 yX9_has wsX9_has) := goodIn_app (goodIn_of _ (by decide +kernel)) ggX11_isThere_X9_has
set_option maxRecDepth 20000 in
theorem ggX11_areEnds_X11_isThere : GoodIn wsX11_areEnds wsX11_isThere := goodIn_r _ [8, 1, 3, 9, 10, 11, 12, 13, 14, 15, 16, 17, 7, 18, 32, 33, 34, 35, 36, 37, 38, 39, 40, 41, 42, 50, 51, 52, 53, 54, 55, 43, 44, 45, 46, 47, 48, 49] (by decide +kernel) (by decide +kernel)
set_option maxRecDepth 20000 in
theorem gX11_areEnds_X11_isThere : GoodIn wsX11_areEnds (wsV RX11 130 RX11 yX11_isThere wsX11_isThere) := goodIn_app (goodIn_of _ (by decide +kernel)) ggX11_areEnds_X11_isThere
