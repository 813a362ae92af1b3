set_option maxRecDepth 20000 in
theorem ggX0_bettiOf_J13_bitCount_95d88 : GoodIn wsX0_bettiOf wsJ13_bitCount_95d88 := goodIn_r _ [6, 7, 8, 9] (by decide +kernel) (by decide +kernel)
set_option maxRecDepth 20000 in
theorem gX0_bettiOf_J13_bitCount_95d88 : GoodIn wsX0_bettiOf (va_wsS RX0 35 yJ13_bitCount_95d88 wsJ13_bitCount_95d88) := goodIn_app (goodIn_of _ (by decide +kernel)) ggX0_bettiOf_J13_bitCount_95d88
set_option maxRecDepth 20000 in
theorem ggX0_bettiOf_X0_rankOf : GoodIn wsX0_bettiOf wsX0_rankOf := goodIn_r _ [14, 1, 2, 15, 16, 17, 18, 13, 19, 20, 21, 22, 3, 4, 5, 6, 7, 8, 9, 23, 24, 25, 26, 27, 28, 29, 30, 31, 32, 33, 34, 35, 36, 37, 38, 39, 40, 41, 42, 43, 44, 45, 46, 47, 48, 49, 50, 51, 52, 53, 54, 55, 56, 57, 58, 59, 60, 61, 62, 63, 64, 65, 66, 67, 68, 69, 70, 71, 72, 73, 74, 75, 76, 77, 78, 79, 80, 81, 82, 83, 84, 85, 86, 87, 88, 89, 90, 91, 92, 93, 94, 95, 96, 97, 98, 99, 100, 101, 102, 103, 104, 105, 106, 107, 108, 109, 110, 111, 112, 113, 114, 115, 116, 117, 118, 119, 120, 121, 122, 123, 124, 125, 126, 127, 128, 129, 130, 131, 132, 133, 134, 135, 136, 137, 138, 139, 140, 141, 142, 143, 144, 145, 146, 147, 148, 149, 150, 151, 152, 153, 154, 155, 156, 157, 158, 159, 160, 161, 162, 163, 164, 165, 166, 167, 168, 169, 170, 171, 172, 173, 174, 175, 176, 177, 178, 179, 180, 181, 182, 183, 184, 185, 186, 187, 188] (by decide +kernel) (by decide +kernel)
set_option maxRecDepth 20000 in
theorem gX0_bettiOf_X0_rankOf : GoodIn wsX0_bettiOf (wsV RX0 41 RX0 yX0_rankOf wsX0_rankOf) := goodIn_app (goodIn_of _ (by decide +kernel)) ggX0_bettiOf_X0_rankOf
set_option maxRecDepth 20000 in
theorem ggX0_torsionsOf_X0_rankOf : GoodIn wsX0_torsionsOf wsX0_rankOf := goodIn_r _ [9, 10, 11, 1, 12, 13, 14, 8, 15, 16, 17, 18, 19, 20, 21, 22, 23, 24, 25, 26, 27, 28, 29, 30, 31, 32, 33, 34, 35, 36, 37, 38, 39, 40, 41, 42, 43, 44, 45, 46, 47, 48, 49, 50, 51, 52, 53, 54, 55, 56, 57, 58, 59, 60, 61, 62, 63, 64, 65, 66, 67, 68, 69, 70, 71, 72, 73, 74, 75, 76, 77, 78, 79, 80, 81, 82, 83, 84, 85, 86, 87, 88, 89, 90, 91, 92, 93, 94, 95, 96, 97, 98, 99, 100, 101, 102, 103, 104, 105, 106, 107, 108, 109, 110, 111, 112, 113, 114, 115, 116, 117, 118, 119, 120, 121, 122, 123, 124, 125, 126, 127, 128, 129, 130, 131, 132, 133, 134, 135, 136, 137, 138, 139, 140, 141, 142, 143, 144, 145, 146, 147, 148, 149, 150, 151, 152, 153, 154, 155, 210, 211, 212, 213, 220, 221, 222, 223, 224, 225, 226, 214, 215, 216, 217, 218, 219, 227, 228, 229, 230, 231, 232, 233, 234, 235, 236, 237, 238, 239, 240, 241, 242, 243, 244, 245] (by decide +kernel) (by decide +kernel)
set_option maxRecDepth 20000 in
theorem gX0_torsionsOf_X0_rankOf : GoodIn wsX0_torsionsOf (wsV RX0 41 RX0 yX0_rankOf wsX0_rankOf) := goodIn_app (goodIn_of _ (by decide +kernel)) ggX0_torsionsOf_X0_rankOf
set_option maxRecDepth 20000 in
theorem ggX0_torsionsOf_X5_diagonalise : GoodIn wsX0_torsionsOf wsX5_diagonalise := goodIn_r _ [159, 31, 32, 160, 161, 162, 163, 129, 164, 165, 166, 167, 29, 168, 139, 169, 170, 171, 172, 173, 174, 175, 176, 177, 178, 179, 180, 181, 182, 183, 184, 144, 145, 146, 147, 185, 186, 187, 188, 189, 190, 191, 192, 193, 194, 195, 196, 197, 198, 199, 200, 201, 202, 203, 204, 205, 206, 207, 208, 209, 214, 215, 216, 217, 218, 219] (by decide +kernel) (by decide +kernel)
set_option maxRecDepth 20000 in
theorem gX0_torsionsOf_X5_diagonalise : GoodIn wsX0_torsionsOf (wsV RX0 49 RX5 yX5_diagonalise wsX5_diagonalise) := goodIn_app (goodIn_of _ (by decide +kernel)) ggX0_torsionsOf_X5_diagonalise
set_option maxRecDepth 20000 in
theorem ggX0_rankOf_X0_fill : GoodIn wsX0_rankOf wsX0_fill := goodIn_r _ [8, 3, 1, 9, 10, 11, 12, 13, 14, 15, 16, 17, 18, 19, 20, 21, 22, 23, 24, 25, 26, 27, 28, 29, 30, 31, 32, 33, 34, 35, 36, 37, 38, 39, 40, 41, 42, 43, 44, 45, 46, 47, 48, 49, 50, 51, 52, 53, 54, 55, 56, 57, 58, 59, 60, 61, 62, 63, 64, 65, 66, 67, 68, 69, 70, 71, 72, 73, 74, 75, 76, 77, 78, 79, 80, 81, 82, 83, 84, 85, 86, 87, 88, 89, 90, 91, 92, 93, 94, 95, 96, 97, 98, 99, 100, 101, 102, 103, 104, 105, 106, 107, 108, 109, 110, 111, 112, 113, 114, 7, 115, 116, 117, 118, 119, 120, 121, 122, 149, 150, 151, 152, 153, 154, 155, 156, 157, 158, 159, 160, 161, 162, 163, 164, 165, 166, 167, 168, 169, 170, 171, 172, 173, 174, 175, 176, 177, 178, 179, 180, 181, 182, 183, 184] (by decide +kernel) (by decide +kernel)
set_option maxRecDepth 20000 in
theorem gX0_rankOf_X0_fill : GoodIn wsX0_rankOf (wsV RX0 55 RX0 yX0_fill wsX0_fill) := goodIn_app (goodIn_of _ (by decide +kernel)) ggX0_rankOf_X0_fill
set_option maxRecDepth 20000 in
theorem ggX0_rankOf_X5_eliminate : GoodIn wsX0_rankOf wsX5_eliminate := goodIn_r _ [126, 122, 127, 24, 25, 128, 129, 130, 131, 132, 133, 134, 135, 22, 136, 137, 138, 139, 140, 141, 142, 143, 144, 145, 146, 147, 148, 160, 161, 162, 163, 164, 165] (by decide +kernel) (by decide +kernel)
set_option maxRecDepth 20000 in
theorem gX0_rankOf_X5_eliminate : GoodIn wsX0_rankOf (wsV RX0 59 RX5 yX5_eliminate wsX5_eliminate) := goodIn_app (goodIn_of _ (by decide +kernel)) ggX0_rankOf_X5_eliminate
set_option maxRecDepth 20000 in
theorem ggX0_fill_J13_bitCount_95d88 : GoodIn wsX0_fill wsJ13_bitCount_95d88 := goodIn_r _ [9, 10, 11, 12] (by decide +kernel) (by decide +kernel)
set_option maxRecDepth 20000 in
theorem gX0_fill_J13_bitCount_95d88 : GoodIn wsX0_fill (va_wsS RX0 35 yJ13_bitCount_95d88 wsJ13_bitCount_95d88) := goodIn_app (goodIn_of _ (by decide +kernel)) ggX0_fill_J13_bitCount_95d88
set_option maxRecDepth 20000 in
theorem ggX0_fill_X5_resize : GoodIn wsX0_fill wsX5_resize := goodIn_r _ [17, 18, 19, 129, 130, 131, 132, 133, 134] (by decide +kernel) (by decide +kernel)
set_option maxRecDepth 20000 in
theorem gX0_fill_X5_resize : GoodIn wsX0_fill (wsV RX0 63 RX5 yX5_resize wsX5_resize) := goodIn_app (goodIn_of _ (by decide +kernel)) ggX0_fill_X5_resize
set_option maxRecDepth 20000 in
theorem ggX0_fill_X11_isIn : GoodIn wsX0_fill wsX11_isIn := goodIn_r _ [22] (by decide +kernel) (by decide +kernel)
set_option maxRecDepth 20000 in
theorem gX0_fill_X11_isIn_n71 : GoodIn wsX0_fill (wsX11_isIn) := ggX0_fill_X11_isIn
set_option maxRecDepth 20000 in
theorem ggX0_fill_X1_start : GoodIn wsX0_fill wsX1_start := goodIn_r _ [27, 28, 29, 30, 31, 32, 33, 34, 35, 36, 37, 38, 39, 40, 41, 42, 43, 44, 45, 46, 47, 48, 49, 50, 51, 52, 20, 21, 22, 53, 54, 55, 56, 57, 58, 59, 60, 61, 62, 63, 64, 65, 135, 136, 137, 138, 139, 140, 141, 142, 143, 144, 145, 146, 147, 148, 149, 150, 151, 152, 153, 122, 123, 124, 125, 126, 127, 128] (by decide +kernel) (by decide +kernel)
set_option maxRecDepth 20000 in
theorem gX0_fill_X1_start : GoodIn wsX0_fill (wsV RX0 75 RX1 yX1_start wsX1_start) := goodIn_app (goodIn_of _ (by decide +kernel)) ggX0_fill_X1_start
set_option maxRecDepth 20000 in
theorem ggX0_fill_X1_pour : GoodIn wsX0_fill wsX1_pour := goodIn_r _ [69, 28, 70, 71, 29, 72, 73, 74, 75, 76, 26, 77, 78, 79, 80, 81, 56, 82, 58, 59, 60, 83, 84, 21, 85, 86, 7, 8, 9, 10, 11, 12, 87, 88, 89, 90, 91, 92, 93, 20, 22, 94, 95, 96, 97, 98, 99, 100, 101, 102, 103, 104, 105, 135, 136, 137, 138, 139, 140, 141, 142, 143, 144, 145, 146, 147, 122, 123, 124, 125, 126, 127, 128, 148, 149, 150, 151, 152, 153] (by decide +kernel) (by decide +kernel)
set_option maxRecDepth 20000 in
theorem gX0_fill_X1_pour : GoodIn wsX0_fill (wsV RX0 85 RX1 yX1_pour wsX1_pour) := goodIn_app (goodIn_of _ (by decide +kernel)) ggX0_fill_X1_pour
set_option maxRecDepth 20000 in
theorem ggX0_fill_X0_fillRow : GoodIn wsX0_fill wsX0_fillRow := goodIn_r _ [110, 2, 3, 1, 4, 111, 20, 21, 22, 112, 88, 89, 90, 91, 92, 93, 94, 95, 96, 97, 98, 99, 100, 113, 114, 115, 16, 116, 18, 19, 117, 118, 119, 120, 121, 122, 123, 124, 125, 126, 127, 128, 135, 136, 137, 138, 139, 140, 141, 129, 130, 131, 132, 133, 134] (by decide +kernel) (by decide +kernel)
set_option maxRecDepth 20000 in
theorem gX0_fill_X0_fillRow : GoodIn wsX0_fill (wsV RX0 89 RX0 yX0_fillRow wsX0_fillRow) := goodIn_app (goodIn_of _ (by decide +kernel)) ggX0_fill_X0_fillRow
set_option maxRecDepth 20000 in
theorem ggX0_fillRow_X11_isIn : GoodIn wsX0_fillRow wsX11_isIn := goodIn_r _ [8] (by decide +kernel) (by decide +kernel)
set_option maxRecDepth 20000 in
theorem gX0_fillRow_X11_isIn_n71 : GoodIn wsX0_fillRow (wsX11_isIn) := ggX0_fillRow_X11_isIn
set_option maxRecDepth 20000 in
theorem ggX0_fillRow_X9_signOf : GoodIn wsX0_fillRow wsX9_signOf := goodIn_r _ [13, 14, 15, 6, 7, 8, 16, 17, 18, 19, 20, 21, 22, 35, 36, 37, 38, 39, 40, 41] (by decide +kernel) (by decide +kernel)
set_option maxRecDepth 20000 in
theorem gX0_fillRow_X9_signOf : GoodIn wsX0_fillRow (wsV RX0 96 RX9 yX9_signOf wsX9_signOf) := goodIn_app (goodIn_of _ (by decide +kernel)) ggX0_fillRow_X9_signOf
set_option maxRecDepth 20000 in
theorem ggX0_fillRow_X5_put : GoodIn wsX0_fillRow wsX5_put := goodIn_r _ [27, 28, 29, 30, 49, 50, 51, 52, 53, 54] (by decide +kernel) (by decide +kernel)
set_option maxRecDepth 20000 in
theorem gX0_fillRow_X5_put : GoodIn wsX0_fillRow (wsV RX0 100 RX5 yX5_put wsX5_put) := goodIn_app (goodIn_of _ (by decide +kernel)) ggX0_fillRow_X5_put
set_option maxRecDepth 20000 in
theorem ggX1_start_X2_measure : GoodIn wsX1_start wsX2_measure := goodIn_r _ [7, 8, 9, 10, 11, 12, 13, 14, 15, 16, 17, 18, 19, 20, 21, 6, 22, 23, 24, 25, 26, 27, 28, 29, 30, 31, 32, 33, 34, 35, 36, 37, 38, 49, 50, 51, 52, 53, 54, 55, 56, 57, 58, 59, 60, 61, 62, 63, 64, 65, 66, 67] (by decide +kernel) (by decide +kernel)
set_option maxRecDepth 20000 in
theorem gX1_start_X2_measure : GoodIn wsX1_start (wsV RX1 34 RX2 yX2_measure wsX2_measure) := goodIn_app (goodIn_of _ (by decide +kernel)) ggX1_start_X2_measure
set_option maxRecDepth 20000 in
theorem ggX1_start_J7_fill_d0a16 : GoodIn wsX1_start wsJ7_fill_d0a16 := goodIn_r _ [41] (by decide +kernel) (by decide +kernel)
set_option maxRecDepth 20000 in
theorem gX1_start_J7_fill_d0a16 : GoodIn wsX1_start (va_wsS RX1 39 yJ7_fill_d0a16 wsJ7_fill_d0a16) := goodIn_app (goodIn_of _ (by decide +kernel)) ggX1_start_J7_fill_d0a16
set_option maxRecDepth 20000 in
theorem ggX1_holdOnly_X11_isIn : GoodIn wsX1_holdOnly wsX11_isIn := goodIn_r _ [4] (by decide +kernel) (by decide +kernel)
set_option maxRecDepth 20000 in
theorem gX1_holdOnly_X11_isIn_n45 : GoodIn wsX1_holdOnly (wsX11_isIn) := ggX1_holdOnly_X11_isIn
set_option maxRecDepth 20000 in
theorem ggX1_pour_X1_goDown : GoodIn wsX1_pour wsX1_goDown := goodIn_r _ [11, 12, 4, 5, 13, 14, 15, 16, 17, 18, 19, 20, 21, 22, 23, 24, 25, 26, 27, 28, 29, 30, 31, 32, 33, 34, 35, 36, 37, 38, 39, 40, 41, 42, 43, 44, 45, 46, 47, 53, 54, 55, 56, 57, 58, 59, 73, 74, 75, 76, 77, 78, 66, 67, 68, 69, 70, 71, 72] (by decide +kernel) (by decide +kernel)
set_option maxRecDepth 20000 in
theorem gX1_pour_X1_goDown : GoodIn wsX1_pour (wsV RX1 61 RX1 yX1_goDown wsX1_goDown) := goodIn_app (goodIn_of _ (by decide +kernel)) ggX1_pour_X1_goDown
set_option maxRecDepth 20000 in
theorem ggX1_pour_X1_goUp : GoodIn wsX1_pour wsX1_goUp := goodIn_r _ [51, 12, 52, 4, 5, 32, 33, 34, 35, 36, 37, 38, 39, 23, 40, 41, 42, 43, 44, 45, 46, 47, 53, 54, 55, 56, 57, 58, 59, 73, 74, 75, 76, 77, 78, 66, 67, 68, 69, 70, 71, 72] (by decide +kernel) (by decide +kernel)
set_option maxRecDepth 20000 in
theorem gX1_pour_X1_goUp : GoodIn wsX1_pour (wsV RX1 65 RX1 yX1_goUp wsX1_goUp) := goodIn_app (goodIn_of _ (by decide +kernel)) ggX1_pour_X1_goUp
set_option maxRecDepth 20000 in
theorem ggX1_goDown_X6_below : GoodIn wsX1_goDown wsX6_below := goodIn_r _ [8, 9, 10, 11, 12, 46, 47, 48, 49, 50, 51, 52, 53, 54, 55, 56, 57, 58] (by decide +kernel) (by decide +kernel)
set_option maxRecDepth 20000 in
theorem gX1_goDown_X6_below : GoodIn wsX1_goDown (wsV RX1 68 RX6 yX6_below wsX6_below) := goodIn_app (goodIn_of _ (by decide +kernel)) ggX1_goDown_X6_below
set_option maxRecDepth 20000 in
theorem ggX1_goDown_X11_lowest : GoodIn wsX1_goDown wsX11_lowest := goodIn_r _ [15, 16, 17, 18, 19, 20, 21, 22] (by decide +kernel) (by decide +kernel)
set_option maxRecDepth 20000 in
theorem gX1_goDown_X11_lowest_n74 : GoodIn wsX1_goDown (wsX11_lowest) := ggX1_goDown_X11_lowest
set_option maxRecDepth 20000 in
theorem ggX1_goDown_X9_signOf : GoodIn wsX1_goDown wsX9_signOf := goodIn_r _ [27, 28, 29, 30, 14, 31, 32, 33, 34, 35, 36, 37, 38, 52, 53, 54, 55, 56, 57, 58] (by decide +kernel) (by decide +kernel)
set_option maxRecDepth 20000 in
theorem gX1_goDown_X9_signOf : GoodIn wsX1_goDown (wsV RX1 78 RX9 yX9_signOf wsX9_signOf) := goodIn_app (goodIn_of _ (by decide +kernel)) ggX1_goDown_X9_signOf
set_option maxRecDepth 20000 in
theorem ggX1_goUp_X9_signOf : GoodIn wsX1_goUp wsX9_signOf := goodIn_r _ [9, 10, 11, 12, 13, 14, 15, 16, 17, 18, 19, 20, 21, 35, 36, 37, 38, 39, 40, 41] (by decide +kernel) (by decide +kernel)
set_option maxRecDepth 20000 in
theorem gX1_goUp_X9_signOf : GoodIn wsX1_goUp (wsV RX1 78 RX9 yX9_signOf wsX9_signOf) := goodIn_app (goodIn_of _ (by decide +kernel)) ggX1_goUp_X9_signOf
set_option maxRecDepth 20000 in
theorem ggX1_countWays_X2_measure : GoodIn wsX1_countWays wsX2_measure := goodIn_r _ [13, 14, 15, 16, 17, 18, 19, 20, 21, 22, 23, 24, 25, 26, 27, 12, 28, 29, 30, 31, 32, 33, 34, 35, 36, 37, 38, 39, 40, 41, 42, 43, 44, 74, 75, 76, 77, 78, 79, 87, 88, 89, 90, 91, 92, 80, 81, 82, 83, 84, 85, 86] (by decide +kernel) (by decide +kernel)
set_option maxRecDepth 20000 in
theorem gX1_countWays_X2_measure : GoodIn wsX1_countWays (wsV RX1 34 RX2 yX2_measure wsX2_measure) := goodIn_app (goodIn_of _ (by decide +kernel)) ggX1_countWays_X2_measure
set_option maxRecDepth 20000 in
theorem ggX1_countWays_J7_fill_d0a16 : GoodIn wsX1_countWays wsJ7_fill_d0a16 := goodIn_r _ [47] (by decide +kernel) (by decide +kernel)
set_option maxRecDepth 20000 in
theorem gX1_countWays_J7_fill_d0a16 : GoodIn wsX1_countWays (va_wsS RX1 39 yJ7_fill_d0a16 wsJ7_fill_d0a16) := goodIn_app (goodIn_of _ (by decide +kernel)) ggX1_countWays_J7_fill_d0a16
set_option maxRecDepth 20000 in
theorem ggX1_countWays_X1_waysDown : GoodIn wsX1_countWays wsX1_waysDown := goodIn_r _ [52, 7, 2, 53, 54, 55, 38, 56, 40, 41, 42, 57, 58, 33, 59, 60, 61, 62, 63, 64, 65, 66, 67, 68, 69, 70, 71, 72, 73, 87, 88, 89, 90, 91, 92, 80, 81, 82, 83, 84, 85, 86] (by decide +kernel) (by decide +kernel)
set_option maxRecDepth 20000 in
theorem gX1_countWays_X1_waysDown : GoodIn wsX1_countWays (wsV RX1 85 RX1 yX1_waysDown wsX1_waysDown) := goodIn_app (goodIn_of _ (by decide +kernel)) ggX1_countWays_X1_waysDown
set_option maxRecDepth 20000 in
theorem ggX1_waysDown_X6_below : GoodIn wsX1_waysDown wsX6_below := goodIn_r _ [7, 8, 9, 10, 11, 29, 30, 31, 32, 33, 34, 35, 36, 37, 38, 39, 40, 41] (by decide +kernel) (by decide +kernel)
set_option maxRecDepth 20000 in
theorem gX1_waysDown_X6_below : GoodIn wsX1_waysDown (wsV RX1 68 RX6 yX6_below wsX6_below) := goodIn_app (goodIn_of _ (by decide +kernel)) ggX1_waysDown_X6_below
set_option maxRecDepth 20000 in
theorem ggX1_waysDown_X11_lowest : GoodIn wsX1_waysDown wsX11_lowest := goodIn_r _ [14, 15, 16, 17, 18, 19, 20, 21] (by decide +kernel) (by decide +kernel)
set_option maxRecDepth 20000 in
theorem gX1_waysDown_X11_lowest_n74 : GoodIn wsX1_waysDown (wsX11_lowest) := ggX1_waysDown_X11_lowest
set_option maxRecDepth 20000 in
theorem ggX1_trace_X1_chosenFace : GoodIn wsX1_trace wsX1_chosenFace := goodIn_r _ [9, 3, 1, 10, 11, 12, 13, 14, 15, 16, 17, 18, 19, 20, 21, 22, 23, 24, 25, 26, 27, 28, 29, 30, 31, 32, 33, 34, 35, 36, 37, 38, 39, 40, 41, 42, 43, 44, 45, 46, 47, 48, 49] (by decide +kernel) (by decide +kernel)
set_option maxRecDepth 20000 in
theorem gX1_trace_X1_chosenFace : GoodIn wsX1_trace (wsV RX1 92 RX1 yX1_chosenFace wsX1_chosenFace) := goodIn_app (goodIn_of _ (by decide +kernel)) ggX1_trace_X1_chosenFace
set_option maxRecDepth 20000 in
theorem ggX1_chosenFace_X6_below : GoodIn wsX1_chosenFace wsX6_below := goodIn_r _ [8, 9, 10, 11, 12, 30, 31, 32, 33, 34, 35, 36, 37, 38, 39, 40, 41, 42] (by decide +kernel) (by decide +kernel)
set_option maxRecDepth 20000 in
theorem gX1_chosenFace_X6_below : GoodIn wsX1_chosenFace (wsV RX1 68 RX6 yX6_below wsX6_below) := goodIn_app (goodIn_of _ (by decide +kernel)) ggX1_chosenFace_X6_below
set_option maxRecDepth 20000 in
theorem ggX1_chosenFace_X11_lowest : GoodIn wsX1_chosenFace wsX11_lowest := goodIn_r _ [15, 16, 17, 18, 19, 20, 21, 22] (by decide +kernel) (by decide +kernel)
set_option maxRecDepth 20000 in
theorem gX1_chosenFace_X11_lowest_n74 : GoodIn wsX1_chosenFace (wsX11_lowest) := ggX1_chosenFace_X11_lowest
set_option maxRecDepth 20000 in
theorem ggX2_of_X2_measure : GoodIn wsX2_of wsX2_measure := goodIn_r _ [6, 7, 8, 9, 1, 10, 11, 12, 13, 14, 15, 16, 17, 18, 19, 5, 20, 21, 22, 23, 24, 25, 26, 27, 28, 29, 30, 31, 32, 33, 34, 35, 36, 37, 38, 39, 40, 41, 42, 43, 44, 45, 46, 47, 48, 49, 50, 51, 52, 53, 54, 55] (by decide +kernel) (by decide +kernel)
set_option maxRecDepth 20000 in
theorem gX2_of_X2_measure : GoodIn wsX2_of (wsV RX2 30 RX2 yX2_measure wsX2_measure) := goodIn_app (goodIn_of _ (by decide +kernel)) ggX2_of_X2_measure
set_option maxRecDepth 20000 in
theorem ggX2_upTo_X2_measure : GoodIn wsX2_upTo wsX2_measure := goodIn_r _ [8, 9, 10, 11, 2, 1, 12, 13, 14, 15, 16, 17, 18, 19, 20, 7, 21, 22, 23, 3, 24, 25, 26, 27, 28, 29, 30, 31, 32, 33, 34, 35, 36, 37, 38, 39, 40, 41, 42, 43, 44, 45, 46, 47, 48, 49, 50, 51, 52, 53, 54, 55] (by decide +kernel) (by decide +kernel)
set_option maxRecDepth 20000 in
theorem gX2_upTo_X2_measure : GoodIn wsX2_upTo (wsV RX2 30 RX2 yX2_measure wsX2_measure) := goodIn_app (goodIn_of _ (by decide +kernel)) ggX2_upTo_X2_measure
set_option maxRecDepth 20000 in
theorem ggX2_upTo_X11_bit : GoodIn wsX2_upTo wsX11_bit := goodIn_r _ [36] (by decide +kernel) (by decide +kernel)
set_option maxRecDepth 20000 in
theorem gX2_upTo_X11_bit_n36 : GoodIn wsX2_upTo (wsX11_bit) := ggX2_upTo_X11_bit
set_option maxRecDepth 20000 in
theorem ggX2_measure_J7_fill_53178 : GoodIn wsX2_measure wsJ7_fill_53178 := goodIn_r _ [11] (by decide +kernel) (by decide +kernel)
set_option maxRecDepth 20000 in
theorem gX2_measure_J7_fill_53178 : GoodIn wsX2_measure (va_wsS RX2 45 yJ7_fill_53178 wsJ7_fill_53178) := goodIn_app (goodIn_of _ (by decide +kernel)) ggX2_measure_J7_fill_53178
set_option maxRecDepth 20000 in
theorem ggX2_measure_X2_give : GoodIn wsX2_measure wsX2_give := goodIn_r _ [16, 17, 18, 5, 2, 4, 19, 20, 21, 22, 23, 24, 25, 26, 27, 28, 29, 30, 31, 32, 33, 34, 35, 36, 37, 38, 45, 46, 47, 48, 49, 50, 51, 39, 40, 41, 42, 43, 44] (by decide +kernel) (by decide +kernel)
set_option maxRecDepth 20000 in
theorem gX2_measure_X2_give : GoodIn wsX2_measure (wsV RX2 55 RX2 yX2_give wsX2_give) := goodIn_app (goodIn_of _ (by decide +kernel)) ggX2_measure_X2_give
set_option maxRecDepth 20000 in
theorem ggX2_give_X11_isIn : GoodIn wsX2_give wsX11_isIn := goodIn_r _ [9] (by decide +kernel) (by decide +kernel)
set_option maxRecDepth 20000 in
theorem gX2_give_X11_isIn_n66 : GoodIn wsX2_give (wsX11_isIn) := ggX2_give_X11_isIn
set_option maxRecDepth 20000 in
theorem ggX2_give_X6_steps : GoodIn wsX2_give wsX6_steps := goodIn_r _ [14, 15, 16, 17, 33, 34, 35, 36, 37, 38, 26, 27, 28, 29, 30, 31, 32] (by decide +kernel) (by decide +kernel)
set_option maxRecDepth 20000 in
theorem gX2_give_X6_steps : GoodIn wsX2_give (wsV RX2 70 RX6 yX6_steps wsX6_steps) := goodIn_app (goodIn_of _ (by decide +kernel)) ggX2_give_X6_steps
set_option maxRecDepth 20000 in
theorem ggX2_give_X11_bit : GoodIn wsX2_give wsX11_bit := goodIn_r _ [19] (by decide +kernel) (by decide +kernel)
set_option maxRecDepth 20000 in
theorem gX2_give_X11_bit_n36 : GoodIn wsX2_give (wsX11_bit) := ggX2_give_X11_bit
set_option maxRecDepth 20000 in
theorem ggX3_restore_X6_takeBack : GoodIn wsX3_restore wsX6_takeBack := goodIn_r _ [9, 10, 11, 12, 8, 13, 14, 15, 16, 17, 18, 19, 20, 21, 22, 23, 24, 25, 26, 27, 28, 29, 34, 35, 36, 37, 38, 39] (by decide +kernel) (by decide +kernel)
set_option maxRecDepth 20000 in
theorem gX3_restore_X6_takeBack : GoodIn wsX3_restore (wsV RX3 47 RX6 yX6_takeBack wsX6_takeBack) := goodIn_app (goodIn_of _ (by decide +kernel)) ggX3_restore_X6_takeBack
set_option maxRecDepth 20000 in
theorem ggX4_store_X11_bit : GoodIn wsX4_store wsX11_bit := goodIn_r _ [10] (by decide +kernel) (by decide +kernel)
set_option maxRecDepth 20000 in
theorem gX4_store_X11_bit_n30 : GoodIn wsX4_store (wsX11_bit) := ggX4_store_X11_bit
set_option maxRecDepth 20000 in
theorem ggX5_eliminate_X5_firstRow : GoodIn wsX5_eliminate wsX5_firstRow := goodIn_r _ [14, 3, 2, 4, 27, 28, 29, 30, 31, 32] (by decide +kernel) (by decide +kernel)
set_option maxRecDepth 20000 in
theorem gX5_eliminate_X5_firstRow : GoodIn wsX5_eliminate (wsV RX5 34 RX5 yX5_firstRow wsX5_firstRow) := goodIn_app (goodIn_of _ (by decide +kernel)) ggX5_eliminate_X5_firstRow
set_option maxRecDepth 20000 in
theorem ggX5_eliminate_X5_swapRows : GoodIn wsX5_eliminate wsX5_swapRows := goodIn_r _ [18, 4, 27, 28, 29, 30, 31, 32] (by decide +kernel) (by decide +kernel)
set_option maxRecDepth 20000 in
theorem gX5_eliminate_X5_swapRows : GoodIn wsX5_eliminate (wsV RX5 38 RX5 yX5_swapRows wsX5_swapRows) := goodIn_app (goodIn_of _ (by decide +kernel)) ggX5_eliminate_X5_swapRows
set_option maxRecDepth 20000 in
theorem ggX5_eliminate_X5_makePositive : GoodIn wsX5_eliminate wsX5_makePositive := goodIn_r _ [22, 2, 4, 27, 28, 29, 30, 31, 32] (by decide +kernel) (by decide +kernel)
set_option maxRecDepth 20000 in
theorem gX5_eliminate_X5_makePositive : GoodIn wsX5_eliminate (wsV RX5 42 RX5 yX5_makePositive wsX5_makePositive) := goodIn_app (goodIn_of _ (by decide +kernel)) ggX5_eliminate_X5_makePositive
set_option maxRecDepth 20000 in
theorem ggX5_eliminate_X5_clearBelow : GoodIn wsX5_eliminate wsX5_clearBelow := goodIn_r _ [26, 2, 4, 3, 27, 28, 29, 30, 31, 32] (by decide +kernel) (by decide +kernel)
set_option maxRecDepth 20000 in
theorem gX5_eliminate_X5_clearBelow : GoodIn wsX5_eliminate (wsV RX5 46 RX5 yX5_clearBelow wsX5_clearBelow) := goodIn_app (goodIn_of _ (by decide +kernel)) ggX5_eliminate_X5_clearBelow
set_option maxRecDepth 20000 in
theorem ggX5_diagonalise_X5_remainder : GoodIn wsX5_diagonalise wsX5_remainder := goodIn_r _ [13, 14, 15, 16, 17, 18, 19, 60, 61, 62, 63, 64, 65] (by decide +kernel) (by decide +kernel)
set_option maxRecDepth 20000 in
theorem gX5_diagonalise_X5_remainder : GoodIn wsX5_diagonalise (wsV RX5 59 RX5 yX5_remainder wsX5_remainder) := goodIn_app (goodIn_of _ (by decide +kernel)) ggX5_diagonalise_X5_remainder
set_option maxRecDepth 20000 in
theorem ggX5_diagonalise_X5_clearCorner : GoodIn wsX5_diagonalise wsX5_clearCorner := goodIn_r _ [23, 2, 14, 7, 24, 25, 26, 12, 27, 1, 28, 29, 5, 30, 31, 32, 33, 34, 35, 36, 37, 38, 39, 40, 41, 42, 43, 44, 45, 15, 46, 47, 18, 48, 9, 10, 11, 13, 16, 17, 19, 49, 50, 51, 52, 53, 54, 55, 60, 61, 62, 63, 64, 65] (by decide +kernel) (by decide +kernel)
set_option maxRecDepth 20000 in
theorem gX5_diagonalise_X5_clearCorner : GoodIn wsX5_diagonalise (wsV RX5 63 RX5 yX5_clearCorner wsX5_clearCorner) := goodIn_app (goodIn_of _ (by decide +kernel)) ggX5_diagonalise_X5_clearCorner
set_option maxRecDepth 20000 in
theorem ggX5_diagonalise_X5_makeDivide : GoodIn wsX5_diagonalise wsX5_makeDivide := goodIn_r _ [59, 8, 53, 54, 12, 55, 28, 29, 5, 30, 60, 61, 62, 63, 64, 65] (by decide +kernel) (by decide +kernel)
set_option maxRecDepth 20000 in
theorem gX5_diagonalise_X5_makeDivide : GoodIn wsX5_diagonalise (wsV RX5 67 RX5 yX5_makeDivide wsX5_makeDivide) := goodIn_app (goodIn_of _ (by decide +kernel)) ggX5_diagonalise_X5_makeDivide
set_option maxRecDepth 20000 in
theorem ggX5_makeDivide_X5_gcd : GoodIn wsX5_makeDivide wsX5_gcd := goodIn_r _ [5, 6, 7, 8, 9] (by decide +kernel) (by decide +kernel)
set_option maxRecDepth 20000 in
theorem gX5_makeDivide_X5_gcd : GoodIn wsX5_makeDivide (va_wsS RX5 70 yX5_gcd wsX5_gcd) := goodIn_app (goodIn_of _ (by decide +kernel)) ggX5_makeDivide_X5_gcd
set_option maxRecDepth 20000 in
theorem ggX5_clearCorner_X5_leastCell : GoodIn wsX5_clearCorner wsX5_leastCell := goodIn_r _ [8, 9, 1, 3, 10, 11, 12, 13, 48, 49, 50, 51, 52, 53] (by decide +kernel) (by decide +kernel)
set_option maxRecDepth 20000 in
theorem gX5_clearCorner_X5_leastCell : GoodIn wsX5_clearCorner (wsV RX5 74 RX5 yX5_leastCell wsX5_leastCell) := goodIn_app (goodIn_of _ (by decide +kernel)) ggX5_clearCorner_X5_leastCell
set_option maxRecDepth 20000 in
theorem ggX5_clearCorner_X5_swapRows : GoodIn wsX5_clearCorner wsX5_swapRows := goodIn_r _ [17, 1, 48, 49, 50, 51, 52, 53] (by decide +kernel) (by decide +kernel)
set_option maxRecDepth 20000 in
theorem gX5_clearCorner_X5_swapRows : GoodIn wsX5_clearCorner (wsV RX5 38 RX5 yX5_swapRows wsX5_swapRows) := goodIn_app (goodIn_of _ (by decide +kernel)) ggX5_clearCorner_X5_swapRows
set_option maxRecDepth 20000 in
theorem ggX5_clearCorner_X5_swapColumns : GoodIn wsX5_clearCorner wsX5_swapColumns := goodIn_r _ [21, 9, 3, 1, 48, 49, 50, 51, 52, 53] (by decide +kernel) (by decide +kernel)
set_option maxRecDepth 20000 in
theorem gX5_clearCorner_X5_swapColumns : GoodIn wsX5_clearCorner (wsV RX5 78 RX5 yX5_swapColumns wsX5_swapColumns) := goodIn_app (goodIn_of _ (by decide +kernel)) ggX5_clearCorner_X5_swapColumns
set_option maxRecDepth 20000 in
theorem ggX5_clearCorner_X5_reduceRows : GoodIn wsX5_clearCorner wsX5_reduceRows := goodIn_r _ [25, 9, 3, 1, 26, 27, 7, 28, 10, 11, 12, 13, 29, 30, 31, 32, 33, 34, 35, 36, 37, 2, 38, 39, 40, 48, 49, 50, 51, 52, 53] (by decide +kernel) (by decide +kernel)
set_option maxRecDepth 20000 in
theorem gX5_clearCorner_X5_reduceRows : GoodIn wsX5_clearCorner (wsV RX5 81 RX5 yX5_reduceRows wsX5_reduceRows) := goodIn_app (goodIn_of _ (by decide +kernel)) ggX5_clearCorner_X5_reduceRows
set_option maxRecDepth 20000 in
theorem ggX5_clearCorner_X5_reduceColumns : GoodIn wsX5_clearCorner wsX5_reduceColumns := goodIn_r _ [44, 1, 3, 9, 26, 27, 7, 28, 10, 11, 12, 13, 29, 30, 31, 32, 33, 34, 35, 36, 37, 2, 38, 39, 40, 48, 49, 50, 51, 52, 53] (by decide +kernel) (by decide +kernel)
set_option maxRecDepth 20000 in
theorem gX5_clearCorner_X5_reduceColumns : GoodIn wsX5_clearCorner (wsV RX5 85 RX5 yX5_reduceColumns wsX5_reduceColumns) := goodIn_app (goodIn_of _ (by decide +kernel)) ggX5_clearCorner_X5_reduceColumns
set_option maxRecDepth 20000 in
theorem ggX5_clearCorner_X5_gcd : GoodIn wsX5_clearCorner wsX5_gcd := goodIn_r _ [47, 10, 11, 12, 13] (by decide +kernel) (by decide +kernel)
set_option maxRecDepth 20000 in
theorem gX5_clearCorner_X5_gcd : GoodIn wsX5_clearCorner (va_wsS RX5 70 yX5_gcd wsX5_gcd) := goodIn_app (goodIn_of _ (by decide +kernel)) ggX5_clearCorner_X5_gcd
set_option maxRecDepth 20000 in
theorem ggX5_reduceRows_X5_nearest : GoodIn wsX5_reduceRows wsX5_nearest := goodIn_r _ [7, 8, 9, 10, 11, 12, 13, 14, 15, 16] (by decide +kernel) (by decide +kernel)
set_option maxRecDepth 20000 in
theorem gX5_reduceRows_X5_nearest : GoodIn wsX5_reduceRows (va_wsS RX5 91 yX5_nearest wsX5_nearest) := goodIn_app (goodIn_of _ (by decide +kernel)) ggX5_reduceRows_X5_nearest
set_option maxRecDepth 20000 in
theorem ggX5_reduceRows_X5_remainder : GoodIn wsX5_reduceRows wsX5_remainder := goodIn_r _ [20, 21, 12, 22, 23, 15, 24, 25, 26, 27, 28, 29, 30] (by decide +kernel) (by decide +kernel)
set_option maxRecDepth 20000 in
theorem gX5_reduceRows_X5_remainder : GoodIn wsX5_reduceRows (wsV RX5 59 RX5 yX5_remainder wsX5_remainder) := goodIn_app (goodIn_of _ (by decide +kernel)) ggX5_reduceRows_X5_remainder
set_option maxRecDepth 20000 in
theorem ggX5_reduceColumns_X5_nearest : GoodIn wsX5_reduceColumns wsX5_nearest := goodIn_r _ [7, 8, 9, 10, 11, 12, 13, 14, 15, 16] (by decide +kernel) (by decide +kernel)
set_option maxRecDepth 20000 in
theorem gX5_reduceColumns_X5_nearest : GoodIn wsX5_reduceColumns (va_wsS RX5 91 yX5_nearest wsX5_nearest) := goodIn_app (goodIn_of _ (by decide +kernel)) ggX5_reduceColumns_X5_nearest
set_option maxRecDepth 20000 in
theorem ggX5_reduceColumns_X5_remainder : GoodIn wsX5_reduceColumns wsX5_remainder := goodIn_r _ [20, 21, 12, 22, 23, 15, 24, 25, 26, 27, 28, 29, 30] (by decide +kernel) (by decide +kernel)
set_option maxRecDepth 20000 in
theorem gX5_reduceColumns_X5_remainder : GoodIn wsX5_reduceColumns (wsV RX5 59 RX5 yX5_remainder wsX5_remainder) := goodIn_app (goodIn_of _ (by decide +kernel)) ggX5_reduceColumns_X5_remainder
set_option maxRecDepth 20000 in
theorem ggX5_remainder_J9_floorMod_f86c9 : GoodIn wsX5_remainder wsJ9_floorMod_f86c9 := goodIn_r _ [6] (by decide +kernel) (by decide +kernel)
set_option maxRecDepth 20000 in
theorem gX5_remainder_J9_floorMod_f86c9 : GoodIn wsX5_remainder (va_wsS RX5 94 yJ9_floorMod_f86c9 wsJ9_floorMod_f86c9) := goodIn_app (goodIn_of _ (by decide +kernel)) ggX5_remainder_J9_floorMod_f86c9
set_option maxRecDepth 20000 in
theorem ggX5_nearest_J9_floorDiv_f86c9 : GoodIn wsX5_nearest wsJ9_floorDiv_f86c9 := goodIn_r _ [9] (by decide +kernel) (by decide +kernel)
set_option maxRecDepth 20000 in
theorem gX5_nearest_J9_floorDiv_f86c9 : GoodIn wsX5_nearest (va_wsS RX5 99 yJ9_floorDiv_f86c9 wsJ9_floorDiv_f86c9) := goodIn_app (goodIn_of _ (by decide +kernel)) ggX5_nearest_J9_floorDiv_f86c9
set_option maxRecDepth 20000 in
theorem ggX6_restart_J7_fill_53178 : GoodIn wsX6_restart wsJ7_fill_53178 := goodIn_r _ [9] (by decide +kernel) (by decide +kernel)
set_option maxRecDepth 20000 in
theorem gX6_restart_J7_fill_53178 : GoodIn wsX6_restart (va_wsS RX6 19 yJ7_fill_53178 wsJ7_fill_53178) := goodIn_app (goodIn_of _ (by decide +kernel)) ggX6_restart_J7_fill_53178
set_option maxRecDepth 20000 in
theorem ggX6_unite_X11_bit : GoodIn wsX6_unite wsX11_bit := goodIn_r _ [7] (by decide +kernel) (by decide +kernel)
set_option maxRecDepth 20000 in
theorem gX6_unite_X11_bit_n39 : GoodIn wsX6_unite (wsX11_bit) := ggX6_unite_X11_bit
set_option maxRecDepth 20000 in
theorem ggX6_divide_X11_bit : GoodIn wsX6_divide wsX11_bit := goodIn_r _ [8] (by decide +kernel) (by decide +kernel)
set_option maxRecDepth 20000 in
theorem gX6_divide_X11_bit_n39 : GoodIn wsX6_divide (wsX11_bit) := ggX6_divide_X11_bit
set_option maxRecDepth 20000 in
theorem ggX6_drop_X6_divide : GoodIn wsX6_drop wsX6_divide := goodIn_r _ [8, 9, 2, 10, 11, 3, 12, 13, 14, 15, 16, 17, 18, 19, 20] (by decide +kernel) (by decide +kernel)
set_option maxRecDepth 20000 in
theorem gX6_drop_X6_divide : GoodIn wsX6_drop (wsV RX6 45 RX6 yX6_divide wsX6_divide) := goodIn_app (goodIn_of _ (by decide +kernel)) ggX6_drop_X6_divide
set_option maxRecDepth 20000 in
theorem ggX6_drop_X11_bit : GoodIn wsX6_drop wsX11_bit := goodIn_r _ [14] (by decide +kernel) (by decide +kernel)
set_option maxRecDepth 20000 in
theorem gX6_drop_X11_bit_n39 : GoodIn wsX6_drop (wsX11_bit) := ggX6_drop_X11_bit
set_option maxRecDepth 20000 in
theorem ggX6_takeBack_X6_restart : GoodIn wsX6_takeBack wsX6_restart := goodIn_r _ [5, 6, 7, 8, 9, 10, 11, 12, 13, 14, 22, 23, 24, 25, 26, 27] (by decide +kernel) (by decide +kernel)
set_option maxRecDepth 20000 in
theorem gX6_takeBack_X6_restart : GoodIn wsX6_takeBack (wsV RX6 49 RX6 yX6_restart wsX6_restart) := goodIn_app (goodIn_of _ (by decide +kernel)) ggX6_takeBack_X6_restart
set_option maxRecDepth 20000 in
theorem ggX6_takeBack_X6_unite : GoodIn wsX6_takeBack wsX6_unite := goodIn_r _ [18, 6, 8, 9, 10, 19, 20, 21, 22, 23, 24, 25, 26, 27] (by decide +kernel) (by decide +kernel)
set_option maxRecDepth 20000 in
theorem gX6_takeBack_X6_unite : GoodIn wsX6_takeBack (wsV RX6 53 RX6 yX6_unite wsX6_unite) := goodIn_app (goodIn_of _ (by decide +kernel)) ggX6_takeBack_X6_unite
set_option maxRecDepth 20000 in
theorem ggX6_isCritical_X6_unpaired : GoodIn wsX6_isCritical wsX6_unpaired := goodIn_r _ [5, 6, 7, 8, 9, 13, 14, 15, 16, 17, 18] (by decide +kernel) (by decide +kernel)
set_option maxRecDepth 20000 in
theorem gX6_isCritical_X6_unpaired : GoodIn wsX6_isCritical (wsV RX6 57 RX6 yX6_unpaired wsX6_unpaired) := goodIn_app (goodIn_of _ (by decide +kernel)) ggX6_isCritical_X6_unpaired
set_option maxRecDepth 20000 in
theorem ggX6_isCritical_X11_isIn : GoodIn wsX6_isCritical wsX11_isIn := goodIn_r _ [12] (by decide +kernel) (by decide +kernel)
set_option maxRecDepth 20000 in
theorem gX6_isCritical_X11_isIn_n61 : GoodIn wsX6_isCritical (wsX11_isIn) := ggX6_isCritical_X11_isIn
set_option maxRecDepth 20000 in
theorem ggX6_howMany_J13_bitCount_95d88 : GoodIn wsX6_howMany wsJ13_bitCount_95d88 := goodIn_r _ [5, 6, 7, 8] (by decide +kernel) (by decide +kernel)
set_option maxRecDepth 20000 in
theorem gX6_howMany_J13_bitCount_95d88 : GoodIn wsX6_howMany (va_wsS RX6 65 yJ13_bitCount_95d88 wsJ13_bitCount_95d88) := goodIn_app (goodIn_of _ (by decide +kernel)) ggX6_howMany_J13_bitCount_95d88
set_option maxRecDepth 20000 in
theorem ggX6_side_X11_isIn : GoodIn wsX6_side wsX11_isIn := goodIn_r _ [5] (by decide +kernel) (by decide +kernel)
set_option maxRecDepth 20000 in
theorem gX6_side_X11_isIn_n61 : GoodIn wsX6_side (wsX11_isIn) := ggX6_side_X11_isIn
set_option maxRecDepth 20000 in
theorem ggX6_staysAcyclic_X11_bit : GoodIn wsX6_staysAcyclic wsX11_bit := goodIn_r _ [8] (by decide +kernel) (by decide +kernel)
set_option maxRecDepth 20000 in
theorem gX6_staysAcyclic_X11_bit_n39 : GoodIn wsX6_staysAcyclic (wsX11_bit) := ggX6_staysAcyclic_X11_bit
set_option maxRecDepth 20000 in
theorem ggX6_staysAcyclic_X11_lowest : GoodIn wsX6_staysAcyclic wsX11_lowest := goodIn_r _ [10, 11, 12, 13, 14, 15, 16, 17] (by decide +kernel) (by decide +kernel)
set_option maxRecDepth 20000 in
theorem gX6_staysAcyclic_X11_lowest_n77 : GoodIn wsX6_staysAcyclic (wsX11_lowest) := ggX6_staysAcyclic_X11_lowest
set_option maxRecDepth 20000 in
theorem ggX6_staysAcyclic_X11_isIn : GoodIn wsX6_staysAcyclic wsX11_isIn := goodIn_r _ [19] (by decide +kernel) (by decide +kernel)
set_option maxRecDepth 20000 in
theorem gX6_staysAcyclic_X11_isIn_n61 : GoodIn wsX6_staysAcyclic (wsX11_isIn) := ggX6_staysAcyclic_X11_isIn
set_option maxRecDepth 20000 in
theorem ggX7_begin_X7_lookAgain : GoodIn wsX7_begin wsX7_lookAgain := goodIn_r _ [7, 8, 9, 1, 2, 10, 11, 12, 13, 14, 15, 16, 17, 18, 19, 20, 21, 22, 23, 24, 25, 26, 27, 28, 29, 30, 31, 32, 33] (by decide +kernel) (by decide +kernel)
set_option maxRecDepth 20000 in
theorem gX7_begin_X7_lookAgain : GoodIn wsX7_begin (wsV RX7 22 RX7 yX7_lookAgain wsX7_lookAgain) := goodIn_app (goodIn_of _ (by decide +kernel)) ggX7_begin_X7_lookAgain
set_option maxRecDepth 20000 in
theorem ggX7_close_X11_bit : GoodIn wsX7_close wsX11_bit := goodIn_r _ [8] (by decide +kernel) (by decide +kernel)
set_option maxRecDepth 20000 in
theorem gX7_close_X11_bit_n26 : GoodIn wsX7_close (wsX11_bit) := ggX7_close_X11_bit
set_option maxRecDepth 20000 in
theorem ggX7_close_X7_lookAgain : GoodIn wsX7_close wsX7_lookAgain := goodIn_r _ [13, 4, 14, 1, 3, 2, 15, 7, 16, 17, 18, 19, 20, 21, 22, 23, 24, 6, 8, 25, 26, 27, 28, 29, 30, 31, 32, 33, 34] (by decide +kernel) (by decide +kernel)
set_option maxRecDepth 20000 in
theorem gX7_close_X7_lookAgain : GoodIn wsX7_close (wsV RX7 22 RX7 yX7_lookAgain wsX7_lookAgain) := goodIn_app (goodIn_of _ (by decide +kernel)) ggX7_close_X7_lookAgain
set_option maxRecDepth 20000 in
theorem ggX7_above_X11_lowest : GoodIn wsX7_above wsX11_lowest := goodIn_r _ [6, 7, 8, 9, 10, 11, 12, 13] (by decide +kernel) (by decide +kernel)
set_option maxRecDepth 20000 in
theorem gX7_above_X11_lowest_n41 : GoodIn wsX7_above (wsX11_lowest) := ggX7_above_X11_lowest
set_option maxRecDepth 20000 in
theorem ggX7_greatest_X9_greatestDim : GoodIn wsX7_greatest wsX9_greatestDim := goodIn_r _ [8, 9, 16, 17, 18, 19, 20, 21, 22] (by decide +kernel) (by decide +kernel)
set_option maxRecDepth 20000 in
theorem gX7_greatest_X9_greatestDim : GoodIn wsX7_greatest (wsV RX7 45 RX9 yX9_greatestDim wsX9_greatestDim) := goodIn_app (goodIn_of _ (by decide +kernel)) ggX7_greatest_X9_greatestDim
set_option maxRecDepth 20000 in
theorem ggX7_greatest_X11_isDim : GoodIn wsX7_greatest wsX11_isDim := goodIn_r _ [12] (by decide +kernel) (by decide +kernel)
set_option maxRecDepth 20000 in
theorem gX7_greatest_X11_isDim_n48 : GoodIn wsX7_greatest (wsX11_isDim) := ggX7_greatest_X11_isDim
set_option maxRecDepth 20000 in
theorem ggX7_lookAgain_X11_lowest : GoodIn wsX7_lookAgain wsX11_lowest := goodIn_r _ [8, 9, 10, 11, 12, 13, 14, 15] (by decide +kernel) (by decide +kernel)
set_option maxRecDepth 20000 in
theorem gX7_lookAgain_X11_lowest_n41 : GoodIn wsX7_lookAgain (wsX11_lowest) := ggX7_lookAgain_X11_lowest
set_option maxRecDepth 20000 in
theorem ggX7_lookAgain_J13_bitCount_95d88 : GoodIn wsX7_lookAgain wsJ13_bitCount_95d88 := goodIn_r _ [12, 13, 14, 15] (by decide +kernel) (by decide +kernel)
set_option maxRecDepth 20000 in
theorem gX7_lookAgain_J13_bitCount_95d88 : GoodIn wsX7_lookAgain (va_wsS RX7 55 yJ13_bitCount_95d88 wsJ13_bitCount_95d88) := goodIn_app (goodIn_of _ (by decide +kernel)) ggX7_lookAgain_J13_bitCount_95d88
set_option maxRecDepth 20000 in
theorem ggX7_lookAgain_X11_bit : GoodIn wsX7_lookAgain wsX11_bit := goodIn_r _ [18] (by decide +kernel) (by decide +kernel)
set_option maxRecDepth 20000 in
theorem gX7_lookAgain_X11_bit_n26 : GoodIn wsX7_lookAgain (wsX11_bit) := ggX7_lookAgain_X11_bit
set_option maxRecDepth 20000 in
theorem ggX8_read_J7_fill_53178 : GoodIn wsX8_read wsJ7_fill_53178 := goodIn_r _ [8] (by decide +kernel) (by decide +kernel)
set_option maxRecDepth 20000 in
theorem gX8_read_J7_fill_53178 : GoodIn wsX8_read (va_wsS RX8 15 yJ7_fill_53178 wsJ7_fill_53178) := goodIn_app (goodIn_of _ (by decide +kernel)) ggX8_read_J7_fill_53178
set_option maxRecDepth 20000 in
theorem ggX8_read_X8_skipBlanks : GoodIn wsX8_read wsX8_skipBlanks := goodIn_r _ [13, 3, 4, 14, 15, 16, 17, 18, 19, 20, 42, 43, 44, 45, 46] (by decide +kernel) (by decide +kernel)
set_option maxRecDepth 20000 in
theorem gX8_read_X8_skipBlanks : GoodIn wsX8_read (wsV RX8 28 RX8 yX8_skipBlanks wsX8_skipBlanks) := goodIn_app (goodIn_of _ (by decide +kernel)) ggX8_read_X8_skipBlanks
set_option maxRecDepth 20000 in
theorem ggX8_read_X8_readFacet : GoodIn wsX8_read wsX8_readFacet := goodIn_r _ [24, 3, 4, 2, 14, 15, 16, 17, 18, 19, 20, 25, 26, 12, 27, 28, 29, 30, 31, 32, 33, 34, 35, 36, 37, 38, 39, 40, 41, 1, 42, 43, 44, 45, 46] (by decide +kernel) (by decide +kernel)
set_option maxRecDepth 20000 in
theorem gX8_read_X8_readFacet : GoodIn wsX8_read (wsV RX8 32 RX8 yX8_readFacet wsX8_readFacet) := goodIn_app (goodIn_of _ (by decide +kernel)) ggX8_read_X8_readFacet
set_option maxRecDepth 20000 in
theorem ggX8_read_X10_at : GoodIn wsX8_read wsX10_at := goodIn_r _ [18, 19, 20, 45, 46] (by decide +kernel) (by decide +kernel)
set_option maxRecDepth 20000 in
theorem gX8_read_X10_at : GoodIn wsX8_read (wsV RX8 41 RX10 yX10_at wsX10_at) := goodIn_app (goodIn_of _ (by decide +kernel)) ggX8_read_X10_at
set_option maxRecDepth 20000 in
theorem ggX8_read_X8_fault : GoodIn wsX8_read wsX8_fault := goodIn_r _ [30] (by decide +kernel) (by decide +kernel)
set_option maxRecDepth 20000 in
theorem gX8_read_X8_fault : GoodIn wsX8_read (va_wsS RX8 45 yX8_fault wsX8_fault) := goodIn_app (goodIn_of _ (by decide +kernel)) ggX8_read_X8_fault
set_option maxRecDepth 20000 in
theorem ggX8_readFacet_X10_at : GoodIn wsX8_readFacet wsX10_at := goodIn_r _ [8, 9, 10, 33, 34] (by decide +kernel) (by decide +kernel)
set_option maxRecDepth 20000 in
theorem gX8_readFacet_X10_at : GoodIn wsX8_readFacet (wsV RX8 41 RX10 yX10_at wsX10_at) := goodIn_app (goodIn_of _ (by decide +kernel)) ggX8_readFacet_X10_at
set_option maxRecDepth 20000 in
theorem ggX8_readFacet_X8_isLetter : GoodIn wsX8_readFacet wsX8_isLetter := goodIn_r _ [14] (by decide +kernel) (by decide +kernel)
set_option maxRecDepth 20000 in
theorem gX8_readFacet_X8_isLetter : GoodIn wsX8_readFacet (va_wsS RX8 49 yX8_isLetter wsX8_isLetter) := goodIn_app (goodIn_of _ (by decide +kernel)) ggX8_readFacet_X8_isLetter
set_option maxRecDepth 20000 in
theorem ggX8_readFacet_X8_fault : GoodIn wsX8_readFacet wsX8_fault := goodIn_r _ [17] (by decide +kernel) (by decide +kernel)
set_option maxRecDepth 20000 in
theorem gX8_readFacet_X8_fault : GoodIn wsX8_readFacet (va_wsS RX8 45 yX8_fault wsX8_fault) := goodIn_app (goodIn_of _ (by decide +kernel)) ggX8_readFacet_X8_fault
set_option maxRecDepth 20000 in
theorem ggX8_readFacet_J6_bitCount_0f7a4 : GoodIn wsX8_readFacet wsJ6_bitCount_0f7a4 := goodIn_r _ [21, 22, 23, 24] (by decide +kernel) (by decide +kernel)
set_option maxRecDepth 20000 in
theorem gX8_readFacet_J6_bitCount_0f7a4 : GoodIn wsX8_readFacet (va_wsS RX8 53 yJ6_bitCount_0f7a4 wsJ6_bitCount_0f7a4) := goodIn_app (goodIn_of _ (by decide +kernel)) ggX8_readFacet_J6_bitCount_0f7a4
set_option maxRecDepth 20000 in
theorem ggX8_readFacet_X8_tell : GoodIn wsX8_readFacet wsX8_tell := goodIn_r _ [28, 29, 3, 30, 31, 32] (by decide +kernel) (by decide +kernel)
set_option maxRecDepth 20000 in
theorem gX8_readFacet_X8_tell : GoodIn wsX8_readFacet (wsV RX8 58 RX8 yX8_tell wsX8_tell) := goodIn_app (goodIn_of _ (by decide +kernel)) ggX8_readFacet_X8_tell
set_option maxRecDepth 20000 in
theorem ggX8_skipBlanks_X10_at : GoodIn wsX8_skipBlanks wsX10_at := goodIn_r _ [7, 8, 9, 13, 14] (by decide +kernel) (by decide +kernel)
set_option maxRecDepth 20000 in
theorem gX8_skipBlanks_X10_at : GoodIn wsX8_skipBlanks (wsV RX8 41 RX10 yX10_at wsX10_at) := goodIn_app (goodIn_of _ (by decide +kernel)) ggX8_skipBlanks_X10_at
set_option maxRecDepth 20000 in
theorem ggX9_all_X11_bit : GoodIn wsX9_all wsX11_bit := goodIn_r _ [4] (by decide +kernel) (by decide +kernel)
set_option maxRecDepth 20000 in
theorem gX9_all_X11_bit_n41 : GoodIn wsX9_all (wsX11_bit) := ggX9_all_X11_bit
set_option maxRecDepth 20000 in
theorem ggX9_build_J7_fill_53178 : GoodIn wsX9_build wsJ7_fill_53178 := goodIn_r _ [9] (by decide +kernel) (by decide +kernel)
set_option maxRecDepth 20000 in
theorem gX9_build_J7_fill_53178 : GoodIn wsX9_build (va_wsS RX9 31 yJ7_fill_53178 wsJ7_fill_53178) := goodIn_app (goodIn_of _ (by decide +kernel)) ggX9_build_J7_fill_53178
set_option maxRecDepth 20000 in
theorem ggX9_build_J7_fill_d0a16 : GoodIn wsX9_build wsJ7_fill_d0a16 := goodIn_r _ [12] (by decide +kernel) (by decide +kernel)
set_option maxRecDepth 20000 in
theorem gX9_build_J7_fill_d0a16 : GoodIn wsX9_build (va_wsS RX9 45 yJ7_fill_d0a16 wsJ7_fill_d0a16) := goodIn_app (goodIn_of _ (by decide +kernel)) ggX9_build_J7_fill_d0a16
set_option maxRecDepth 20000 in
theorem ggX9_build_J6_bitCount_0f7a4 : GoodIn wsX9_build wsJ6_bitCount_0f7a4 := goodIn_r _ [16, 17, 18, 19] (by decide +kernel) (by decide +kernel)
set_option maxRecDepth 20000 in
theorem gX9_build_J6_bitCount_0f7a4 : GoodIn wsX9_build (va_wsS RX9 48 yJ6_bitCount_0f7a4 wsJ6_bitCount_0f7a4) := goodIn_app (goodIn_of _ (by decide +kernel)) ggX9_build_J6_bitCount_0f7a4
set_option maxRecDepth 20000 in
theorem ggX9_build_X9_add : GoodIn wsX9_build wsX9_add := goodIn_r _ [24, 25, 1, 26, 2, 5, 3, 4, 27, 28, 29, 30, 31, 32, 33, 34, 35, 36] (by decide +kernel) (by decide +kernel)
set_option maxRecDepth 20000 in
theorem gX9_build_X9_add : GoodIn wsX9_build (wsV RX9 54 RX9 yX9_add wsX9_add) := goodIn_app (goodIn_of _ (by decide +kernel)) ggX9_build_X9_add
set_option maxRecDepth 20000 in
theorem ggX9_add_X11_bit : GoodIn wsX9_add wsX11_bit := goodIn_r _ [10] (by decide +kernel) (by decide +kernel)
set_option maxRecDepth 20000 in
theorem gX9_add_X11_bit_n41 : GoodIn wsX9_add (wsX11_bit) := ggX9_add_X11_bit
set_option maxRecDepth 20000 in
theorem ggX9_signOf_X11_isIn : GoodIn wsX9_signOf wsX11_isIn := goodIn_r _ [5] (by decide +kernel) (by decide +kernel)
set_option maxRecDepth 20000 in
theorem gX9_signOf_X11_isIn_n58 : GoodIn wsX9_signOf (wsX11_isIn) := ggX9_signOf_X11_isIn
set_option maxRecDepth 20000 in
theorem ggX9_signOf_J6_bitCount_0f7a4 : GoodIn wsX9_signOf wsJ6_bitCount_0f7a4 := goodIn_r _ [9, 10, 11, 12] (by decide +kernel) (by decide +kernel)
set_option maxRecDepth 20000 in
theorem gX9_signOf_J6_bitCount_0f7a4 : GoodIn wsX9_signOf (va_wsS RX9 48 yJ6_bitCount_0f7a4 wsJ6_bitCount_0f7a4) := goodIn_app (goodIn_of _ (by decide +kernel)) ggX9_signOf_J6_bitCount_0f7a4
set_option maxRecDepth 20000 in
theorem ggX9_eulerOf_J13_bitCount_95d88 : GoodIn wsX9_eulerOf wsJ13_bitCount_95d88 := goodIn_r _ [5, 6, 7, 8] (by decide +kernel) (by decide +kernel)
set_option maxRecDepth 20000 in
theorem gX9_eulerOf_J13_bitCount_95d88 : GoodIn wsX9_eulerOf (va_wsS RX9 62 yJ13_bitCount_95d88 wsJ13_bitCount_95d88) := goodIn_app (goodIn_of _ (by decide +kernel)) ggX9_eulerOf_J13_bitCount_95d88
set_option maxRecDepth 20000 in
theorem ggX9_withFaces_X11_isIn : GoodIn wsX9_withFaces wsX11_isIn := goodIn_r _ [5] (by decide +kernel) (by decide +kernel)
set_option maxRecDepth 20000 in
theorem gX9_withFaces_X11_isIn_n58 : GoodIn wsX9_withFaces (wsX11_isIn) := ggX9_withFaces_X11_isIn
set_option maxRecDepth 20000 in
theorem ggX9_partsOf_X11_lowest : GoodIn wsX9_partsOf wsX11_lowest := goodIn_r _ [4, 5, 6, 7, 8, 9, 10, 11] (by decide +kernel) (by decide +kernel)
set_option maxRecDepth 20000 in
theorem gX9_partsOf_X11_lowest_n67 : GoodIn wsX9_partsOf (wsX11_lowest) := ggX9_partsOf_X11_lowest
set_option maxRecDepth 20000 in
theorem ggX9_partsOf_X9_hangingWith : GoodIn wsX9_partsOf wsX9_hangingWith := goodIn_r _ [16, 17, 18, 1, 19, 3, 20, 2, 4, 5, 6, 7, 8, 9, 10, 11, 21, 22, 23, 24, 25, 26, 27] (by decide +kernel) (by decide +kernel)
set_option maxRecDepth 20000 in
theorem gX9_partsOf_X9_hangingWith : GoodIn wsX9_partsOf (wsV RX9 70 RX9 yX9_hangingWith wsX9_hangingWith) := goodIn_app (goodIn_of _ (by decide +kernel)) ggX9_partsOf_X9_hangingWith
set_option maxRecDepth 20000 in
theorem ggX9_hangingWith_X11_bit : GoodIn wsX9_hangingWith wsX11_bit := goodIn_r _ [6] (by decide +kernel) (by decide +kernel)
set_option maxRecDepth 20000 in
theorem gX9_hangingWith_X11_bit_n41 : GoodIn wsX9_hangingWith (wsX11_bit) := ggX9_hangingWith_X11_bit
set_option maxRecDepth 20000 in
theorem ggX9_hangingWith_X11_lowest : GoodIn wsX9_hangingWith wsX11_lowest := goodIn_r _ [8, 9, 10, 11, 12, 13, 14, 15] (by decide +kernel) (by decide +kernel)
set_option maxRecDepth 20000 in
theorem gX9_hangingWith_X11_lowest_n67 : GoodIn wsX9_hangingWith (wsX11_lowest) := ggX9_hangingWith_X11_lowest
set_option maxRecDepth 20000 in
theorem ggX11_complex_X8_read : GoodIn wsX11_complex wsX8_read := goodIn_r _ [15, 16, 17, 18, 19, 20, 21, 22, 23, 24, 25, 26, 14, 27, 28, 29, 30, 31, 32, 33, 34, 35, 36, 37, 38, 39, 40, 41, 42, 43, 44, 45, 46, 47, 48, 49, 50, 51, 52, 53, 54, 55, 114, 115, 116, 112, 113] (by decide +kernel) (by decide +kernel)
set_option maxRecDepth 20000 in
theorem gX11_complex_X8_read : GoodIn wsX11_complex (wsV RX11 95 RX8 yX8_read wsX8_read) := goodIn_app (goodIn_of _ (by decide +kernel)) ggX11_complex_X8_read
set_option maxRecDepth 20000 in
theorem ggX11_complex_X9_build : GoodIn wsX11_complex wsX9_build := goodIn_r _ [60, 61, 62, 63, 64, 65, 66, 21, 22, 23, 67, 68, 69, 70, 46, 47, 48, 49, 50, 51, 71, 72, 73, 59, 74, 75, 76, 77, 78, 79, 121, 122, 123, 124, 125, 126, 127] (by decide +kernel) (by decide +kernel)
set_option maxRecDepth 20000 in
theorem gX11_complex_X9_build : GoodIn wsX11_complex (wsV RX11 103 RX9 yX9_build wsX9_build) := goodIn_app (goodIn_of _ (by decide +kernel)) ggX11_complex_X9_build
set_option maxRecDepth 20000 in
theorem ggX11_complex_X9_all : GoodIn wsX11_complex wsX9_all := goodIn_r _ [83, 61, 77, 78, 79, 121, 122, 123, 124, 125, 126, 127] (by decide +kernel) (by decide +kernel)
set_option maxRecDepth 20000 in
theorem gX11_complex_X9_all : GoodIn wsX11_complex (wsV RX11 107 RX9 yX9_all wsX9_all) := goodIn_app (goodIn_of _ (by decide +kernel)) ggX11_complex_X9_all
set_option maxRecDepth 20000 in
theorem ggX11_complex_X6_restart : GoodIn wsX11_complex wsX6_restart := goodIn_r _ [88, 89, 90, 91, 92, 93, 94, 21, 22, 23, 128, 129, 130, 131, 132, 133] (by decide +kernel) (by decide +kernel)
set_option maxRecDepth 20000 in
theorem gX11_complex_X6_restart : GoodIn wsX11_complex (wsV RX11 111 RX6 yX6_restart wsX6_restart) := goodIn_app (goodIn_of _ (by decide +kernel)) ggX11_complex_X6_restart
set_option maxRecDepth 20000 in
theorem ggX11_complex_X4_forget : GoodIn wsX11_complex wsX4_forget := goodIn_r _ [99, 100, 134, 135] (by decide +kernel) (by decide +kernel)
set_option maxRecDepth 20000 in
theorem gX11_complex_X4_forget : GoodIn wsX11_complex (wsV RX11 116 RX4 yX4_forget wsX4_forget) := goodIn_app (goodIn_of _ (by decide +kernel)) ggX11_complex_X4_forget
set_option maxRecDepth 20000 in
theorem ggX11_simplex_X9_has : GoodIn wsX11_simplex wsX9_has := goodIn_r _ [13, 14, 83, 84, 85, 86, 87, 88, 89] (by decide +kernel) (by decide +kernel)
set_option maxRecDepth 20000 in
theorem gX11_simplex_X9_has : GoodIn wsX11_simplex (wsV RX11 120 RX9 yX9_has wsX9_has) := goodIn_app (goodIn_of _ (by decide +kernel)) ggX11_simplex_X9_has
set_option maxRecDepth 20000 in
theorem ggX11_simplex_X11_isThere : GoodIn wsX11_simplex wsX11_isThere := goodIn_r _ [19, 1, 4, 8, 9, 10, 11, 12, 13, 14, 20, 21, 18, 22, 72, 73, 74, 75, 76, 77, 78, 79, 80, 81, 82, 90, 91, 92, 93, 94, 95, 83, 84, 85, 86, 87, 88, 89] (by decide +kernel) (by decide +kernel)
set_option maxRecDepth 20000 in
theorem gX11_simplex_X11_isThere : GoodIn wsX11_simplex (wsV RX11 130 RX11 yX11_isThere wsX11_isThere) := goodIn_app (goodIn_of _ (by decide +kernel)) ggX11_simplex_X11_isThere
set_option maxRecDepth 20000 in
theorem ggX11_simplex_X6_side : GoodIn wsX11_simplex wsX6_side := goodIn_r _ [27, 28, 29, 21, 18, 22, 90, 91, 92, 93, 94, 95] (by decide +kernel) (by decide +kernel)
set_option maxRecDepth 20000 in
theorem gX11_simplex_X6_side : GoodIn wsX11_simplex (wsV RX11 136 RX6 yX6_side wsX6_side) := goodIn_app (goodIn_of _ (by decide +kernel)) ggX11_simplex_X6_side
set_option maxRecDepth 20000 in
theorem ggX11_simplex_X2_of : GoodIn wsX11_simplex wsX2_of := goodIn_r _ [34, 35, 36, 37, 38, 33, 39, 40, 41, 42, 43, 44, 45, 46, 47, 48, 49, 50, 51, 52, 53, 54, 55, 56, 21, 18, 22, 57, 58, 59, 26, 60, 28, 61, 62, 63, 64, 96, 97, 98, 99, 100, 101, 90, 91, 92, 93, 94, 95, 83, 84, 85, 86, 87, 88, 89] (by decide +kernel) (by decide +kernel)
set_option maxRecDepth 20000 in
theorem gX11_simplex_X2_of : GoodIn wsX11_simplex (wsV RX11 140 RX2 yX2_of wsX2_of) := goodIn_app (goodIn_of _ (by decide +kernel)) ggX11_simplex_X2_of
set_option maxRecDepth 20000 in
theorem ggX11_simplex_J13_bitCount_95d88 : GoodIn wsX11_simplex wsJ13_bitCount_95d88 := goodIn_r _ [68, 69, 70, 71] (by decide +kernel) (by decide +kernel)
set_option maxRecDepth 20000 in
theorem gX11_simplex_J13_bitCount_95d88 : GoodIn wsX11_simplex (va_wsS RX11 151 yJ13_bitCount_95d88 wsJ13_bitCount_95d88) := goodIn_app (goodIn_of _ (by decide +kernel)) ggX11_simplex_J13_bitCount_95d88
set_option maxRecDepth 20000 in
theorem ggX11_sign_X9_has : GoodIn wsX11_sign wsX9_has := goodIn_r _ [7, 8, 36, 37, 38, 39, 40, 41, 42] (by decide +kernel) (by decide +kernel)
set_option maxRecDepth 20000 in
theorem gX11_sign_X9_has : GoodIn wsX11_sign (wsV RX11 120 RX9 yX9_has wsX9_has) := goodIn_app (goodIn_of _ (by decide +kernel)) ggX11_sign_X9_has
set_option maxRecDepth 20000 in
theorem ggX11_sign_X9_signOf : GoodIn wsX11_sign wsX9_signOf := goodIn_r _ [12, 13, 14, 15, 16, 17, 18, 19, 20, 21, 22, 23, 24, 36, 37, 38, 39, 40, 41, 42] (by decide +kernel) (by decide +kernel)
set_option maxRecDepth 20000 in
theorem gX11_sign_X9_signOf : GoodIn wsX11_sign (wsV RX11 161 RX9 yX9_signOf wsX9_signOf) := goodIn_app (goodIn_of _ (by decide +kernel)) ggX11_sign_X9_signOf
set_option maxRecDepth 20000 in
theorem ggX11_pair_X11_isThere : GoodIn wsX11_pair wsX11_isThere := goodIn_r _ [9, 1, 3, 10, 11, 12, 13, 14, 15, 16, 17, 18, 8, 19, 80, 81, 82, 83, 84, 85, 86, 87, 88, 89, 90, 98, 99, 100, 101, 102, 103, 91, 92, 93, 94, 95, 96, 97] (by decide +kernel) (by decide +kernel)
set_option maxRecDepth 20000 in
theorem gX11_pair_X11_isThere : GoodIn wsX11_pair (wsV RX11 130 RX11 yX11_isThere wsX11_isThere) := goodIn_app (goodIn_of _ (by decide +kernel)) ggX11_pair_X11_isThere
set_option maxRecDepth 20000 in
theorem ggX11_pair_X11_isIn : GoodIn wsX11_pair wsX11_isIn := goodIn_r _ [19] (by decide +kernel) (by decide +kernel)
set_option maxRecDepth 20000 in
theorem gX11_pair_X11_isIn : GoodIn wsX11_pair (va_wsS RX11 168 yX11_isIn wsX11_isIn) := goodIn_app (goodIn_of _ (by decide +kernel)) ggX11_pair_X11_isIn
set_option maxRecDepth 20000 in
theorem ggX11_pair_X6_isCritical : GoodIn wsX11_pair wsX6_isCritical := goodIn_r _ [24, 25, 26, 27, 23, 28, 29, 30, 31, 32, 18, 8, 19, 98, 99, 100, 101, 102, 103] (by decide +kernel) (by decide +kernel)
set_option maxRecDepth 20000 in
theorem gX11_pair_X6_isCritical : GoodIn wsX11_pair (wsV RX11 172 RX6 yX6_isCritical wsX6_isCritical) := goodIn_app (goodIn_of _ (by decide +kernel)) ggX11_pair_X6_isCritical
set_option maxRecDepth 20000 in
theorem ggX11_pair_X6_staysAcyclic : GoodIn wsX11_pair wsX6_staysAcyclic := goodIn_r _ [36, 37, 38, 32, 30, 39, 40, 8, 41, 42, 43, 44, 45, 46, 47, 48, 49, 50, 18, 19, 98, 99, 100, 101, 102, 103, 91, 92, 93, 94, 95, 96, 97] (by decide +kernel) (by decide +kernel)
set_option maxRecDepth 20000 in
theorem gX11_pair_X6_staysAcyclic : GoodIn wsX11_pair (wsV RX11 175 RX6 yX6_staysAcyclic wsX6_staysAcyclic) := goodIn_app (goodIn_of _ (by decide +kernel)) ggX11_pair_X6_staysAcyclic
set_option maxRecDepth 20000 in
theorem ggX11_pair_X3_save : GoodIn wsX11_pair wsX3_save := goodIn_r _ [55, 56, 57, 58, 59, 60, 61, 62, 63, 64, 65, 66, 67, 68, 69, 98, 99, 100, 101, 102, 103, 104, 105, 106, 107] (by decide +kernel) (by decide +kernel)
set_option maxRecDepth 20000 in
theorem gX11_pair_X3_save : GoodIn wsX11_pair (wsV RX11 179 RX3 yX3_save wsX3_save) := goodIn_app (goodIn_of _ (by decide +kernel)) ggX11_pair_X3_save
set_option maxRecDepth 20000 in
theorem ggX11_pair_X6_unite : GoodIn wsX11_pair wsX6_unite := goodIn_r _ [73, 39, 30, 31, 74, 40, 8, 41, 98, 99, 100, 101, 102, 103] (by decide +kernel) (by decide +kernel)
set_option maxRecDepth 20000 in
theorem gX11_pair_X6_unite : GoodIn wsX11_pair (wsV RX11 183 RX6 yX6_unite wsX6_unite) := goodIn_app (goodIn_of _ (by decide +kernel)) ggX11_pair_X6_unite
set_option maxRecDepth 20000 in
theorem ggX11_pair_X11_criticalOnes : GoodIn wsX11_pair wsX11_criticalOnes := goodIn_r _ [78, 3, 79, 26, 27, 23, 28, 29, 30, 31, 32, 44, 45, 46, 47, 48, 49, 50, 80, 81, 82, 83, 84, 85, 86, 87, 88, 89, 90, 98, 99, 100, 101, 102, 103] (by decide +kernel) (by decide +kernel)
set_option maxRecDepth 20000 in
theorem gX11_pair_X11_criticalOnes : GoodIn wsX11_pair (wsV RX11 187 RX11 yX11_criticalOnes wsX11_criticalOnes) := goodIn_app (goodIn_of _ (by decide +kernel)) ggX11_pair_X11_criticalOnes
set_option maxRecDepth 20000 in
theorem ggX11_part_X11_isThere : GoodIn wsX11_part wsX11_isThere := goodIn_r _ [8, 9, 1, 10, 11, 12, 13, 14, 15, 16, 17, 18, 7, 19, 67, 68, 69, 70, 71, 72, 73, 74, 75, 76, 77, 78, 79, 80, 81, 82, 83, 84, 85, 86, 87, 88, 89, 90] (by decide +kernel) (by decide +kernel)
set_option maxRecDepth 20000 in
theorem gX11_part_X11_isThere : GoodIn wsX11_part (wsV RX11 130 RX11 yX11_isThere wsX11_isThere) := goodIn_app (goodIn_of _ (by decide +kernel)) ggX11_part_X11_isThere
set_option maxRecDepth 20000 in
theorem ggX11_part_X3_save : GoodIn wsX11_part wsX3_save := goodIn_r _ [24, 25, 26, 27, 28, 29, 30, 31, 32, 33, 34, 35, 36, 37, 38, 78, 79, 80, 81, 82, 83, 91, 92, 93, 94] (by decide +kernel) (by decide +kernel)
set_option maxRecDepth 20000 in
theorem gX11_part_X3_save : GoodIn wsX11_part (wsV RX11 179 RX3 yX3_save wsX3_save) := goodIn_app (goodIn_of _ (by decide +kernel)) ggX11_part_X3_save
set_option maxRecDepth 20000 in
theorem ggX11_part_X6_divide : GoodIn wsX11_part wsX6_divide := goodIn_r _ [43, 44, 45, 46, 47, 48, 49, 7, 50, 78, 79, 80, 81, 82, 83] (by decide +kernel) (by decide +kernel)
set_option maxRecDepth 20000 in
theorem gX11_part_X6_divide : GoodIn wsX11_part (wsV RX11 191 RX6 yX6_divide wsX6_divide) := goodIn_app (goodIn_of _ (by decide +kernel)) ggX11_part_X6_divide
set_option maxRecDepth 20000 in
theorem ggX11_part_X11_criticalOnes : GoodIn wsX11_part wsX11_criticalOnes := goodIn_r _ [54, 1, 55, 56, 57, 42, 58, 59, 46, 47, 45, 60, 61, 62, 63, 64, 65, 66, 67, 68, 69, 70, 71, 72, 73, 74, 75, 76, 77, 78, 79, 80, 81, 82, 83] (by decide +kernel) (by decide +kernel)
set_option maxRecDepth 20000 in
theorem gX11_part_X11_criticalOnes : GoodIn wsX11_part (wsV RX11 187 RX11 yX11_criticalOnes wsX11_criticalOnes) := goodIn_app (goodIn_of _ (by decide +kernel)) ggX11_part_X11_criticalOnes
set_option maxRecDepth 20000 in
theorem ggX11_auto_X3_save : GoodIn wsX11_auto wsX3_save := goodIn_r _ [10, 11, 12, 13, 14, 15, 16, 17, 18, 19, 20, 21, 22, 23, 24, 141, 142, 143, 144, 145, 146, 147, 148, 149, 150] (by decide +kernel) (by decide +kernel)
set_option maxRecDepth 20000 in
theorem gX11_auto_X3_save : GoodIn wsX11_auto (wsV RX11 179 RX3 yX3_save wsX3_save) := goodIn_app (goodIn_of _ (by decide +kernel)) ggX11_auto_X3_save
set_option maxRecDepth 20000 in
theorem ggX11_auto_X6_restart : GoodIn wsX11_auto wsX6_restart := goodIn_r _ [29, 30, 31, 32, 33, 34, 35, 36, 37, 38, 141, 142, 143, 144, 145, 146] (by decide +kernel) (by decide +kernel)
set_option maxRecDepth 20000 in
theorem gX11_auto_X6_restart : GoodIn wsX11_auto (wsV RX11 111 RX6 yX6_restart wsX6_restart) := goodIn_app (goodIn_of _ (by decide +kernel)) ggX11_auto_X6_restart
set_option maxRecDepth 20000 in
theorem ggX11_auto_X11_pairUpwards : GoodIn wsX11_auto wsX11_pairUpwards := goodIn_r _ [43, 1, 2, 4, 44, 45, 46, 47, 28, 48, 49, 50, 51, 52, 31, 32, 33, 53, 54, 42, 55, 56, 57, 58, 59, 60, 61, 62, 63, 30, 64, 65, 66, 67, 68, 69, 70, 71, 72, 73, 74, 75, 76, 77, 78, 34, 123, 124, 125, 126, 127, 128, 129, 130, 131, 132, 133, 134, 135, 136, 137, 138, 139, 140, 141, 142, 143, 144, 145, 146] (by decide +kernel) (by decide +kernel)
set_option maxRecDepth 20000 in
theorem gX11_auto_X11_pairUpwards : GoodIn wsX11_auto (wsV RX11 194 RX11 yX11_pairUpwards wsX11_pairUpwards) := goodIn_app (goodIn_of _ (by decide +kernel)) ggX11_auto_X11_pairUpwards
set_option maxRecDepth 20000 in
theorem ggX11_auto_X11_pairDownwards : GoodIn wsX11_auto wsX11_pairDownwards := goodIn_r _ [82, 1, 2, 4, 83, 45, 46, 47, 28, 48, 49, 50, 51, 52, 31, 32, 33, 53, 54, 42, 55, 56, 57, 58, 59, 60, 61, 62, 63, 30, 64, 65, 66, 67, 68, 69, 70, 71, 72, 73, 74, 75, 76, 77, 78, 34, 123, 124, 125, 126, 127, 128, 129, 130, 131, 132, 133, 134, 135, 136, 137, 138, 139, 140, 141, 142, 143, 144, 145, 146] (by decide +kernel) (by decide +kernel)
set_option maxRecDepth 20000 in
theorem gX11_auto_X11_pairDownwards : GoodIn wsX11_auto (wsV RX11 197 RX11 yX11_pairDownwards wsX11_pairDownwards) := goodIn_app (goodIn_of _ (by decide +kernel)) ggX11_auto_X11_pairDownwards
set_option maxRecDepth 20000 in
theorem ggX11_auto_X11_pairByPeeling : GoodIn wsX11_auto wsX11_pairByPeeling := goodIn_r _ [87, 88, 4, 5, 89, 90, 91, 92, 93, 94, 95, 96, 97, 98, 99, 100, 101, 102, 103, 104, 66, 42, 67, 68, 69, 70, 71, 72, 73, 74, 105, 64, 65, 106, 107, 108, 109, 110, 75, 76, 77, 28, 78, 30, 32, 33, 34, 111, 112, 113, 114, 115, 116, 117, 118, 123, 124, 125, 126, 127, 128, 129, 130, 131, 132, 133, 141, 142, 143, 144, 145, 146, 151, 152, 153, 134, 135, 136, 137, 138, 139, 140] (by decide +kernel) (by decide +kernel)
set_option maxRecDepth 20000 in
theorem gX11_auto_X11_pairByPeeling : GoodIn wsX11_auto (wsV RX11 200 RX11 yX11_pairByPeeling wsX11_pairByPeeling) := goodIn_app (goodIn_of _ (by decide +kernel)) ggX11_auto_X11_pairByPeeling
set_option maxRecDepth 20000 in
theorem ggX11_auto_X11_criticalOnes : GoodIn wsX11_auto wsX11_criticalOnes := goodIn_r _ [122, 4, 56, 50, 51, 28, 52, 31, 32, 33, 53, 68, 69, 70, 71, 72, 73, 74, 123, 124, 125, 126, 127, 128, 129, 130, 131, 132, 133, 141, 142, 143, 144, 145, 146] (by decide +kernel) (by decide +kernel)
set_option maxRecDepth 20000 in
theorem gX11_auto_X11_criticalOnes : GoodIn wsX11_auto (wsV RX11 187 RX11 yX11_criticalOnes wsX11_criticalOnes) := goodIn_app (goodIn_of _ (by decide +kernel)) ggX11_auto_X11_criticalOnes
set_option maxRecDepth 20000 in
theorem ggX11_cancel_X11_areEnds : GoodIn wsX11_cancel wsX11_areEnds := goodIn_r _ [9, 10, 11, 3, 12, 13, 14, 8, 15, 16, 17, 18, 19, 20, 21, 22, 23, 24, 25, 26, 27, 28, 29, 30, 31, 32, 33, 34, 35, 36, 37, 38, 147, 148, 149, 150, 151, 152, 153, 154, 155, 156, 157, 165, 166, 167, 168, 169, 170, 171, 172, 173, 174, 175, 176, 177] (by decide +kernel) (by decide +kernel)
set_option maxRecDepth 20000 in
theorem gX11_cancel_X11_areEnds : GoodIn wsX11_cancel (wsV RX11 203 RX11 yX11_areEnds wsX11_areEnds) := goodIn_app (goodIn_of _ (by decide +kernel)) ggX11_cancel_X11_areEnds
set_option maxRecDepth 20000 in
theorem ggX11_cancel_X1_countWays : GoodIn wsX11_cancel wsX1_countWays := goodIn_r _ [43, 44, 45, 46, 47, 48, 49, 50, 51, 52, 53, 54, 55, 56, 57, 58, 59, 60, 61, 62, 63, 64, 65, 66, 67, 68, 69, 70, 71, 72, 73, 74, 24, 8, 25, 75, 76, 77, 29, 78, 79, 80, 81, 82, 83, 84, 85, 86, 87, 88, 89, 42, 90, 91, 92, 93, 94, 38, 95, 96, 97, 98, 99, 100, 101, 102, 103, 158, 159, 160, 161, 162, 163, 164, 178, 179, 180, 181, 182, 183, 165, 166, 167, 168, 169, 170, 171, 172, 173, 174, 175, 176, 177] (by decide +kernel) (by decide +kernel)
set_option maxRecDepth 20000 in
theorem gX11_cancel_X1_countWays : GoodIn wsX11_cancel (wsV RX11 206 RX1 yX1_countWays wsX1_countWays) := goodIn_app (goodIn_of _ (by decide +kernel)) ggX11_cancel_X1_countWays
set_option maxRecDepth 20000 in
theorem ggX11_cancel_X3_save : GoodIn wsX11_cancel wsX3_save := goodIn_r _ [108, 109, 110, 111, 112, 113, 114, 115, 116, 117, 118, 119, 120, 121, 122, 172, 173, 174, 175, 176, 177, 184, 185, 186, 187] (by decide +kernel) (by decide +kernel)
set_option maxRecDepth 20000 in
theorem gX11_cancel_X3_save : GoodIn wsX11_cancel (wsV RX11 179 RX3 yX3_save wsX3_save) := goodIn_app (goodIn_of _ (by decide +kernel)) ggX11_cancel_X3_save
set_option maxRecDepth 20000 in
theorem ggX11_cancel_X1_trace : GoodIn wsX11_cancel wsX1_trace := goodIn_r _ [126, 127, 128, 50, 51, 129, 130, 131, 42, 132, 45, 91, 92, 93, 29, 94, 79, 80, 81, 38, 95, 8, 96, 97, 98, 99, 100, 101, 102, 103, 158, 159, 160, 161, 162, 163, 164, 172, 173, 174, 175, 176, 177, 165, 166, 167, 168, 169, 170, 171] (by decide +kernel) (by decide +kernel)
set_option maxRecDepth 20000 in
theorem gX11_cancel_X1_trace : GoodIn wsX11_cancel (wsV RX11 210 RX1 yX1_trace wsX1_trace) := goodIn_app (goodIn_of _ (by decide +kernel)) ggX11_cancel_X1_trace
set_option maxRecDepth 20000 in
theorem ggX11_cancel_X6_divide : GoodIn wsX11_cancel wsX6_divide := goodIn_r _ [136, 79, 38, 36, 37, 137, 82, 8, 83, 172, 173, 174, 175, 176, 177] (by decide +kernel) (by decide +kernel)
set_option maxRecDepth 20000 in
theorem gX11_cancel_X6_divide : GoodIn wsX11_cancel (wsV RX11 191 RX6 yX6_divide wsX6_divide) := goodIn_app (goodIn_of _ (by decide +kernel)) ggX11_cancel_X6_divide
set_option maxRecDepth 20000 in
theorem ggX11_cancel_X6_unite : GoodIn wsX11_cancel wsX6_unite := goodIn_r _ [141, 79, 36, 37, 137, 82, 8, 83, 172, 173, 174, 175, 176, 177] (by decide +kernel) (by decide +kernel)
set_option maxRecDepth 20000 in
theorem gX11_cancel_X6_unite : GoodIn wsX11_cancel (wsV RX11 183 RX6 yX6_unite wsX6_unite) := goodIn_app (goodIn_of _ (by decide +kernel)) ggX11_cancel_X6_unite
set_option maxRecDepth 20000 in
theorem ggX11_cancel_X11_criticalOnes : GoodIn wsX11_cancel wsX11_criticalOnes := goodIn_r _ [145, 3, 146, 32, 33, 29, 34, 35, 36, 37, 38, 97, 98, 99, 100, 101, 102, 103, 147, 148, 149, 150, 151, 152, 153, 154, 155, 156, 157, 172, 173, 174, 175, 176, 177] (by decide +kernel) (by decide +kernel)
set_option maxRecDepth 20000 in
theorem gX11_cancel_X11_criticalOnes : GoodIn wsX11_cancel (wsV RX11 187 RX11 yX11_criticalOnes wsX11_criticalOnes) := goodIn_app (goodIn_of _ (by decide +kernel)) ggX11_cancel_X11_criticalOnes
set_option maxRecDepth 20000 in
theorem ggX11_collapse_X11_isThere : GoodIn wsX11_collapse wsX11_isThere := goodIn_r _ [10, 3, 2, 5, 11, 12, 13, 14, 15, 16, 17, 18, 9, 19, 70, 71, 72, 73, 74, 75, 76, 77, 78, 79, 80, 88, 89, 90, 91, 92, 93, 81, 82, 83, 84, 85, 86, 87] (by decide +kernel) (by decide +kernel)
set_option maxRecDepth 20000 in
theorem gX11_collapse_X11_isThere : GoodIn wsX11_collapse (wsV RX11 130 RX11 yX11_isThere wsX11_isThere) := goodIn_app (goodIn_of _ (by decide +kernel)) ggX11_collapse_X11_isThere
set_option maxRecDepth 20000 in
theorem ggX11_collapse_X11_isFree : GoodIn wsX11_collapse wsX11_isFree := goodIn_r _ [23, 3, 4, 2, 5, 24, 25, 26, 27, 28, 29, 30, 31, 32, 9, 33, 70, 71, 72, 73, 74, 75, 76, 77, 78, 79, 80, 81, 82, 83, 84, 85, 86, 87, 88, 89, 90, 91, 92, 93] (by decide +kernel) (by decide +kernel)
set_option maxRecDepth 20000 in
theorem gX11_collapse_X11_isFree : GoodIn wsX11_collapse (wsV RX11 217 RX11 yX11_isFree wsX11_isFree) := goodIn_app (goodIn_of _ (by decide +kernel)) ggX11_collapse_X11_isFree
set_option maxRecDepth 20000 in
theorem ggX11_collapse_X3_save : GoodIn wsX11_collapse wsX3_save := goodIn_r _ [38, 39, 40, 41, 42, 43, 44, 45, 46, 47, 48, 49, 50, 51, 52, 88, 89, 90, 91, 92, 93, 94, 95, 96, 97] (by decide +kernel) (by decide +kernel)
set_option maxRecDepth 20000 in
theorem gX11_collapse_X3_save : GoodIn wsX11_collapse (wsV RX11 179 RX3 yX3_save wsX3_save) := goodIn_app (goodIn_of _ (by decide +kernel)) ggX11_collapse_X3_save
set_option maxRecDepth 20000 in
theorem ggX11_collapse_X11_lowest : GoodIn wsX11_collapse wsX11_lowest := goodIn_r _ [33, 24, 25, 26, 27, 28, 29, 30] (by decide +kernel) (by decide +kernel)
set_option maxRecDepth 20000 in
theorem gX11_collapse_X11_lowest : GoodIn wsX11_collapse (va_wsS RX11 220 yX11_lowest wsX11_lowest) := goodIn_app (goodIn_of _ (by decide +kernel)) ggX11_collapse_X11_lowest
set_option maxRecDepth 20000 in
theorem ggX11_collapse_X6_drop : GoodIn wsX11_collapse wsX6_drop := goodIn_r _ [57, 58, 59, 60, 61, 62, 63, 56, 64, 65, 66, 67, 68, 9, 69, 88, 89, 90, 91, 92, 93] (by decide +kernel) (by decide +kernel)
set_option maxRecDepth 20000 in
theorem gX11_collapse_X6_drop : GoodIn wsX11_collapse (wsV RX11 223 RX6 yX6_drop wsX6_drop) := goodIn_app (goodIn_of _ (by decide +kernel)) ggX11_collapse_X6_drop
set_option maxRecDepth 20000 in
theorem ggX11_collapse_J13_bitCount_95d88 : GoodIn wsX11_collapse wsJ13_bitCount_95d88 := goodIn_r _ [27, 28, 29, 30] (by decide +kernel) (by decide +kernel)
set_option maxRecDepth 20000 in
theorem gX11_collapse_J13_bitCount_95d88 : GoodIn wsX11_collapse (va_wsS RX11 151 yJ13_bitCount_95d88 wsJ13_bitCount_95d88) := goodIn_app (goodIn_of _ (by decide +kernel)) ggX11_collapse_J13_bitCount_95d88
set_option maxRecDepth 20000 in
theorem ggX11_undo_X3_restore : GoodIn wsX11_undo wsX3_restore := goodIn_r _ [8, 9, 10, 11, 12, 13, 14, 15, 16, 17, 18, 19, 20, 21, 22, 23, 24, 25, 26, 27, 28, 29, 30, 31, 32, 33, 34, 35, 36, 37, 49, 50, 51, 52, 53, 54, 55, 56, 57, 58] (by decide +kernel) (by decide +kernel)
set_option maxRecDepth 20000 in
theorem gX11_undo_X3_restore : GoodIn wsX11_undo (wsV RX11 226 RX3 yX3_restore wsX3_restore) := goodIn_app (goodIn_of _ (by decide +kernel)) ggX11_undo_X3_restore
set_option maxRecDepth 20000 in
theorem ggX11_critical_X11_isDim : GoodIn wsX11_critical wsX11_isDim := goodIn_r _ [7] (by decide +kernel) (by decide +kernel)
set_option maxRecDepth 20000 in
theorem gX11_critical_X11_isDim : GoodIn wsX11_critical (va_wsS RX11 229 yX11_isDim wsX11_isDim) := goodIn_app (goodIn_of _ (by decide +kernel)) ggX11_critical_X11_isDim
set_option maxRecDepth 20000 in
theorem ggX11_critical_X6_unpaired : GoodIn wsX11_critical wsX6_unpaired := goodIn_r _ [12, 13, 14, 15, 16, 51, 52, 53, 54, 55, 56] (by decide +kernel) (by decide +kernel)
set_option maxRecDepth 20000 in
theorem gX11_critical_X6_unpaired : GoodIn wsX11_critical (wsV RX11 232 RX6 yX6_unpaired wsX6_unpaired) := goodIn_app (goodIn_of _ (by decide +kernel)) ggX11_critical_X6_unpaired
set_option maxRecDepth 20000 in
theorem ggX11_critical_X11_listed : GoodIn wsX11_critical wsX11_listed := goodIn_r _ [19, 20, 21, 22, 23, 24, 25, 26, 27, 28, 6, 29, 30, 31, 32] (by decide +kernel) (by decide +kernel)
set_option maxRecDepth 20000 in
theorem gX11_critical_X11_listed : GoodIn wsX11_critical (va_wsS RX11 238 yX11_listed wsX11_listed) := goodIn_app (goodIn_of _ (by decide +kernel)) ggX11_critical_X11_listed
set_option maxRecDepth 20000 in
theorem ggX11_paths_X11_areEnds : GoodIn wsX11_paths wsX11_areEnds := goodIn_r _ [7, 8, 9, 10, 11, 12, 13, 6, 14, 15, 16, 17, 18, 19, 20, 21, 22, 23, 24, 25, 26, 27, 28, 29, 30, 31, 32, 33, 34, 35, 36, 37, 103, 104, 105, 106, 107, 108, 109, 110, 111, 112, 113, 114, 115, 116, 117, 118, 119, 120, 121, 122, 123, 124, 125, 126] (by decide +kernel) (by decide +kernel)
set_option maxRecDepth 20000 in
theorem gX11_paths_X11_areEnds : GoodIn wsX11_paths (wsV RX11 203 RX11 yX11_areEnds wsX11_areEnds) := goodIn_app (goodIn_of _ (by decide +kernel)) ggX11_paths_X11_areEnds
set_option maxRecDepth 20000 in
theorem ggX11_paths_X1_countWays : GoodIn wsX11_paths wsX1_countWays := goodIn_r _ [42, 43, 44, 45, 46, 47, 48, 49, 50, 51, 52, 53, 54, 55, 56, 57, 58, 59, 60, 61, 62, 63, 64, 65, 66, 67, 68, 69, 70, 71, 72, 73, 23, 6, 24, 74, 75, 76, 28, 77, 78, 79, 80, 81, 82, 83, 84, 85, 86, 87, 88, 41, 89, 90, 91, 92, 93, 37, 94, 95, 96, 97, 98, 99, 100, 101, 102, 127, 128, 129, 130, 131, 132, 133, 134, 135, 136, 137, 138, 139, 114, 115, 116, 117, 118, 119, 120, 121, 122, 123, 124, 125, 126] (by decide +kernel) (by decide +kernel)
set_option maxRecDepth 20000 in
theorem gX11_paths_X1_countWays : GoodIn wsX11_paths (wsV RX11 206 RX1 yX1_countWays wsX1_countWays) := goodIn_app (goodIn_of _ (by decide +kernel)) ggX11_paths_X1_countWays
set_option maxRecDepth 20000 in
theorem ggX11_path_X11_areEnds : GoodIn wsX11_path wsX11_areEnds := goodIn_r _ [7, 8, 9, 10, 11, 12, 13, 6, 14, 15, 16, 17, 18, 19, 20, 21, 22, 23, 24, 25, 26, 27, 28, 29, 30, 31, 32, 33, 34, 35, 36, 37, 113, 114, 115, 116, 117, 118, 119, 120, 121, 122, 123, 131, 132, 133, 134, 135, 136, 137, 138, 139, 140, 141, 142, 143] (by decide +kernel) (by decide +kernel)
set_option maxRecDepth 20000 in
theorem gX11_path_X11_areEnds : GoodIn wsX11_path (wsV RX11 203 RX11 yX11_areEnds wsX11_areEnds) := goodIn_app (goodIn_of _ (by decide +kernel)) ggX11_path_X11_areEnds
set_option maxRecDepth 20000 in
theorem ggX11_path_X1_countWays : GoodIn wsX11_path wsX1_countWays := goodIn_r _ [42, 43, 44, 45, 46, 47, 48, 49, 50, 51, 52, 53, 54, 55, 56, 57, 58, 59, 60, 61, 62, 63, 64, 65, 66, 67, 68, 69, 70, 71, 72, 73, 23, 6, 24, 74, 75, 76, 28, 77, 78, 79, 80, 81, 82, 83, 84, 85, 86, 87, 88, 41, 89, 90, 91, 92, 93, 37, 94, 95, 96, 97, 98, 99, 100, 101, 102, 124, 125, 126, 127, 128, 129, 130, 144, 145, 146, 147, 148, 149, 131, 132, 133, 134, 135, 136, 137, 138, 139, 140, 141, 142, 143] (by decide +kernel) (by decide +kernel)
set_option maxRecDepth 20000 in
theorem gX11_path_X1_countWays : GoodIn wsX11_path (wsV RX11 206 RX1 yX1_countWays wsX1_countWays) := goodIn_app (goodIn_of _ (by decide +kernel)) ggX11_path_X1_countWays
set_option maxRecDepth 20000 in
theorem ggX11_path_X1_trace : GoodIn wsX11_path wsX1_trace := goodIn_r _ [106, 107, 108, 49, 50, 109, 110, 111, 41, 112, 44, 90, 91, 92, 28, 93, 78, 79, 80, 37, 94, 6, 95, 96, 97, 98, 99, 100, 101, 102, 124, 125, 126, 127, 128, 129, 130, 138, 139, 140, 141, 142, 143, 131, 132, 133, 134, 135, 136, 137] (by decide +kernel) (by decide +kernel)
set_option maxRecDepth 20000 in
theorem gX11_path_X1_trace : GoodIn wsX11_path (wsV RX11 210 RX1 yX1_trace wsX1_trace) := goodIn_app (goodIn_of _ (by decide +kernel)) ggX11_path_X1_trace
set_option maxRecDepth 20000 in
theorem ggX11_incidence_X11_areEnds : GoodIn wsX11_incidence wsX11_areEnds := goodIn_r _ [10, 3, 4, 11, 12, 13, 14, 9, 15, 16, 17, 18, 19, 20, 21, 22, 23, 24, 25, 26, 27, 28, 29, 30, 31, 32, 33, 34, 35, 36, 37, 38, 125, 126, 127, 128, 129, 130, 131, 132, 133, 134, 135, 136, 137, 138, 139, 140, 141, 142, 150, 151, 152, 153, 154, 155] (by decide +kernel) (by decide +kernel)
set_option maxRecDepth 20000 in
theorem gX11_incidence_X11_areEnds : GoodIn wsX11_incidence (wsV RX11 203 RX11 yX11_areEnds wsX11_areEnds) := goodIn_app (goodIn_of _ (by decide +kernel)) ggX11_incidence_X11_areEnds
set_option maxRecDepth 20000 in
theorem ggX11_incidence_X1_start : GoodIn wsX11_incidence wsX1_start := goodIn_r _ [43, 44, 45, 46, 47, 48, 49, 50, 51, 52, 53, 54, 55, 56, 57, 58, 59, 60, 61, 62, 63, 64, 65, 66, 67, 68, 24, 9, 25, 69, 70, 71, 29, 72, 73, 74, 75, 76, 77, 78, 79, 80, 143, 144, 145, 146, 147, 148, 149, 156, 157, 158, 159, 160, 161, 150, 151, 152, 153, 154, 155, 136, 137, 138, 139, 140, 141, 142] (by decide +kernel) (by decide +kernel)
set_option maxRecDepth 20000 in
theorem gX11_incidence_X1_start : GoodIn wsX11_incidence (wsV RX11 246 RX1 yX1_start wsX1_start) := goodIn_app (goodIn_of _ (by decide +kernel)) ggX11_incidence_X1_start
set_option maxRecDepth 20000 in
theorem ggX11_incidence_X1_pour : GoodIn wsX11_incidence wsX1_pour := goodIn_r _ [84, 44, 85, 86, 45, 87, 88, 89, 90, 91, 42, 92, 93, 94, 95, 96, 29, 97, 73, 74, 75, 38, 98, 9, 99, 100, 101, 102, 103, 104, 105, 106, 107, 108, 109, 20, 110, 111, 112, 24, 25, 113, 114, 115, 116, 117, 118, 119, 120, 121, 122, 123, 124, 143, 144, 145, 146, 147, 148, 149, 156, 157, 158, 159, 160, 161, 136, 137, 138, 139, 140, 141, 142, 150, 151, 152, 153, 154, 155] (by decide +kernel) (by decide +kernel)
set_option maxRecDepth 20000 in
theorem gX11_incidence_X1_pour : GoodIn wsX11_incidence (wsV RX11 249 RX1 yX1_pour wsX1_pour) := goodIn_app (goodIn_of _ (by decide +kernel)) ggX11_incidence_X1_pour
set_option maxRecDepth 20000 in
theorem ggX11_chain_X11_isThere : GoodIn wsX11_chain wsX11_isThere := goodIn_r _ [11, 3, 1, 12, 13, 14, 15, 16, 17, 18, 19, 20, 10, 21, 121, 122, 123, 124, 125, 126, 127, 128, 129, 130, 131, 146, 147, 148, 149, 150, 151, 132, 133, 134, 135, 136, 137, 138] (by decide +kernel) (by decide +kernel)
set_option maxRecDepth 20000 in
theorem gX11_chain_X11_isThere : GoodIn wsX11_chain (wsV RX11 130 RX11 yX11_isThere wsX11_isThere) := goodIn_app (goodIn_of _ (by decide +kernel)) ggX11_chain_X11_isThere
set_option maxRecDepth 20000 in
theorem ggX11_chain_X6_isCritical : GoodIn wsX11_chain wsX6_isCritical := goodIn_r _ [26, 27, 28, 29, 25, 30, 31, 32, 33, 34, 20, 10, 21, 146, 147, 148, 149, 150, 151] (by decide +kernel) (by decide +kernel)
set_option maxRecDepth 20000 in
theorem gX11_chain_X6_isCritical : GoodIn wsX11_chain (wsV RX11 172 RX6 yX6_isCritical wsX6_isCritical) := goodIn_app (goodIn_of _ (by decide +kernel)) ggX11_chain_X6_isCritical
set_option maxRecDepth 20000 in
theorem ggX11_chain_X1_start : GoodIn wsX11_chain wsX1_start := goodIn_r _ [39, 40, 41, 42, 43, 44, 45, 46, 47, 48, 49, 50, 51, 52, 53, 54, 55, 56, 57, 58, 59, 60, 61, 62, 63, 64, 20, 10, 21, 65, 66, 67, 25, 68, 69, 70, 71, 72, 73, 74, 75, 76, 139, 140, 141, 142, 143, 144, 145, 152, 153, 154, 155, 156, 157, 146, 147, 148, 149, 150, 151, 132, 133, 134, 135, 136, 137, 138] (by decide +kernel) (by decide +kernel)
set_option maxRecDepth 20000 in
theorem gX11_chain_X1_start : GoodIn wsX11_chain (wsV RX11 246 RX1 yX1_start wsX1_start) := goodIn_app (goodIn_of _ (by decide +kernel)) ggX11_chain_X1_start
set_option maxRecDepth 20000 in
theorem ggX11_chain_X1_pour : GoodIn wsX11_chain wsX1_pour := goodIn_r _ [80, 40, 81, 82, 41, 83, 84, 85, 86, 87, 38, 88, 89, 90, 91, 92, 25, 93, 69, 70, 71, 34, 94, 10, 95, 96, 97, 98, 99, 100, 101, 102, 103, 104, 105, 16, 106, 107, 108, 20, 21, 109, 110, 111, 112, 113, 114, 115, 116, 117, 118, 119, 120, 139, 140, 141, 142, 143, 144, 145, 152, 153, 154, 155, 156, 157, 132, 133, 134, 135, 136, 137, 138, 146, 147, 148, 149, 150, 151] (by decide +kernel) (by decide +kernel)
set_option maxRecDepth 20000 in
theorem gX11_chain_X1_pour : GoodIn wsX11_chain (wsV RX11 249 RX1 yX1_pour wsX1_pour) := goodIn_app (goodIn_of _ (by decide +kernel)) ggX11_chain_X1_pour
set_option maxRecDepth 20000 in
theorem ggX11_root_X11_isThere : GoodIn wsX11_root wsX11_isThere := goodIn_r _ [11, 1, 3, 12, 13, 14, 15, 16, 17, 18, 19, 20, 10, 21, 35, 36, 37, 38, 39, 40, 41, 42, 43, 44, 45, 53, 54, 55, 56, 57, 58, 46, 47, 48, 49, 50, 51, 52] (by decide +kernel) (by decide +kernel)
set_option maxRecDepth 20000 in
theorem gX11_root_X11_isThere : GoodIn wsX11_root (wsV RX11 130 RX11 yX11_isThere wsX11_isThere) := goodIn_app (goodIn_of _ (by decide +kernel)) ggX11_root_X11_isThere
set_option maxRecDepth 20000 in
theorem ggX11_root_X11_bit : GoodIn wsX11_root wsX11_bit := goodIn_r _ [24] (by decide +kernel) (by decide +kernel)
set_option maxRecDepth 20000 in
theorem gX11_root_X11_bit : GoodIn wsX11_root (va_wsS RX11 256 yX11_bit wsX11_bit) := goodIn_app (goodIn_of _ (by decide +kernel)) ggX11_root_X11_bit
set_option maxRecDepth 20000 in
theorem ggX11_root_X11_lowest : GoodIn wsX11_root wsX11_lowest := goodIn_r _ [27, 28, 29, 30, 31, 32, 33, 34] (by decide +kernel) (by decide +kernel)
set_option maxRecDepth 20000 in
theorem gX11_root_X11_lowest : GoodIn wsX11_root (va_wsS RX11 220 yX11_lowest wsX11_lowest) := goodIn_app (goodIn_of _ (by decide +kernel)) ggX11_root_X11_lowest
set_option maxRecDepth 20000 in
theorem ggX11_through_X11_areEnds : GoodIn wsX11_through wsX11_areEnds := goodIn_r _ [11, 3, 4, 12, 13, 14, 15, 10, 16, 17, 18, 19, 20, 21, 22, 23, 24, 25, 26, 27, 28, 29, 30, 31, 32, 33, 34, 35, 36, 37, 38, 39, 135, 136, 137, 138, 139, 140, 141, 142, 143, 144, 145, 146, 147, 148, 149, 150, 151, 152, 160, 161, 162, 163, 164, 165] (by decide +kernel) (by decide +kernel)
set_option maxRecDepth 20000 in
theorem gX11_through_X11_areEnds : GoodIn wsX11_through (wsV RX11 203 RX11 yX11_areEnds wsX11_areEnds) := goodIn_app (goodIn_of _ (by decide +kernel)) ggX11_through_X11_areEnds
set_option maxRecDepth 20000 in
theorem ggX11_through_X11_isThere : GoodIn wsX11_through wsX11_isThere := goodIn_r _ [16, 3, 12, 17, 18, 19, 20, 21, 22, 23, 24, 25, 10, 26, 135, 136, 137, 138, 139, 140, 141, 142, 143, 144, 145, 160, 161, 162, 163, 164, 165, 146, 147, 148, 149, 150, 151, 152] (by decide +kernel) (by decide +kernel)
set_option maxRecDepth 20000 in
theorem gX11_through_X11_isThere : GoodIn wsX11_through (wsV RX11 130 RX11 yX11_isThere wsX11_isThere) := goodIn_app (goodIn_of _ (by decide +kernel)) ggX11_through_X11_isThere
set_option maxRecDepth 20000 in
theorem ggX11_through_X1_start : GoodIn wsX11_through wsX1_start := goodIn_r _ [44, 45, 46, 47, 48, 49, 50, 51, 52, 53, 54, 55, 56, 57, 58, 59, 60, 61, 62, 63, 64, 65, 66, 67, 68, 69, 25, 10, 26, 70, 71, 72, 30, 73, 74, 75, 76, 77, 78, 79, 80, 81, 153, 154, 155, 156, 157, 158, 159, 166, 167, 168, 169, 170, 171, 160, 161, 162, 163, 164, 165, 146, 147, 148, 149, 150, 151, 152] (by decide +kernel) (by decide +kernel)
set_option maxRecDepth 20000 in
theorem gX11_through_X1_start : GoodIn wsX11_through (wsV RX11 246 RX1 yX1_start wsX1_start) := goodIn_app (goodIn_of _ (by decide +kernel)) ggX11_through_X1_start
set_option maxRecDepth 20000 in
theorem ggX11_through_X1_pour : GoodIn wsX11_through wsX1_pour := goodIn_r _ [85, 45, 86, 87, 46, 88, 89, 90, 91, 92, 43, 93, 94, 95, 96, 97, 30, 98, 74, 75, 76, 39, 99, 10, 100, 101, 102, 103, 104, 105, 106, 107, 108, 109, 110, 21, 111, 112, 113, 25, 26, 114, 115, 116, 117, 118, 119, 120, 121, 122, 123, 124, 125, 153, 154, 155, 156, 157, 158, 159, 166, 167, 168, 169, 170, 171, 146, 147, 148, 149, 150, 151, 152, 160, 161, 162, 163, 164, 165] (by decide +kernel) (by decide +kernel)
set_option maxRecDepth 20000 in
theorem gX11_through_X1_pour : GoodIn wsX11_through (wsV RX11 249 RX1 yX1_pour wsX1_pour) := goodIn_app (goodIn_of _ (by decide +kernel)) ggX11_through_X1_pour
set_option maxRecDepth 20000 in
theorem ggX11_through_X1_countWays : GoodIn wsX11_through wsX1_countWays := goodIn_r _ [129, 45, 130, 86, 87, 88, 89, 94, 125, 47, 48, 49, 50, 51, 52, 53, 54, 55, 56, 57, 58, 59, 60, 61, 62, 63, 64, 65, 66, 67, 68, 69, 25, 10, 26, 70, 71, 72, 30, 73, 74, 75, 76, 77, 78, 79, 80, 81, 131, 132, 133, 43, 134, 95, 96, 97, 98, 39, 99, 100, 101, 102, 103, 104, 105, 106, 107, 153, 154, 155, 156, 157, 158, 159, 166, 167, 168, 169, 170, 171, 146, 147, 148, 149, 150, 151, 152, 160, 161, 162, 163, 164, 165] (by decide +kernel) (by decide +kernel)
set_option maxRecDepth 20000 in
theorem gX11_through_X1_countWays : GoodIn wsX11_through (wsV RX11 206 RX1 yX1_countWays wsX1_countWays) := goodIn_app (goodIn_of _ (by decide +kernel)) ggX11_through_X1_countWays
set_option maxRecDepth 20000 in
theorem ggX11_squares_X6_unpaired : GoodIn wsX11_squares wsX6_unpaired := goodIn_r _ [9, 10, 11, 12, 13, 134, 135, 136, 137, 138, 139] (by decide +kernel) (by decide +kernel)
set_option maxRecDepth 20000 in
theorem gX11_squares_X6_unpaired : GoodIn wsX11_squares (wsV RX11 232 RX6 yX6_unpaired wsX6_unpaired) := goodIn_app (goodIn_of _ (by decide +kernel)) ggX11_squares_X6_unpaired
set_option maxRecDepth 20000 in
theorem ggX11_squares_X11_isIn : GoodIn wsX11_squares wsX11_isIn := goodIn_r _ [17] (by decide +kernel) (by decide +kernel)
set_option maxRecDepth 20000 in
theorem gX11_squares_X11_isIn : GoodIn wsX11_squares (va_wsS RX11 168 yX11_isIn wsX11_isIn) := goodIn_app (goodIn_of _ (by decide +kernel)) ggX11_squares_X11_isIn
set_option maxRecDepth 20000 in
theorem ggX11_squares_X11_squaresFrom : GoodIn wsX11_squares wsX11_squaresFrom := goodIn_r _ [21, 2, 4, 1, 22, 23, 3, 24, 5, 6, 7, 8, 9, 10, 11, 12, 13, 25, 26, 27, 28, 29, 30, 31, 32, 33, 34, 35, 36, 37, 38, 39, 40, 41, 42, 43, 44, 45, 46, 47, 48, 49, 50, 51, 52, 53, 54, 15, 16, 17, 55, 56, 57, 58, 59, 60, 61, 62, 63, 64, 65, 66, 67, 68, 69, 70, 71, 72, 73, 74, 75, 76, 77, 78, 79, 80, 81, 82, 83, 84, 85, 86, 87, 88, 89, 90, 91, 92, 93, 94, 95, 96, 97, 98, 99, 100, 101, 102, 103, 104, 105, 106, 107, 108, 109, 110, 111, 112, 113, 114, 115, 14, 116, 117, 118, 119, 120, 121, 122, 123, 124, 125, 126, 127, 128, 129, 130, 131, 132, 133, 140, 141, 142, 143, 144, 145, 146, 134, 135, 136, 137, 138, 139, 147, 148, 149, 150, 151, 152] (by decide +kernel) (by decide +kernel)
set_option maxRecDepth 20000 in
theorem gX11_squares_X11_squaresFrom : GoodIn wsX11_squares (wsV RX11 263 RX11 yX11_squaresFrom wsX11_squaresFrom) := goodIn_app (goodIn_of _ (by decide +kernel)) ggX11_squares_X11_squaresFrom
set_option maxRecDepth 20000 in
theorem ggX11_betti_X11_isDim : GoodIn wsX11_betti wsX11_isDim := goodIn_r _ [5] (by decide +kernel) (by decide +kernel)
set_option maxRecDepth 20000 in
theorem gX11_betti_X11_isDim : GoodIn wsX11_betti (va_wsS RX11 229 yX11_isDim wsX11_isDim) := goodIn_app (goodIn_of _ (by decide +kernel)) ggX11_betti_X11_isDim
set_option maxRecDepth 20000 in
theorem ggX11_betti_X11_basis : GoodIn wsX11_betti wsX11_basis := goodIn_r _ [9, 10, 11, 12, 13, 14, 15, 16, 17, 18, 19, 20, 174, 175, 176, 177, 178, 179, 180, 181, 182, 183, 184, 185, 186, 187, 188, 189, 190] (by decide +kernel) (by decide +kernel)
set_option maxRecDepth 20000 in
theorem gX11_betti_X11_basis : GoodIn wsX11_betti (wsV RX11 266 RX11 yX11_basis wsX11_basis) := goodIn_app (goodIn_of _ (by decide +kernel)) ggX11_betti_X11_basis
set_option maxRecDepth 20000 in
theorem ggX11_betti_X0_bettiOf : GoodIn wsX11_betti wsX0_bettiOf := goodIn_r _ [25, 26, 27, 28, 29, 30, 31, 32, 33, 34, 35, 36, 37, 24, 38, 39, 40, 41, 42, 43, 44, 45, 46, 47, 48, 49, 50, 51, 52, 53, 54, 4, 55, 56, 57, 58, 59, 60, 61, 62, 63, 64, 65, 66, 67, 68, 69, 70, 71, 72, 73, 74, 75, 76, 77, 78, 79, 80, 81, 82, 83, 84, 85, 86, 87, 88, 15, 89, 90, 91, 92, 93, 94, 95, 96, 97, 98, 99, 100, 101, 102, 103, 104, 105, 106, 107, 108, 109, 110, 111, 112, 113, 114, 20, 115, 116, 117, 118, 119, 120, 121, 122, 123, 124, 125, 126, 127, 128, 129, 130, 131, 132, 133, 134, 135, 136, 137, 138, 139, 140, 141, 142, 143, 144, 145, 146, 147, 148, 149, 150, 151, 152, 153, 154, 155, 156, 157, 158, 159, 160, 161, 162, 163, 164, 165, 166, 167, 168, 169, 170, 171, 172, 173, 191, 192, 193, 194, 195, 196, 197, 198, 199, 200, 201, 202, 203, 204, 205, 206, 207, 208, 209, 210, 211, 212, 213, 214, 215, 216, 217, 218, 219, 220, 185, 186, 187, 188, 189, 190] (by decide +kernel) (by decide +kernel)
set_option maxRecDepth 20000 in
theorem gX11_betti_X0_bettiOf : GoodIn wsX11_betti (wsV RX11 269 RX0 yX0_bettiOf wsX0_bettiOf) := goodIn_app (goodIn_of _ (by decide +kernel)) ggX11_betti_X0_bettiOf
set_option maxRecDepth 20000 in
theorem ggX11_torsion_X11_isDim : GoodIn wsX11_torsion wsX11_isDim := goodIn_r _ [8] (by decide +kernel) (by decide +kernel)
set_option maxRecDepth 20000 in
theorem gX11_torsion_X11_isDim : GoodIn wsX11_torsion (va_wsS RX11 229 yX11_isDim wsX11_isDim) := goodIn_app (goodIn_of _ (by decide +kernel)) ggX11_torsion_X11_isDim
set_option maxRecDepth 20000 in
theorem ggX11_torsion_X11_basis : GoodIn wsX11_torsion wsX11_basis := goodIn_r _ [12, 13, 14, 15, 16, 17, 18, 19, 20, 21, 22, 23, 234, 235, 236, 237, 238, 239, 240, 241, 242, 243, 244, 249, 250, 251, 252, 253, 254] (by decide +kernel) (by decide +kernel)
set_option maxRecDepth 20000 in
theorem gX11_torsion_X11_basis : GoodIn wsX11_torsion (wsV RX11 266 RX11 yX11_basis wsX11_basis) := goodIn_app (goodIn_of _ (by decide +kernel)) ggX11_torsion_X11_basis
set_option maxRecDepth 20000 in
theorem ggX11_torsion_X0_torsionsOf : GoodIn wsX11_torsion wsX0_torsionsOf := goodIn_r _ [28, 29, 30, 31, 32, 33, 34, 35, 27, 36, 37, 38, 39, 40, 41, 42, 43, 44, 45, 46, 47, 48, 49, 50, 51, 52, 53, 54, 55, 56, 57, 58, 59, 60, 7, 61, 62, 63, 64, 65, 66, 67, 68, 69, 70, 71, 72, 73, 74, 75, 76, 77, 78, 79, 80, 81, 82, 83, 84, 85, 86, 87, 88, 89, 90, 91, 92, 93, 94, 18, 95, 96, 97, 98, 99, 100, 101, 102, 103, 104, 105, 106, 107, 108, 109, 110, 111, 112, 113, 114, 115, 116, 117, 118, 119, 120, 23, 121, 122, 123, 124, 125, 126, 127, 128, 129, 130, 131, 132, 133, 134, 135, 136, 137, 138, 139, 140, 141, 142, 143, 144, 145, 146, 147, 148, 149, 150, 151, 152, 153, 154, 155, 156, 157, 158, 159, 160, 161, 162, 163, 164, 165, 166, 167, 168, 169, 170, 171, 172, 173, 174, 175, 176, 177, 178, 179, 180, 181, 182, 183, 184, 185, 186, 187, 188, 189, 190, 191, 192, 193, 194, 195, 196, 197, 198, 199, 200, 201, 202, 203, 204, 205, 206, 207, 208, 209, 210, 211, 212, 213, 214, 215, 216, 217, 218, 219, 220, 221, 222, 223, 224, 225, 226, 227, 228, 229, 230, 231, 232, 233, 245, 246, 247, 248, 255, 256, 257, 258, 259, 260, 261, 262, 263, 264, 265, 266, 267, 268, 269, 270, 271, 272, 273, 274, 275, 276, 277, 278, 279, 280, 249, 250, 251, 252, 253, 254] (by decide +kernel) (by decide +kernel)
set_option maxRecDepth 20000 in
theorem gX11_torsion_X0_torsionsOf : GoodIn wsX11_torsion (wsV RX11 273 RX0 yX0_torsionsOf wsX0_torsionsOf) := goodIn_app (goodIn_of _ (by decide +kernel)) ggX11_torsion_X0_torsionsOf
set_option maxRecDepth 20000 in
theorem ggX11_slack_X11_isDim : GoodIn wsX11_slack wsX11_isDim := goodIn_r _ [10] (by decide +kernel) (by decide +kernel)
set_option maxRecDepth 20000 in
theorem gX11_slack_X11_isDim : GoodIn wsX11_slack (va_wsS RX11 229 yX11_isDim wsX11_isDim) := goodIn_app (goodIn_of _ (by decide +kernel)) ggX11_slack_X11_isDim
set_option maxRecDepth 20000 in
theorem ggX11_slack_X6_unpaired : GoodIn wsX11_slack wsX6_unpaired := goodIn_r _ [15, 16, 17, 18, 19, 191, 192, 193, 194, 195, 196] (by decide +kernel) (by decide +kernel)
set_option maxRecDepth 20000 in
theorem gX11_slack_X6_unpaired : GoodIn wsX11_slack (wsV RX11 232 RX6 yX6_unpaired wsX6_unpaired) := goodIn_app (goodIn_of _ (by decide +kernel)) ggX11_slack_X6_unpaired
set_option maxRecDepth 20000 in
theorem ggX11_slack_J13_bitCount_95d88 : GoodIn wsX11_slack wsJ13_bitCount_95d88 := goodIn_r _ [23, 24, 25, 26] (by decide +kernel) (by decide +kernel)
set_option maxRecDepth 20000 in
theorem gX11_slack_J13_bitCount_95d88 : GoodIn wsX11_slack (va_wsS RX11 151 yJ13_bitCount_95d88 wsJ13_bitCount_95d88) := goodIn_app (goodIn_of _ (by decide +kernel)) ggX11_slack_J13_bitCount_95d88
set_option maxRecDepth 20000 in
theorem ggX11_slack_X0_bettiOf : GoodIn wsX11_slack wsX0_bettiOf := goodIn_r _ [31, 32, 33, 34, 21, 22, 23, 24, 25, 26, 35, 36, 37, 30, 38, 39, 40, 41, 42, 43, 44, 45, 46, 47, 48, 49, 50, 51, 52, 53, 54, 9, 55, 56, 57, 58, 59, 60, 61, 62, 63, 64, 65, 66, 67, 68, 69, 70, 71, 72, 73, 74, 75, 76, 77, 78, 79, 80, 81, 82, 83, 84, 85, 86, 87, 88, 14, 89, 90, 91, 92, 93, 94, 95, 96, 97, 98, 99, 100, 101, 102, 103, 104, 105, 106, 107, 108, 109, 110, 111, 112, 113, 114, 19, 115, 116, 20, 117, 118, 119, 120, 121, 122, 123, 124, 125, 126, 127, 128, 129, 130, 131, 132, 133, 134, 135, 136, 137, 138, 139, 140, 141, 142, 143, 144, 145, 146, 147, 148, 149, 150, 151, 152, 153, 154, 155, 156, 157, 158, 159, 160, 161, 162, 163, 164, 165, 166, 167, 168, 169, 170, 171, 172, 197, 198, 199, 200, 184, 185, 186, 187, 188, 189, 190, 201, 202, 203, 204, 205, 206, 207, 208, 209, 210, 211, 212, 213, 214, 215, 216, 217, 218, 219, 191, 192, 193, 194, 195, 196] (by decide +kernel) (by decide +kernel)
set_option maxRecDepth 20000 in
theorem gX11_slack_X0_bettiOf : GoodIn wsX11_slack (wsV RX11 269 RX0 yX0_bettiOf wsX0_bettiOf) := goodIn_app (goodIn_of _ (by decide +kernel)) ggX11_slack_X0_bettiOf
set_option maxRecDepth 20000 in
theorem ggX11_free_X11_isThere : GoodIn wsX11_free wsX11_isThere := goodIn_r _ [7, 1, 8, 9, 10, 11, 12, 13, 14, 15, 16, 17, 6, 18, 43, 44, 45, 46, 47, 48, 49, 50, 51, 52, 53, 61, 62, 63, 64, 65, 66, 54, 55, 56, 57, 58, 59, 60] (by decide +kernel) (by decide +kernel)
set_option maxRecDepth 20000 in
theorem gX11_free_X11_isThere : GoodIn wsX11_free (wsV RX11 130 RX11 yX11_isThere wsX11_isThere) := goodIn_app (goodIn_of _ (by decide +kernel)) ggX11_free_X11_isThere
set_option maxRecDepth 20000 in
theorem ggX11_free_X11_isFree : GoodIn wsX11_free wsX11_isFree := goodIn_r _ [22, 1, 23, 8, 9, 24, 25, 26, 27, 28, 29, 30, 31, 32, 6, 33, 43, 44, 45, 46, 47, 48, 49, 50, 51, 52, 53, 54, 55, 56, 57, 58, 59, 60, 61, 62, 63, 64, 65, 66] (by decide +kernel) (by decide +kernel)
set_option maxRecDepth 20000 in
theorem gX11_free_X11_isFree : GoodIn wsX11_free (wsV RX11 217 RX11 yX11_isFree wsX11_isFree) := goodIn_app (goodIn_of _ (by decide +kernel)) ggX11_free_X11_isFree
set_option maxRecDepth 20000 in
theorem ggX11_free_X11_bit : GoodIn wsX11_free wsX11_bit := goodIn_r _ [36] (by decide +kernel) (by decide +kernel)
set_option maxRecDepth 20000 in
theorem gX11_free_X11_bit : GoodIn wsX11_free (va_wsS RX11 256 yX11_bit wsX11_bit) := goodIn_app (goodIn_of _ (by decide +kernel)) ggX11_free_X11_bit
set_option maxRecDepth 20000 in
theorem ggX11_free_X11_listed : GoodIn wsX11_free wsX11_listed := goodIn_r _ [39, 24, 25, 26, 27, 28, 29, 30, 40, 41, 6, 42, 31, 32, 33] (by decide +kernel) (by decide +kernel)
set_option maxRecDepth 20000 in
theorem gX11_free_X11_listed : GoodIn wsX11_free (va_wsS RX11 238 yX11_listed wsX11_listed) := goodIn_app (goodIn_of _ (by decide +kernel)) ggX11_free_X11_listed
set_option maxRecDepth 20000 in
theorem ggX11_facet_X11_isThere : GoodIn wsX11_facet wsX11_isThere := goodIn_r _ [10, 1, 4, 5, 11, 12, 13, 14, 15, 16, 17, 18, 9, 19, 39, 40, 41, 42, 43, 44, 45, 46, 47, 48, 49, 57, 58, 59, 60, 61, 62, 50, 51, 52, 53, 54, 55, 56] (by decide +kernel) (by decide +kernel)
set_option maxRecDepth 20000 in
theorem gX11_facet_X11_isThere : GoodIn wsX11_facet (wsV RX11 130 RX11 yX11_isThere wsX11_isThere) := goodIn_app (goodIn_of _ (by decide +kernel)) ggX11_facet_X11_isThere
set_option maxRecDepth 20000 in
theorem ggX11_facet_X11_bit : GoodIn wsX11_facet wsX11_bit := goodIn_r _ [22] (by decide +kernel) (by decide +kernel)
set_option maxRecDepth 20000 in
theorem gX11_facet_X11_bit : GoodIn wsX11_facet (va_wsS RX11 256 yX11_bit wsX11_bit) := goodIn_app (goodIn_of _ (by decide +kernel)) ggX11_facet_X11_bit
set_option maxRecDepth 20000 in
theorem ggX11_facet_X11_listed : GoodIn wsX11_facet wsX11_listed := goodIn_r _ [25, 26, 27, 28, 29, 30, 31, 32, 33, 34, 9, 35, 36, 37, 38] (by decide +kernel) (by decide +kernel)
set_option maxRecDepth 20000 in
theorem gX11_facet_X11_listed : GoodIn wsX11_facet (va_wsS RX11 238 yX11_listed wsX11_listed) := goodIn_app (goodIn_of _ (by decide +kernel)) ggX11_facet_X11_listed
set_option maxRecDepth 20000 in
theorem ggX11_link_X11_isThere : GoodIn wsX11_link wsX11_isThere := goodIn_r _ [7, 2, 8, 9, 10, 11, 12, 13, 14, 15, 16, 17, 6, 18, 46, 47, 48, 49, 50, 51, 52, 53, 54, 55, 56, 57, 58, 59, 60, 61, 62, 63, 64, 65, 66, 67, 68, 69] (by decide +kernel) (by decide +kernel)
set_option maxRecDepth 20000 in
theorem gX11_link_X11_isThere : GoodIn wsX11_link (wsV RX11 130 RX11 yX11_isThere wsX11_isThere) := goodIn_app (goodIn_of _ (by decide +kernel)) ggX11_link_X11_isThere
set_option maxRecDepth 20000 in
theorem ggX11_link_X11_linkOf : GoodIn wsX11_link wsX11_linkOf := goodIn_r _ [22, 2, 23, 24, 25, 26, 27, 6, 28, 29, 3, 4, 5, 7, 8, 9, 10, 11, 12, 13, 14, 15, 16, 17, 18, 30, 31, 32, 46, 47, 48, 49, 50, 51, 52, 53, 54, 55, 56, 63, 64, 65, 66, 67, 68, 69, 57, 58, 59, 60, 61, 62] (by decide +kernel) (by decide +kernel)
set_option maxRecDepth 20000 in
theorem gX11_link_X11_linkOf : GoodIn wsX11_link (wsV RX11 281 RX11 yX11_linkOf wsX11_linkOf) := goodIn_app (goodIn_of _ (by decide +kernel)) ggX11_link_X11_linkOf
set_option maxRecDepth 20000 in
theorem ggX11_link_J13_bitCount_95d88 : GoodIn wsX11_link wsJ13_bitCount_95d88 := goodIn_r _ [36, 37, 38, 39] (by decide +kernel) (by decide +kernel)
set_option maxRecDepth 20000 in
theorem gX11_link_J13_bitCount_95d88 : GoodIn wsX11_link (va_wsS RX11 151 yJ13_bitCount_95d88 wsJ13_bitCount_95d88) := goodIn_app (goodIn_of _ (by decide +kernel)) ggX11_link_J13_bitCount_95d88
set_option maxRecDepth 20000 in
theorem ggX11_link_X9_eulerOf : GoodIn wsX11_link wsX9_eulerOf := goodIn_r _ [43, 44, 45, 34, 35, 36, 37, 38, 39, 63, 64, 65, 66, 67, 68, 69] (by decide +kernel) (by decide +kernel)
set_option maxRecDepth 20000 in
theorem gX11_link_X9_eulerOf : GoodIn wsX11_link (wsV RX11 284 RX9 yX9_eulerOf wsX9_eulerOf) := goodIn_app (goodIn_of _ (by decide +kernel)) ggX11_link_X9_eulerOf
set_option maxRecDepth 20000 in
theorem ggX11_room_X11_isDim : GoodIn wsX11_room wsX11_isDim := goodIn_r _ [9] (by decide +kernel) (by decide +kernel)
set_option maxRecDepth 20000 in
theorem gX11_room_X11_isDim : GoodIn wsX11_room (va_wsS RX11 229 yX11_isDim wsX11_isDim) := goodIn_app (goodIn_of _ (by decide +kernel)) ggX11_room_X11_isDim
set_option maxRecDepth 20000 in
theorem ggX11_room_X6_unpaired : GoodIn wsX11_room wsX6_unpaired := goodIn_r _ [14, 15, 16, 17, 18, 62, 63, 64, 65, 66, 67] (by decide +kernel) (by decide +kernel)
set_option maxRecDepth 20000 in
theorem gX11_room_X6_unpaired : GoodIn wsX11_room (wsV RX11 232 RX6 yX6_unpaired wsX6_unpaired) := goodIn_app (goodIn_of _ (by decide +kernel)) ggX11_room_X6_unpaired
set_option maxRecDepth 20000 in
theorem ggX11_room_X11_isIn : GoodIn wsX11_room wsX11_isIn := goodIn_r _ [21] (by decide +kernel) (by decide +kernel)
set_option maxRecDepth 20000 in
theorem gX11_room_X11_isIn : GoodIn wsX11_room (va_wsS RX11 168 yX11_isIn wsX11_isIn) := goodIn_app (goodIn_of _ (by decide +kernel)) ggX11_room_X11_isIn
set_option maxRecDepth 20000 in
theorem ggX11_room_X11_roomAbove : GoodIn wsX11_room wsX11_roomAbove := goodIn_r _ [25, 2, 3, 1, 19, 20, 8, 21, 26, 27, 28, 13, 29, 30, 31, 18, 16, 32, 33, 34, 35, 36, 37, 38, 39, 40, 41, 42, 43, 44, 45, 46, 47, 48, 49, 50, 51, 52, 53, 54, 55, 56, 57, 58, 59, 60, 61, 62, 63, 64, 65, 66, 67] (by decide +kernel) (by decide +kernel)
set_option maxRecDepth 20000 in
theorem gX11_room_X11_roomAbove : GoodIn wsX11_room (wsV RX11 287 RX11 yX11_roomAbove wsX11_roomAbove) := goodIn_app (goodIn_of _ (by decide +kernel)) ggX11_room_X11_roomAbove
set_option maxRecDepth 20000 in
theorem ggX11_drawn_X11_peelByDraws : GoodIn wsX11_drawn wsX11_peelByDraws := goodIn_r _ [12, 13, 14, 15, 16, 17, 18, 19, 20, 21, 22, 23, 24, 25, 26, 27, 28, 29, 30, 31, 32, 11, 33, 34, 35, 36, 37, 38, 39, 40, 41, 42, 43, 44, 45, 46, 47, 3, 48, 49, 50, 51, 52, 53, 54, 55, 56, 57, 58, 59, 60, 61, 62, 63, 64, 65, 66, 67, 68, 69, 70, 71, 72, 73, 74, 75, 76, 77, 78, 79, 80, 81, 82, 83, 84, 85, 86, 87, 88, 96, 97, 98, 99, 100, 101, 102, 103, 104, 89, 90, 91, 92, 93, 94, 95] (by decide +kernel) (by decide +kernel)
set_option maxRecDepth 20000 in
theorem gX11_drawn_X11_peelByDraws : GoodIn wsX11_drawn (wsV RX11 294 RX11 yX11_peelByDraws wsX11_peelByDraws) := goodIn_app (goodIn_of _ (by decide +kernel)) ggX11_drawn_X11_peelByDraws
set_option maxRecDepth 20000 in
theorem ggX11_level_X2_upTo : GoodIn wsX11_level wsX2_upTo := goodIn_r _ [7, 8, 9, 10, 11, 12, 13, 6, 14, 15, 16, 17, 18, 19, 20, 21, 22, 23, 24, 25, 26, 27, 28, 29, 30, 31, 32, 33, 34, 35, 36, 37, 38, 39, 40, 41, 42, 68, 69, 70, 71, 72, 73, 74, 75, 76, 77, 78, 79, 80, 81, 82, 83, 84, 85, 86] (by decide +kernel) (by decide +kernel)
set_option maxRecDepth 20000 in
theorem gX11_level_X2_upTo : GoodIn wsX11_level (wsV RX11 302 RX2 yX2_upTo wsX2_upTo) := goodIn_app (goodIn_of _ (by decide +kernel)) ggX11_level_X2_upTo
set_option maxRecDepth 20000 in
theorem ggX11_level_J13_bitCount_95d88 : GoodIn wsX11_level wsJ13_bitCount_95d88 := goodIn_r _ [46, 47, 48, 49] (by decide +kernel) (by decide +kernel)
set_option maxRecDepth 20000 in
theorem gX11_level_J13_bitCount_95d88 : GoodIn wsX11_level (va_wsS RX11 151 yJ13_bitCount_95d88 wsJ13_bitCount_95d88) := goodIn_app (goodIn_of _ (by decide +kernel)) ggX11_level_J13_bitCount_95d88
set_option maxRecDepth 20000 in
theorem ggX11_level_X9_eulerOf : GoodIn wsX11_level wsX9_eulerOf := goodIn_r _ [54, 55, 56, 44, 45, 46, 47, 48, 49, 80, 81, 82, 83, 84, 85, 86] (by decide +kernel) (by decide +kernel)
set_option maxRecDepth 20000 in
theorem gX11_level_X9_eulerOf : GoodIn wsX11_level (wsV RX11 284 RX9 yX9_eulerOf wsX9_eulerOf) := goodIn_app (goodIn_of _ (by decide +kernel)) ggX11_level_X9_eulerOf
set_option maxRecDepth 20000 in
theorem ggX11_levelBetti_X11_isDim : GoodIn wsX11_levelBetti wsX11_isDim := goodIn_r _ [7] (by decide +kernel) (by decide +kernel)
set_option maxRecDepth 20000 in
theorem gX11_levelBetti_X11_isDim : GoodIn wsX11_levelBetti (va_wsS RX11 229 yX11_isDim wsX11_isDim) := goodIn_app (goodIn_of _ (by decide +kernel)) ggX11_levelBetti_X11_isDim
set_option maxRecDepth 20000 in
theorem ggX11_levelBetti_X2_upTo : GoodIn wsX11_levelBetti wsX2_upTo := goodIn_r _ [12, 13, 14, 15, 16, 17, 18, 11, 19, 20, 21, 22, 23, 24, 25, 26, 27, 28, 29, 30, 31, 32, 33, 34, 35, 6, 36, 37, 38, 39, 40, 41, 42, 43, 44, 45, 46, 184, 185, 186, 187, 188, 189, 190, 191, 192, 193, 194, 195, 196, 197, 198, 199, 200, 201, 202] (by decide +kernel) (by decide +kernel)
set_option maxRecDepth 20000 in
theorem gX11_levelBetti_X2_upTo : GoodIn wsX11_levelBetti (wsV RX11 302 RX2 yX2_upTo wsX2_upTo) := goodIn_app (goodIn_of _ (by decide +kernel)) ggX11_levelBetti_X2_upTo
set_option maxRecDepth 20000 in
theorem ggX11_levelBetti_X9_withFaces : GoodIn wsX11_levelBetti wsX9_withFaces := goodIn_r _ [51, 52, 53, 35, 6, 36, 196, 197, 198, 199, 200, 201, 202] (by decide +kernel) (by decide +kernel)
set_option maxRecDepth 20000 in
theorem gX11_levelBetti_X9_withFaces : GoodIn wsX11_levelBetti (wsV RX11 305 RX9 yX9_withFaces wsX9_withFaces) := goodIn_app (goodIn_of _ (by decide +kernel)) ggX11_levelBetti_X9_withFaces
set_option maxRecDepth 20000 in
theorem ggX11_levelBetti_X0_bettiOf : GoodIn wsX11_levelBetti wsX0_bettiOf := goodIn_r _ [58, 59, 60, 61, 62, 63, 64, 65, 66, 67, 68, 69, 70, 57, 71, 72, 73, 74, 75, 76, 77, 78, 79, 80, 81, 82, 83, 84, 85, 86, 35, 6, 36, 87, 88, 89, 90, 91, 92, 93, 94, 17, 18, 11, 19, 20, 21, 22, 14, 13, 23, 24, 25, 26, 27, 28, 29, 30, 31, 32, 33, 34, 15, 37, 38, 39, 40, 41, 42, 43, 44, 45, 46, 95, 96, 97, 98, 99, 100, 101, 102, 103, 104, 105, 106, 107, 108, 109, 110, 111, 112, 113, 114, 115, 116, 117, 118, 119, 120, 121, 50, 122, 53, 123, 124, 125, 126, 127, 128, 129, 130, 131, 132, 133, 134, 135, 136, 137, 138, 139, 140, 141, 142, 143, 144, 145, 146, 147, 148, 149, 150, 151, 152, 153, 154, 155, 156, 157, 158, 159, 160, 161, 162, 163, 164, 165, 166, 167, 168, 169, 170, 171, 172, 203, 204, 205, 206, 196, 197, 198, 199, 200, 201, 202, 207, 208, 209, 210, 211, 212, 213, 214, 215, 216, 217, 218, 219, 184, 185, 186, 187, 188, 189, 190, 191, 192, 193, 194, 195] (by decide +kernel) (by decide +kernel)
set_option maxRecDepth 20000 in
theorem gX11_levelBetti_X0_bettiOf : GoodIn wsX11_levelBetti (wsV RX11 269 RX0 yX0_bettiOf wsX0_bettiOf) := goodIn_app (goodIn_of _ (by decide +kernel)) ggX11_levelBetti_X0_bettiOf
set_option maxRecDepth 20000 in
theorem ggX11_keep_X4_store : GoodIn wsX11_keep wsX4_store := goodIn_r _ [9, 10, 11, 12, 13, 14, 15, 16, 17, 18, 19, 51, 52, 53, 54, 55, 56, 57, 58] (by decide +kernel) (by decide +kernel)
set_option maxRecDepth 20000 in
theorem gX11_keep_X4_store : GoodIn wsX11_keep (wsV RX11 309 RX4 yX4_store wsX4_store) := goodIn_app (goodIn_of _ (by decide +kernel)) ggX11_keep_X4_store
set_option maxRecDepth 20000 in
theorem ggX11_keep_X6_howMany : GoodIn wsX11_keep wsX6_howMany := goodIn_r _ [24, 25, 26, 27, 28, 29, 30, 31, 32, 51, 52, 53, 54, 55, 56] (by decide +kernel) (by decide +kernel)
set_option maxRecDepth 20000 in
theorem gX11_keep_X6_howMany : GoodIn wsX11_keep (wsV RX11 313 RX6 yX6_howMany wsX6_howMany) := goodIn_app (goodIn_of _ (by decide +kernel)) ggX11_keep_X6_howMany
set_option maxRecDepth 20000 in
theorem ggX11_same_X11_isIn : GoodIn wsX11_same wsX11_isIn := goodIn_r _ [7] (by decide +kernel) (by decide +kernel)
set_option maxRecDepth 20000 in
theorem gX11_same_X11_isIn : GoodIn wsX11_same (va_wsS RX11 168 yX11_isIn wsX11_isIn) := goodIn_app (goodIn_of _ (by decide +kernel)) ggX11_same_X11_isIn
set_option maxRecDepth 20000 in
theorem ggX11_same_X4_shared : GoodIn wsX11_same wsX4_shared := goodIn_r _ [12, 13, 14, 28, 29, 30, 31, 32, 33, 26, 27] (by decide +kernel) (by decide +kernel)
set_option maxRecDepth 20000 in
theorem gX11_same_X4_shared : GoodIn wsX11_same (wsV RX11 319 RX4 yX4_shared wsX4_shared) := goodIn_app (goodIn_of _ (by decide +kernel)) ggX11_same_X4_shared
set_option maxRecDepth 20000 in
theorem ggX11_count_J13_bitCount_95d88 : GoodIn wsX11_count wsJ13_bitCount_95d88 := goodIn_r _ [13, 14, 15, 16] (by decide +kernel) (by decide +kernel)
set_option maxRecDepth 20000 in
theorem gX11_count_J13_bitCount_95d88 : GoodIn wsX11_count (va_wsS RX11 151 yJ13_bitCount_95d88 wsJ13_bitCount_95d88) := goodIn_app (goodIn_of _ (by decide +kernel)) ggX11_count_J13_bitCount_95d88
set_option maxRecDepth 20000 in
theorem ggX11_count_X9_greatestDim : GoodIn wsX11_count wsX9_greatestDim := goodIn_r _ [21, 22, 73, 74, 75, 76, 77, 78, 79] (by decide +kernel) (by decide +kernel)
set_option maxRecDepth 20000 in
theorem gX11_count_X9_greatestDim : GoodIn wsX11_count (wsV RX11 323 RX9 yX9_greatestDim wsX9_greatestDim) := goodIn_app (goodIn_of _ (by decide +kernel)) ggX11_count_X9_greatestDim
set_option maxRecDepth 20000 in
theorem ggX11_count_X6_howMany : GoodIn wsX11_count wsX6_howMany := goodIn_r _ [27, 28, 29, 11, 12, 13, 14, 15, 16, 80, 81, 82, 83, 84, 85] (by decide +kernel) (by decide +kernel)
set_option maxRecDepth 20000 in
theorem gX11_count_X6_howMany : GoodIn wsX11_count (wsV RX11 313 RX6 yX6_howMany wsX6_howMany) := goodIn_app (goodIn_of _ (by decide +kernel)) ggX11_count_X6_howMany
set_option maxRecDepth 20000 in
theorem ggX11_count_X11_criticalOnes : GoodIn wsX11_count wsX11_criticalOnes := goodIn_r _ [34, 3, 35, 36, 37, 26, 38, 39, 28, 40, 41, 10, 11, 12, 13, 14, 15, 16, 62, 63, 64, 65, 66, 67, 68, 69, 70, 71, 72, 80, 81, 82, 83, 84, 85] (by decide +kernel) (by decide +kernel)
set_option maxRecDepth 20000 in
theorem gX11_count_X11_criticalOnes : GoodIn wsX11_count (wsV RX11 187 RX11 yX11_criticalOnes wsX11_criticalOnes) := goodIn_app (goodIn_of _ (by decide +kernel)) ggX11_count_X11_criticalOnes
set_option maxRecDepth 20000 in
theorem ggX11_count_X9_eulerOf : GoodIn wsX11_count wsX9_eulerOf := goodIn_r _ [45, 22, 46, 11, 12, 13, 14, 15, 16, 73, 74, 75, 76, 77, 78, 79] (by decide +kernel) (by decide +kernel)
set_option maxRecDepth 20000 in
theorem gX11_count_X9_eulerOf : GoodIn wsX11_count (wsV RX11 284 RX9 yX9_eulerOf wsX9_eulerOf) := goodIn_app (goodIn_of _ (by decide +kernel)) ggX11_count_X9_eulerOf
set_option maxRecDepth 20000 in
theorem ggX11_count_X9_partsOf : GoodIn wsX11_count wsX9_partsOf := goodIn_r _ [50, 51, 52, 33, 53, 10, 11, 12, 13, 14, 15, 16, 54, 55, 56, 20, 57, 58, 59, 60, 61, 73, 74, 75, 76, 77, 78, 79] (by decide +kernel) (by decide +kernel)
set_option maxRecDepth 20000 in
theorem gX11_count_X9_partsOf : GoodIn wsX11_count (wsV RX11 326 RX9 yX9_partsOf wsX9_partsOf) := goodIn_app (goodIn_of _ (by decide +kernel)) ggX11_count_X9_partsOf
set_option maxRecDepth 20000 in
theorem ggX11_lowest_J13_bitCount_95d88 : GoodIn wsX11_lowest wsJ13_bitCount_95d88 := goodIn_r _ [4, 5, 6, 7] (by decide +kernel) (by decide +kernel)
set_option maxRecDepth 20000 in
theorem gX11_lowest_J13_bitCount_95d88 : GoodIn wsX11_lowest (va_wsS RX11 151 yJ13_bitCount_95d88 wsJ13_bitCount_95d88) := goodIn_app (goodIn_of _ (by decide +kernel)) ggX11_lowest_J13_bitCount_95d88
set_option maxRecDepth 20000 in
theorem ggX11_nth_X11_lowest : GoodIn wsX11_nth wsX11_lowest := goodIn_r _ [4, 5, 6, 7, 8, 9, 10, 11] (by decide +kernel) (by decide +kernel)
set_option maxRecDepth 20000 in
theorem gX11_nth_X11_lowest : GoodIn wsX11_nth (va_wsS RX11 220 yX11_lowest wsX11_lowest) := goodIn_app (goodIn_of _ (by decide +kernel)) ggX11_nth_X11_lowest
set_option maxRecDepth 20000 in
theorem ggX11_listed_J13_bitCount_95d88 : GoodIn wsX11_listed wsJ13_bitCount_95d88 := goodIn_r _ [4, 5, 6, 7] (by decide +kernel) (by decide +kernel)
set_option maxRecDepth 20000 in
theorem gX11_listed_J13_bitCount_95d88 : GoodIn wsX11_listed (va_wsS RX11 151 yJ13_bitCount_95d88 wsJ13_bitCount_95d88) := goodIn_app (goodIn_of _ (by decide +kernel)) ggX11_listed_J13_bitCount_95d88
set_option maxRecDepth 20000 in
theorem ggX11_listed_X11_nth : GoodIn wsX11_listed wsX11_nth := goodIn_r _ [11, 12, 13, 10, 14, 1, 2, 3, 4, 5, 6, 7] (by decide +kernel) (by decide +kernel)
set_option maxRecDepth 20000 in
theorem gX11_listed_X11_nth : GoodIn wsX11_listed (va_wsS RX11 329 yX11_nth wsX11_nth) := goodIn_app (goodIn_of _ (by decide +kernel)) ggX11_listed_X11_nth
set_option maxRecDepth 20000 in
theorem ggX11_criticalOnes_X6_unpaired : GoodIn wsX11_criticalOnes wsX6_unpaired := goodIn_r _ [6, 7, 8, 9, 10, 29, 30, 31, 32, 33, 34] (by decide +kernel) (by decide +kernel)
set_option maxRecDepth 20000 in
theorem gX11_criticalOnes_X6_unpaired : GoodIn wsX11_criticalOnes (wsV RX11 232 RX6 yX6_unpaired wsX6_unpaired) := goodIn_app (goodIn_of _ (by decide +kernel)) ggX11_criticalOnes_X6_unpaired
set_option maxRecDepth 20000 in
theorem ggX11_criticalOnes_J13_bitCount_95d88 : GoodIn wsX11_criticalOnes wsJ13_bitCount_95d88 := goodIn_r _ [14, 15, 16, 17] (by decide +kernel) (by decide +kernel)
set_option maxRecDepth 20000 in
theorem gX11_criticalOnes_J13_bitCount_95d88 : GoodIn wsX11_criticalOnes (va_wsS RX11 151 yJ13_bitCount_95d88 wsJ13_bitCount_95d88) := goodIn_app (goodIn_of _ (by decide +kernel)) ggX11_criticalOnes_J13_bitCount_95d88
set_option maxRecDepth 20000 in
theorem ggX11_basis_X6_unpaired : GoodIn wsX11_basis wsX6_unpaired := goodIn_r _ [7, 8, 9, 10, 11, 23, 24, 25, 26, 27, 28] (by decide +kernel) (by decide +kernel)
set_option maxRecDepth 20000 in
theorem gX11_basis_X6_unpaired : GoodIn wsX11_basis (wsV RX11 232 RX6 yX6_unpaired wsX6_unpaired) := goodIn_app (goodIn_of _ (by decide +kernel)) ggX11_basis_X6_unpaired
set_option maxRecDepth 20000 in
theorem ggX11_isThere_X9_has : GoodIn wsX11_isThere wsX9_has := goodIn_r _ [8, 9, 31, 32, 33, 34, 35, 36, 37] (by decide +kernel) (by decide +kernel)
set_option maxRecDepth 20000 in
theorem gX11_isThere_X9_has : GoodIn wsX11_isThere (wsV RX11 120 RX9 yX9_has wsX9_has) := goodIn_app (goodIn_of _ (by decide +kernel)) ggX11_isThere_X9_has
set_option maxRecDepth 20000 in
theorem ggX11_isThere_X11_isIn : GoodIn wsX11_isThere wsX11_isIn := goodIn_r _ [13] (by decide +kernel) (by decide +kernel)
set_option maxRecDepth 20000 in
theorem gX11_isThere_X11_isIn : GoodIn wsX11_isThere (va_wsS RX11 168 yX11_isIn wsX11_isIn) := goodIn_app (goodIn_of _ (by decide +kernel)) ggX11_isThere_X11_isIn
set_option maxRecDepth 20000 in
theorem ggX11_areEnds_X11_isThere : GoodIn wsX11_areEnds wsX11_isThere := goodIn_r _ [8, 1, 3, 9, 10, 11, 12, 13, 14, 15, 16, 17, 7, 18, 32, 33, 34, 35, 36, 37, 38, 39, 40, 41, 42, 50, 51, 52, 53, 54, 55, 43, 44, 45, 46, 47, 48, 49] (by decide +kernel) (by decide +kernel)
set_option maxRecDepth 20000 in
theorem gX11_areEnds_X11_isThere : GoodIn wsX11_areEnds (wsV RX11 130 RX11 yX11_isThere wsX11_isThere) := goodIn_app (goodIn_of _ (by decide +kernel)) ggX11_areEnds_X11_isThere
set_option maxRecDepth 20000 in
theorem ggX11_areEnds_X6_isCritical : GoodIn wsX11_areEnds wsX6_isCritical := goodIn_r _ [23, 24, 25, 26, 22, 27, 28, 29, 30, 31, 17, 7, 18, 50, 51, 52, 53, 54, 55] (by decide +kernel) (by decide +kernel)
set_option maxRecDepth 20000 in
theorem gX11_areEnds_X6_isCritical : GoodIn wsX11_areEnds (wsV RX11 172 RX6 yX6_isCritical wsX6_isCritical) := goodIn_app (goodIn_of _ (by decide +kernel)) ggX11_areEnds_X6_isCritical
set_option maxRecDepth 20000 in
theorem ggX11_isFree_J13_bitCount_95d88 : GoodIn wsX11_isFree wsJ13_bitCount_95d88 := goodIn_r _ [8, 9, 10, 11] (by decide +kernel) (by decide +kernel)
set_option maxRecDepth 20000 in
theorem gX11_isFree_J13_bitCount_95d88 : GoodIn wsX11_isFree (va_wsS RX11 151 yJ13_bitCount_95d88 wsJ13_bitCount_95d88) := goodIn_app (goodIn_of _ (by decide +kernel)) ggX11_isFree_J13_bitCount_95d88
set_option maxRecDepth 20000 in
theorem ggX11_isFree_X11_lowest : GoodIn wsX11_isFree wsX11_lowest := goodIn_r _ [15, 5, 6, 7, 8, 9, 10, 11] (by decide +kernel) (by decide +kernel)
set_option maxRecDepth 20000 in
theorem gX11_isFree_X11_lowest : GoodIn wsX11_isFree (va_wsS RX11 220 yX11_lowest wsX11_lowest) := goodIn_app (goodIn_of _ (by decide +kernel)) ggX11_isFree_X11_lowest
set_option maxRecDepth 20000 in
theorem ggX11_pairUpwards_X6_isCritical : GoodIn wsX11_pairUpwards wsX6_isCritical := goodIn_r _ [9, 10, 11, 12, 8, 13, 14, 15, 16, 17, 18, 19, 20, 64, 65, 66, 67, 68, 69] (by decide +kernel) (by decide +kernel)
set_option maxRecDepth 20000 in
theorem gX11_pairUpwards_X6_isCritical : GoodIn wsX11_pairUpwards (wsV RX11 172 RX6 yX6_isCritical wsX6_isCritical) := goodIn_app (goodIn_of _ (by decide +kernel)) ggX11_pairUpwards_X6_isCritical
set_option maxRecDepth 20000 in
theorem ggX11_pairUpwards_X6_unpaired : GoodIn wsX11_pairUpwards wsX6_unpaired := goodIn_r _ [13, 14, 15, 16, 17, 64, 65, 66, 67, 68, 69] (by decide +kernel) (by decide +kernel)
set_option maxRecDepth 20000 in
theorem gX11_pairUpwards_X6_unpaired : GoodIn wsX11_pairUpwards (wsV RX11 232 RX6 yX6_unpaired wsX6_unpaired) := goodIn_app (goodIn_of _ (by decide +kernel)) ggX11_pairUpwards_X6_unpaired
set_option maxRecDepth 20000 in
theorem ggX11_pairUpwards_X11_isIn : GoodIn wsX11_pairUpwards wsX11_isIn := goodIn_r _ [20] (by decide +kernel) (by decide +kernel)
set_option maxRecDepth 20000 in
theorem gX11_pairUpwards_X11_isIn : GoodIn wsX11_pairUpwards (va_wsS RX11 168 yX11_isIn wsX11_isIn) := goodIn_app (goodIn_of _ (by decide +kernel)) ggX11_pairUpwards_X11_isIn
set_option maxRecDepth 20000 in
theorem ggX11_pairUpwards_X6_staysAcyclic : GoodIn wsX11_pairUpwards wsX6_staysAcyclic := goodIn_r _ [26, 27, 28, 17, 15, 29, 30, 19, 31, 32, 33, 34, 35, 36, 37, 38, 39, 40, 18, 20, 64, 65, 66, 67, 68, 69, 57, 58, 59, 60, 61, 62, 63] (by decide +kernel) (by decide +kernel)
set_option maxRecDepth 20000 in
theorem gX11_pairUpwards_X6_staysAcyclic : GoodIn wsX11_pairUpwards (wsV RX11 175 RX6 yX6_staysAcyclic wsX6_staysAcyclic) := goodIn_app (goodIn_of _ (by decide +kernel)) ggX11_pairUpwards_X6_staysAcyclic
set_option maxRecDepth 20000 in
theorem ggX11_pairUpwards_X6_unite : GoodIn wsX11_pairUpwards wsX6_unite := goodIn_r _ [44, 29, 15, 16, 45, 30, 19, 31, 64, 65, 66, 67, 68, 69] (by decide +kernel) (by decide +kernel)
set_option maxRecDepth 20000 in
theorem gX11_pairUpwards_X6_unite : GoodIn wsX11_pairUpwards (wsV RX11 183 RX6 yX6_unite wsX6_unite) := goodIn_app (goodIn_of _ (by decide +kernel)) ggX11_pairUpwards_X6_unite
set_option maxRecDepth 20000 in
theorem ggX11_pairDownwards_X6_isCritical : GoodIn wsX11_pairDownwards wsX6_isCritical := goodIn_r _ [9, 10, 11, 12, 8, 13, 14, 15, 16, 17, 18, 19, 20, 64, 65, 66, 67, 68, 69] (by decide +kernel) (by decide +kernel)
set_option maxRecDepth 20000 in
theorem gX11_pairDownwards_X6_isCritical : GoodIn wsX11_pairDownwards (wsV RX11 172 RX6 yX6_isCritical wsX6_isCritical) := goodIn_app (goodIn_of _ (by decide +kernel)) ggX11_pairDownwards_X6_isCritical
set_option maxRecDepth 20000 in
theorem ggX11_pairDownwards_X6_unpaired : GoodIn wsX11_pairDownwards wsX6_unpaired := goodIn_r _ [13, 14, 15, 16, 17, 64, 65, 66, 67, 68, 69] (by decide +kernel) (by decide +kernel)
set_option maxRecDepth 20000 in
theorem gX11_pairDownwards_X6_unpaired : GoodIn wsX11_pairDownwards (wsV RX11 232 RX6 yX6_unpaired wsX6_unpaired) := goodIn_app (goodIn_of _ (by decide +kernel)) ggX11_pairDownwards_X6_unpaired
set_option maxRecDepth 20000 in
theorem ggX11_pairDownwards_X11_isIn : GoodIn wsX11_pairDownwards wsX11_isIn := goodIn_r _ [20] (by decide +kernel) (by decide +kernel)
set_option maxRecDepth 20000 in
theorem gX11_pairDownwards_X11_isIn : GoodIn wsX11_pairDownwards (va_wsS RX11 168 yX11_isIn wsX11_isIn) := goodIn_app (goodIn_of _ (by decide +kernel)) ggX11_pairDownwards_X11_isIn
set_option maxRecDepth 20000 in
theorem ggX11_pairDownwards_X6_staysAcyclic : GoodIn wsX11_pairDownwards wsX6_staysAcyclic := goodIn_r _ [26, 27, 28, 17, 15, 29, 30, 19, 31, 32, 33, 34, 35, 36, 37, 38, 39, 40, 18, 20, 64, 65, 66, 67, 68, 69, 57, 58, 59, 60, 61, 62, 63] (by decide +kernel) (by decide +kernel)
set_option maxRecDepth 20000 in
theorem gX11_pairDownwards_X6_staysAcyclic : GoodIn wsX11_pairDownwards (wsV RX11 175 RX6 yX6_staysAcyclic wsX6_staysAcyclic) := goodIn_app (goodIn_of _ (by decide +kernel)) ggX11_pairDownwards_X6_staysAcyclic
set_option maxRecDepth 20000 in
theorem ggX11_pairDownwards_X6_unite : GoodIn wsX11_pairDownwards wsX6_unite := goodIn_r _ [44, 29, 15, 16, 45, 30, 19, 31, 64, 65, 66, 67, 68, 69] (by decide +kernel) (by decide +kernel)
set_option maxRecDepth 20000 in
theorem gX11_pairDownwards_X6_unite : GoodIn wsX11_pairDownwards (wsV RX11 183 RX6 yX6_unite wsX6_unite) := goodIn_app (goodIn_of _ (by decide +kernel)) ggX11_pairDownwards_X6_unite
set_option maxRecDepth 20000 in
theorem ggX11_pairByPeeling_X7_begin : GoodIn wsX11_pairByPeeling wsX7_begin := goodIn_r _ [10, 11, 12, 13, 14, 15, 9, 16, 17, 18, 19, 20, 21, 22, 23, 24, 25, 26, 27, 28, 29, 30, 31, 32, 72, 73, 74, 75, 76, 77, 78, 79, 80, 81] (by decide +kernel) (by decide +kernel)
set_option maxRecDepth 20000 in
theorem gX11_pairByPeeling_X7_begin : GoodIn wsX11_pairByPeeling (wsV RX11 332 RX7 yX7_begin wsX7_begin) := goodIn_app (goodIn_of _ (by decide +kernel)) ggX11_pairByPeeling_X7_begin
set_option maxRecDepth 20000 in
theorem ggX11_pairByPeeling_X11_lowest : GoodIn wsX11_pairByPeeling wsX11_lowest := goodIn_r _ [22, 23, 24, 25, 26, 27, 28, 29] (by decide +kernel) (by decide +kernel)
set_option maxRecDepth 20000 in
theorem gX11_pairByPeeling_X11_lowest : GoodIn wsX11_pairByPeeling (va_wsS RX11 220 yX11_lowest wsX11_lowest) := goodIn_app (goodIn_of _ (by decide +kernel)) ggX11_pairByPeeling_X11_lowest
set_option maxRecDepth 20000 in
theorem ggX11_pairByPeeling_X7_above : GoodIn wsX11_pairByPeeling wsX7_above := goodIn_r _ [37, 17, 18, 11, 20, 21, 22, 23, 24, 25, 26, 27, 28, 29, 72, 73, 74, 75, 76, 77, 78, 79, 80, 81] (by decide +kernel) (by decide +kernel)
set_option maxRecDepth 20000 in
theorem gX11_pairByPeeling_X7_above : GoodIn wsX11_pairByPeeling (wsV RX11 341 RX7 yX7_above wsX7_above) := goodIn_app (goodIn_of _ (by decide +kernel)) ggX11_pairByPeeling_X7_above
set_option maxRecDepth 20000 in
theorem ggX11_pairByPeeling_X6_unite : GoodIn wsX11_pairByPeeling wsX6_unite := goodIn_r _ [42, 43, 44, 45, 46, 31, 21, 32, 66, 67, 68, 69, 70, 71] (by decide +kernel) (by decide +kernel)
set_option maxRecDepth 20000 in
theorem gX11_pairByPeeling_X6_unite : GoodIn wsX11_pairByPeeling (wsV RX11 183 RX6 yX6_unite wsX6_unite) := goodIn_app (goodIn_of _ (by decide +kernel)) ggX11_pairByPeeling_X6_unite
set_option maxRecDepth 20000 in
theorem ggX11_pairByPeeling_X7_close : GoodIn wsX11_pairByPeeling wsX7_close := goodIn_r _ [50, 11, 19, 12, 17, 51, 31, 21, 32, 13, 14, 15, 9, 16, 18, 20, 22, 23, 24, 25, 26, 27, 28, 29, 30, 72, 73, 74, 75, 76, 77, 78, 79, 80, 81] (by decide +kernel) (by decide +kernel)
set_option maxRecDepth 20000 in
theorem gX11_pairByPeeling_X7_close : GoodIn wsX11_pairByPeeling (wsV RX11 344 RX7 yX7_close wsX7_close) := goodIn_app (goodIn_of _ (by decide +kernel)) ggX11_pairByPeeling_X7_close
set_option maxRecDepth 20000 in
theorem ggX11_pairByPeeling_J13_bitCount_95d88 : GoodIn wsX11_pairByPeeling wsJ13_bitCount_95d88 := goodIn_r _ [26, 27, 28, 29] (by decide +kernel) (by decide +kernel)
set_option maxRecDepth 20000 in
theorem gX11_pairByPeeling_J13_bitCount_95d88 : GoodIn wsX11_pairByPeeling (va_wsS RX11 151 yJ13_bitCount_95d88 wsJ13_bitCount_95d88) := goodIn_app (goodIn_of _ (by decide +kernel)) ggX11_pairByPeeling_J13_bitCount_95d88
set_option maxRecDepth 20000 in
theorem ggX11_pairByPeeling_X11_nth : GoodIn wsX11_pairByPeeling wsX11_nth := goodIn_r _ [54, 33, 20, 21, 22, 23, 24, 25, 26, 27, 28, 29] (by decide +kernel) (by decide +kernel)
set_option maxRecDepth 20000 in
theorem gX11_pairByPeeling_X11_nth : GoodIn wsX11_pairByPeeling (va_wsS RX11 329 yX11_nth wsX11_nth) := goodIn_app (goodIn_of _ (by decide +kernel)) ggX11_pairByPeeling_X11_nth
set_option maxRecDepth 20000 in
theorem ggX11_peelByDraws_X7_begin : GoodIn wsX11_peelByDraws wsX7_begin := goodIn_r _ [10, 11, 12, 13, 14, 15, 9, 16, 17, 18, 19, 20, 21, 22, 23, 24, 25, 26, 27, 28, 29, 30, 31, 32, 85, 86, 87, 88, 89, 90, 91, 92, 93, 94] (by decide +kernel) (by decide +kernel)
set_option maxRecDepth 20000 in
theorem gX11_peelByDraws_X7_begin : GoodIn wsX11_peelByDraws (wsV RX11 332 RX7 yX7_begin wsX7_begin) := goodIn_app (goodIn_of _ (by decide +kernel)) ggX11_peelByDraws_X7_begin
set_option maxRecDepth 20000 in
theorem ggX11_peelByDraws_X11_drawFrom : GoodIn wsX11_peelByDraws wsX11_drawFrom := goodIn_r _ [36, 37, 38, 39, 40, 41, 23, 24, 25, 26, 27, 28, 29, 42, 43, 21, 44, 45, 20, 22, 68, 69, 70, 71, 72, 73, 74, 75, 76, 77, 78] (by decide +kernel) (by decide +kernel)
set_option maxRecDepth 20000 in
theorem gX11_peelByDraws_X11_drawFrom : GoodIn wsX11_peelByDraws (wsV RX11 347 RX11 yX11_drawFrom wsX11_drawFrom) := goodIn_app (goodIn_of _ (by decide +kernel)) ggX11_peelByDraws_X11_drawFrom
set_option maxRecDepth 20000 in
theorem ggX11_peelByDraws_X7_above : GoodIn wsX11_peelByDraws wsX7_above := goodIn_r _ [49, 17, 18, 11, 20, 21, 22, 23, 24, 25, 26, 27, 28, 29, 85, 86, 87, 88, 89, 90, 91, 92, 93, 94] (by decide +kernel) (by decide +kernel)
set_option maxRecDepth 20000 in
theorem gX11_peelByDraws_X7_above : GoodIn wsX11_peelByDraws (wsV RX11 341 RX7 yX7_above wsX7_above) := goodIn_app (goodIn_of _ (by decide +kernel)) ggX11_peelByDraws_X7_above
set_option maxRecDepth 20000 in
theorem ggX11_peelByDraws_X7_close : GoodIn wsX11_peelByDraws wsX7_close := goodIn_r _ [53, 11, 19, 12, 17, 54, 31, 21, 32, 13, 14, 15, 9, 16, 18, 20, 22, 23, 24, 25, 26, 27, 28, 29, 30, 85, 86, 87, 88, 89, 90, 91, 92, 93, 94] (by decide +kernel) (by decide +kernel)
set_option maxRecDepth 20000 in
theorem gX11_peelByDraws_X7_close : GoodIn wsX11_peelByDraws (wsV RX11 344 RX7 yX7_close wsX7_close) := goodIn_app (goodIn_of _ (by decide +kernel)) ggX11_peelByDraws_X7_close
set_option maxRecDepth 20000 in
theorem ggX11_peelByDraws_X7_greatest : GoodIn wsX11_peelByDraws wsX7_greatest := goodIn_r _ [58, 17, 11, 59, 60, 61, 62, 63, 64, 65, 66, 21, 67, 85, 86, 87, 88, 89, 90, 91, 92, 93, 94] (by decide +kernel) (by decide +kernel)
set_option maxRecDepth 20000 in
theorem gX11_peelByDraws_X7_greatest : GoodIn wsX11_peelByDraws (wsV RX11 350 RX7 yX7_greatest wsX7_greatest) := goodIn_app (goodIn_of _ (by decide +kernel)) ggX11_peelByDraws_X7_greatest
set_option maxRecDepth 20000 in
theorem ggX11_drawFrom_J13_bitCount_95d88 : GoodIn wsX11_drawFrom wsJ13_bitCount_95d88 := goodIn_r _ [9, 10, 11, 12] (by decide +kernel) (by decide +kernel)
set_option maxRecDepth 20000 in
theorem gX11_drawFrom_J13_bitCount_95d88 : GoodIn wsX11_drawFrom (va_wsS RX11 151 yJ13_bitCount_95d88 wsJ13_bitCount_95d88) := goodIn_app (goodIn_of _ (by decide +kernel)) ggX11_drawFrom_J13_bitCount_95d88
set_option maxRecDepth 20000 in
theorem ggX11_drawFrom_X11_nth : GoodIn wsX11_drawFrom wsX11_nth := goodIn_r _ [16, 17, 18, 15, 19, 6, 7, 8, 9, 10, 11, 12] (by decide +kernel) (by decide +kernel)
set_option maxRecDepth 20000 in
theorem gX11_drawFrom_X11_nth : GoodIn wsX11_drawFrom (va_wsS RX11 329 yX11_nth wsX11_nth) := goodIn_app (goodIn_of _ (by decide +kernel)) ggX11_drawFrom_X11_nth
set_option maxRecDepth 20000 in
theorem ggX11_squaresFrom_X6_unpaired : GoodIn wsX11_squaresFrom wsX6_unpaired := goodIn_r _ [12, 13, 14, 15, 16, 137, 138, 139, 140, 141, 142] (by decide +kernel) (by decide +kernel)
set_option maxRecDepth 20000 in
theorem gX11_squaresFrom_X6_unpaired : GoodIn wsX11_squaresFrom (wsV RX11 232 RX6 yX6_unpaired wsX6_unpaired) := goodIn_app (goodIn_of _ (by decide +kernel)) ggX11_squaresFrom_X6_unpaired
set_option maxRecDepth 20000 in
theorem ggX11_squaresFrom_X1_start : GoodIn wsX11_squaresFrom wsX1_start := goodIn_r _ [21, 22, 23, 24, 25, 26, 27, 28, 29, 30, 31, 32, 33, 34, 35, 36, 37, 38, 39, 40, 41, 42, 43, 44, 45, 46, 47, 48, 49, 50, 51, 52, 11, 53, 54, 55, 56, 57, 58, 59, 60, 61, 130, 131, 132, 133, 134, 135, 136, 143, 144, 145, 146, 147, 148, 137, 138, 139, 140, 141, 142, 123, 124, 125, 126, 127, 128, 129] (by decide +kernel) (by decide +kernel)
set_option maxRecDepth 20000 in
theorem gX11_squaresFrom_X1_start : GoodIn wsX11_squaresFrom (wsV RX11 246 RX1 yX1_start wsX1_start) := goodIn_app (goodIn_of _ (by decide +kernel)) ggX11_squaresFrom_X1_start
set_option maxRecDepth 20000 in
theorem ggX11_squaresFrom_X1_pour : GoodIn wsX11_squaresFrom wsX1_pour := goodIn_r _ [65, 22, 66, 67, 23, 68, 69, 70, 71, 72, 20, 73, 74, 75, 76, 77, 11, 78, 54, 55, 56, 16, 79, 48, 80, 81, 82, 83, 84, 85, 86, 87, 88, 89, 90, 91, 92, 93, 94, 47, 49, 95, 96, 97, 98, 99, 100, 101, 102, 103, 104, 105, 106, 130, 131, 132, 133, 134, 135, 136, 143, 144, 145, 146, 147, 148, 123, 124, 125, 126, 127, 128, 129, 137, 138, 139, 140, 141, 142] (by decide +kernel) (by decide +kernel)
set_option maxRecDepth 20000 in
theorem gX11_squaresFrom_X1_pour : GoodIn wsX11_squaresFrom (wsV RX11 249 RX1 yX1_pour wsX1_pour) := goodIn_app (goodIn_of _ (by decide +kernel)) ggX11_squaresFrom_X1_pour
set_option maxRecDepth 20000 in
theorem ggX11_squaresFrom_X1_holdOnly : GoodIn wsX11_squaresFrom wsX1_holdOnly := goodIn_r _ [110, 23, 47, 48, 49, 130, 131, 132, 133, 134, 135, 136] (by decide +kernel) (by decide +kernel)
set_option maxRecDepth 20000 in
theorem gX11_squaresFrom_X1_holdOnly : GoodIn wsX11_squaresFrom (wsV RX11 360 RX1 yX1_holdOnly wsX1_holdOnly) := goodIn_app (goodIn_of _ (by decide +kernel)) ggX11_squaresFrom_X1_holdOnly
set_option maxRecDepth 20000 in
theorem ggX11_squaresFrom_X11_isIn : GoodIn wsX11_squaresFrom wsX11_isIn := goodIn_r _ [49] (by decide +kernel) (by decide +kernel)
set_option maxRecDepth 20000 in
theorem gX11_squaresFrom_X11_isIn : GoodIn wsX11_squaresFrom (va_wsS RX11 168 yX11_isIn wsX11_isIn) := goodIn_app (goodIn_of _ (by decide +kernel)) ggX11_squaresFrom_X11_isIn
set_option maxRecDepth 20000 in
theorem ggX11_linkOf_X11_number : GoodIn wsX11_linkOf wsX11_number := goodIn_r _ [8, 1, 9, 28, 29, 30, 31, 32, 33, 34, 35, 36, 37, 38, 39, 40, 41, 42, 43, 44, 45] (by decide +kernel) (by decide +kernel)
set_option maxRecDepth 20000 in
theorem gX11_linkOf_X11_number : GoodIn wsX11_linkOf (wsV RX11 363 RX11 yX11_number wsX11_number) := goodIn_app (goodIn_of _ (by decide +kernel)) ggX11_linkOf_X11_number
set_option maxRecDepth 20000 in
theorem ggX11_linkOf_X11_isThere : GoodIn wsX11_linkOf wsX11_isThere := goodIn_r _ [13, 1, 14, 15, 16, 17, 18, 19, 20, 21, 22, 23, 7, 24, 28, 29, 30, 31, 32, 33, 34, 35, 36, 37, 38, 46, 47, 48, 49, 50, 51, 39, 40, 41, 42, 43, 44, 45] (by decide +kernel) (by decide +kernel)
set_option maxRecDepth 20000 in
theorem gX11_linkOf_X11_isThere : GoodIn wsX11_linkOf (wsV RX11 130 RX11 yX11_isThere wsX11_isThere) := goodIn_app (goodIn_of _ (by decide +kernel)) ggX11_linkOf_X11_isThere
set_option maxRecDepth 20000 in
theorem ggX11_linkOf_X11_bit : GoodIn wsX11_linkOf wsX11_bit := goodIn_r _ [27] (by decide +kernel) (by decide +kernel)
set_option maxRecDepth 20000 in
theorem gX11_linkOf_X11_bit : GoodIn wsX11_linkOf (va_wsS RX11 256 yX11_bit wsX11_bit) := goodIn_app (goodIn_of _ (by decide +kernel)) ggX11_linkOf_X11_bit
set_option maxRecDepth 20000 in
theorem ggX11_roomAbove_X11_isIn : GoodIn wsX11_roomAbove wsX11_isIn := goodIn_r _ [7] (by decide +kernel) (by decide +kernel)
set_option maxRecDepth 20000 in
theorem gX11_roomAbove_X11_isIn : GoodIn wsX11_roomAbove (va_wsS RX11 168 yX11_isIn wsX11_isIn) := goodIn_app (goodIn_of _ (by decide +kernel)) ggX11_roomAbove_X11_isIn
set_option maxRecDepth 20000 in
theorem ggX11_roomAbove_X6_staysAcyclic : GoodIn wsX11_roomAbove wsX6_staysAcyclic := goodIn_r _ [12, 13, 14, 15, 16, 17, 18, 6, 19, 20, 21, 22, 23, 24, 25, 26, 27, 28, 5, 7, 47, 48, 49, 50, 51, 52, 40, 41, 42, 43, 44, 45, 46] (by decide +kernel) (by decide +kernel)
set_option maxRecDepth 20000 in
theorem gX11_roomAbove_X6_staysAcyclic : GoodIn wsX11_roomAbove (wsV RX11 175 RX6 yX6_staysAcyclic wsX6_staysAcyclic) := goodIn_app (goodIn_of _ (by decide +kernel)) ggX11_roomAbove_X6_staysAcyclic
set_option maxRecDepth 20000 in
theorem ggX12_blanks_X12_byteNow : GoodIn wsX12_blanks wsX12_byteNow := goodIn_r _ [6, 1, 7, 8, 9, 10, 11, 12, 13, 14, 15, 16, 17, 18, 19, 20, 21, 22, 23, 24, 25, 26, 27, 28, 29, 30, 31, 32, 33, 34, 35, 36, 37, 38, 39] (by decide +kernel) (by decide +kernel)
set_option maxRecDepth 20000 in
theorem gX12_blanks_X12_byteNow : GoodIn wsX12_blanks (wsV RX12 94 RX12 yX12_byteNow wsX12_byteNow) := goodIn_app (goodIn_of _ (by decide +kernel)) ggX12_blanks_X12_byteNow
set_option maxRecDepth 20000 in
theorem ggX12_isLetter_X12_byteNow : GoodIn wsX12_isLetter wsX12_byteNow := goodIn_r _ [5, 6, 7, 8, 12, 13, 14, 15, 16, 17, 18, 19, 20, 21, 22, 23, 24, 25, 26, 27, 28, 29, 30, 31, 32, 33, 34, 35, 36, 37, 38, 39, 40, 41, 42] (by decide +kernel) (by decide +kernel)
set_option maxRecDepth 20000 in
theorem gX12_isLetter_X12_byteNow : GoodIn wsX12_isLetter (wsV RX12 94 RX12 yX12_byteNow wsX12_byteNow) := goodIn_app (goodIn_of _ (by decide +kernel)) ggX12_isLetter_X12_byteNow
set_option maxRecDepth 20000 in
theorem ggX12_isLetter_X12_in : GoodIn wsX12_isLetter wsX12_in := goodIn_r _ [11] (by decide +kernel) (by decide +kernel)
set_option maxRecDepth 20000 in
theorem gX12_isLetter_X12_in : GoodIn wsX12_isLetter (va_wsS RX12 101 yX12_in wsX12_in) := goodIn_app (goodIn_of _ (by decide +kernel)) ggX12_isLetter_X12_in
set_option maxRecDepth 20000 in
theorem ggX12_toldMany_X12_truth : GoodIn wsX12_toldMany wsX12_truth := goodIn_r _ [5] (by decide +kernel) (by decide +kernel)
set_option maxRecDepth 20000 in
theorem gX12_toldMany_X12_truth : GoodIn wsX12_toldMany (va_wsS RX12 105 yX12_truth wsX12_truth) := goodIn_app (goodIn_of _ (by decide +kernel)) ggX12_toldMany_X12_truth
set_option maxRecDepth 20000 in
theorem ggX12_readsFacet_X12_blanks : GoodIn wsX12_readsFacet wsX12_blanks := goodIn_r _ [6, 1, 7, 8, 9, 5, 10, 11, 12, 48, 49, 50, 51, 52, 53, 54, 55, 56, 57, 58, 59, 60, 61, 62, 63, 64, 65, 66, 67, 68, 69, 70, 71, 72, 73, 74, 75, 76, 77, 78] (by decide +kernel) (by decide +kernel)
set_option maxRecDepth 20000 in
theorem gX12_readsFacet_X12_blanks : GoodIn wsX12_readsFacet (wsV RX12 109 RX12 yX12_blanks wsX12_blanks) := goodIn_app (goodIn_of _ (by decide +kernel)) ggX12_readsFacet_X12_blanks
set_option maxRecDepth 20000 in
theorem ggX12_readsFacet_X12_isLetter : GoodIn wsX12_readsFacet wsX12_isLetter := goodIn_r _ [16, 7, 8, 9, 5, 10, 1, 11, 12, 17, 18, 19, 48, 49, 50, 51, 52, 53, 54, 55, 56, 57, 58, 59, 60, 61, 62, 63, 64, 65, 66, 67, 68, 69, 70, 71, 72, 73, 74, 75, 76, 77, 78] (by decide +kernel) (by decide +kernel)
set_option maxRecDepth 20000 in
theorem gX12_readsFacet_X12_isLetter : GoodIn wsX12_readsFacet (wsV RX12 112 RX12 yX12_isLetter wsX12_isLetter) := goodIn_app (goodIn_of _ (by decide +kernel)) ggX12_readsFacet_X12_isLetter
set_option maxRecDepth 20000 in
theorem ggX12_readsFacet_X12_fails : GoodIn wsX12_readsFacet wsX12_fails := goodIn_r _ [23, 24, 48, 49, 50, 51, 52, 53, 54, 55, 56, 57, 58, 59, 60, 61, 62, 63, 64, 65, 66, 67, 68, 69, 70, 71, 72, 73, 74, 75, 76, 77, 78] (by decide +kernel) (by decide +kernel)
set_option maxRecDepth 20000 in
theorem gX12_readsFacet_X12_fails : GoodIn wsX12_readsFacet (wsV RX12 116 RX12 yX12_fails wsX12_fails) := goodIn_app (goodIn_of _ (by decide +kernel)) ggX12_readsFacet_X12_fails
set_option maxRecDepth 20000 in
theorem ggX12_readsFacet_X12_isRight : GoodIn wsX12_readsFacet wsX12_isRight := goodIn_r _ [28, 24, 48, 49, 50, 51, 52, 53, 54, 55, 56, 57, 58, 59, 60, 61, 62, 63, 64, 65, 66, 67, 68, 69, 70, 71, 72, 73, 74, 75, 76, 77, 78] (by decide +kernel) (by decide +kernel)
set_option maxRecDepth 20000 in
theorem gX12_readsFacet_X12_isRight : GoodIn wsX12_readsFacet (wsV RX12 120 RX12 yX12_isRight wsX12_isRight) := goodIn_app (goodIn_of _ (by decide +kernel)) ggX12_readsFacet_X12_isRight
set_option maxRecDepth 20000 in
theorem ggX12_readsFacet_X12_byteNow : GoodIn wsX12_readsFacet wsX12_byteNow := goodIn_r _ [10, 1, 11, 12, 48, 49, 50, 51, 52, 53, 54, 55, 56, 57, 58, 59, 60, 61, 62, 63, 64, 65, 66, 67, 68, 69, 70, 71, 72, 73, 74, 75, 76, 77, 78] (by decide +kernel) (by decide +kernel)
set_option maxRecDepth 20000 in
theorem gX12_readsFacet_X12_byteNow : GoodIn wsX12_readsFacet (wsV RX12 94 RX12 yX12_byteNow wsX12_byteNow) := goodIn_app (goodIn_of _ (by decide +kernel)) ggX12_readsFacet_X12_byteNow
set_option maxRecDepth 20000 in
theorem ggX12_readsFacet_J6_bitCount_0f7a4 : GoodIn wsX12_readsFacet wsJ6_bitCount_0f7a4 := goodIn_r _ [32, 33, 34, 35] (by decide +kernel) (by decide +kernel)
set_option maxRecDepth 20000 in
theorem gX12_readsFacet_J6_bitCount_0f7a4 : GoodIn wsX12_readsFacet (va_wsS RX12 123 yJ6_bitCount_0f7a4 wsJ6_bitCount_0f7a4) := goodIn_app (goodIn_of _ (by decide +kernel)) ggX12_readsFacet_J6_bitCount_0f7a4
set_option maxRecDepth 20000 in
theorem ggX12_readsFacet_X12_takesSets : GoodIn wsX12_readsFacet wsX12_takesSets := goodIn_r _ [39, 40, 48, 49, 50, 51, 52, 53, 54, 55, 56, 57, 58, 59, 60, 61, 62, 63, 64, 65, 66, 67, 68, 69, 70, 71, 72, 73, 74, 75, 76, 77, 78] (by decide +kernel) (by decide +kernel)
set_option maxRecDepth 20000 in
theorem gX12_readsFacet_X12_takesSets : GoodIn wsX12_readsFacet (wsV RX12 127 RX12 yX12_takesSets wsX12_takesSets) := goodIn_app (goodIn_of _ (by decide +kernel)) ggX12_readsFacet_X12_takesSets
set_option maxRecDepth 20000 in
theorem ggX12_readsFacet_X12_toldMany : GoodIn wsX12_readsFacet wsX12_toldMany := goodIn_r _ [44, 40, 45, 46, 5, 47, 48, 49, 50, 51, 52, 53, 54, 55, 56, 57, 58, 59, 60, 61, 62, 63, 64, 65, 66, 67, 68, 69, 70, 71, 72, 73, 74, 75, 76, 77, 78] (by decide +kernel) (by decide +kernel)
set_option maxRecDepth 20000 in
theorem gX12_readsFacet_X12_toldMany : GoodIn wsX12_readsFacet (wsV RX12 130 RX12 yX12_toldMany wsX12_toldMany) := goodIn_app (goodIn_of _ (by decide +kernel)) ggX12_readsFacet_X12_toldMany
set_option maxRecDepth 20000 in
theorem ggX12_complex_X12_readsFacet : GoodIn wsX12_complex wsX12_readsFacet := goodIn_r _ [10, 1, 11, 12, 13, 9, 14, 15, 16, 17, 18, 4, 19, 20, 21, 22, 23, 24, 25, 26, 27, 28, 29, 30, 2, 31, 32, 33, 34, 35, 36, 37, 38, 39, 40, 41, 42, 43, 44, 45, 3, 46, 47, 48, 49, 50, 51, 52, 63, 64, 65, 66, 67, 68, 69, 70, 71, 72, 73, 74, 75, 76, 77, 78, 79, 80, 81, 82, 83, 84, 85, 86, 87, 88, 89, 90, 91, 92, 93] (by decide +kernel) (by decide +kernel)
set_option maxRecDepth 20000 in
theorem gX12_complex_X12_readsFacet : GoodIn wsX12_complex (wsV RX12 133 RX12 yX12_readsFacet wsX12_readsFacet) := goodIn_app (goodIn_of _ (by decide +kernel)) ggX12_complex_X12_readsFacet
set_option maxRecDepth 20000 in
theorem ggX12_complex_X12_isRight : GoodIn wsX12_complex wsX12_isRight := goodIn_r _ [34, 2, 63, 64, 65, 66, 67, 68, 69, 70, 71, 72, 73, 74, 75, 76, 77, 78, 79, 80, 81, 82, 83, 84, 85, 86, 87, 88, 89, 90, 91, 92, 93] (by decide +kernel) (by decide +kernel)
set_option maxRecDepth 20000 in
theorem gX12_complex_X12_isRight : GoodIn wsX12_complex (wsV RX12 120 RX12 yX12_isRight wsX12_isRight) := goodIn_app (goodIn_of _ (by decide +kernel)) ggX12_complex_X12_isRight
set_option maxRecDepth 20000 in
theorem ggX12_complex_X12_byteNow : GoodIn wsX12_complex wsX12_byteNow := goodIn_r _ [18, 1, 4, 19, 63, 64, 65, 66, 67, 68, 69, 70, 71, 72, 73, 74, 75, 76, 77, 78, 79, 80, 81, 82, 83, 84, 85, 86, 87, 88, 89, 90, 91, 92, 93] (by decide +kernel) (by decide +kernel)
set_option maxRecDepth 20000 in
theorem gX12_complex_X12_byteNow : GoodIn wsX12_complex (wsV RX12 94 RX12 yX12_byteNow wsX12_byteNow) := goodIn_app (goodIn_of _ (by decide +kernel)) ggX12_complex_X12_byteNow
set_option maxRecDepth 20000 in
theorem ggX12_complex_X12_truth : GoodIn wsX12_complex wsX12_truth := goodIn_r _ [52] (by decide +kernel) (by decide +kernel)
set_option maxRecDepth 20000 in
theorem gX12_complex_X12_truth : GoodIn wsX12_complex (va_wsS RX12 105 yX12_truth wsX12_truth) := goodIn_app (goodIn_of _ (by decide +kernel)) ggX12_complex_X12_truth
set_option maxRecDepth 20000 in
theorem ggX12_complex_X12_fails : GoodIn wsX12_complex wsX12_fails := goodIn_r _ [30, 2, 63, 64, 65, 66, 67, 68, 69, 70, 71, 72, 73, 74, 75, 76, 77, 78, 79, 80, 81, 82, 83, 84, 85, 86, 87, 88, 89, 90, 91, 92, 93] (by decide +kernel) (by decide +kernel)
set_option maxRecDepth 20000 in
theorem gX12_complex_X12_fails : GoodIn wsX12_complex (wsV RX12 116 RX12 yX12_fails wsX12_fails) := goodIn_app (goodIn_of _ (by decide +kernel)) ggX12_complex_X12_fails
set_option maxRecDepth 20000 in
theorem ggX12_complex_X12_numbers : GoodIn wsX12_complex wsX12_numbers := goodIn_r _ [56, 5, 3, 57, 58, 59, 60, 61, 62, 35, 36, 37, 38, 39, 40, 41, 63, 64, 65, 66, 67, 68, 69, 70, 71, 72, 73, 74, 75, 76, 77, 78, 79, 80, 81, 82, 83, 84, 85, 86, 87, 88, 89, 90, 91, 92, 93] (by decide +kernel) (by decide +kernel)
set_option maxRecDepth 20000 in
theorem gX12_complex_X12_numbers : GoodIn wsX12_complex (wsV RX12 136 RX12 yX12_numbers wsX12_numbers) := goodIn_app (goodIn_of _ (by decide +kernel)) ggX12_complex_X12_numbers
set_option maxRecDepth 20000 in
theorem ggX12_numbers_J6_bitCount_0f7a4 : GoodIn wsX12_numbers wsJ6_bitCount_0f7a4 := goodIn_r _ [12, 13, 14, 15] (by decide +kernel) (by decide +kernel)
set_option maxRecDepth 20000 in
theorem gX12_numbers_J6_bitCount_0f7a4 : GoodIn wsX12_numbers (va_wsS RX12 123 yJ6_bitCount_0f7a4 wsJ6_bitCount_0f7a4) := goodIn_app (goodIn_of _ (by decide +kernel)) ggX12_numbers_J6_bitCount_0f7a4
set_option maxRecDepth 20000 in
theorem ggX12_isSimplex_X12_in : GoodIn wsX12_isSimplex wsX12_in := goodIn_r _ [5] (by decide +kernel) (by decide +kernel)
set_option maxRecDepth 20000 in
theorem gX12_isSimplex_X12_in : GoodIn wsX12_isSimplex (va_wsS RX12 101 yX12_in wsX12_in) := goodIn_app (goodIn_of _ (by decide +kernel)) ggX12_isSimplex_X12_in
set_option maxRecDepth 20000 in
theorem ggX12_isThere_X12_isSimplex : GoodIn wsX12_isThere wsX12_isSimplex := goodIn_r _ [6, 7, 8, 9, 5, 10, 11, 12, 13, 14, 15, 16, 17, 18, 19, 20, 21, 22, 23, 24, 25, 26, 27, 28, 29, 30, 31, 32, 33, 34, 35, 36, 37, 38, 39, 40, 41] (by decide +kernel) (by decide +kernel)
set_option maxRecDepth 20000 in
theorem gX12_isThere_X12_isSimplex : GoodIn wsX12_isThere (wsV RX12 145 RX12 yX12_isSimplex wsX12_isSimplex) := goodIn_app (goodIn_of _ (by decide +kernel)) ggX12_isThere_X12_isSimplex
set_option maxRecDepth 20000 in
theorem ggX12_dimOf_J6_bitCount_0f7a4 : GoodIn wsX12_dimOf wsJ6_bitCount_0f7a4 := goodIn_r _ [5, 6, 7, 8] (by decide +kernel) (by decide +kernel)
set_option maxRecDepth 20000 in
theorem gX12_dimOf_J6_bitCount_0f7a4 : GoodIn wsX12_dimOf (va_wsS RX12 123 yJ6_bitCount_0f7a4 wsJ6_bitCount_0f7a4) := goodIn_app (goodIn_of _ (by decide +kernel)) ggX12_dimOf_J6_bitCount_0f7a4
set_option maxRecDepth 20000 in
theorem ggX12_isFace_X12_dimOf : GoodIn wsX12_isFace wsX12_dimOf := goodIn_r _ [6, 1, 7, 8, 9, 10, 11, 12, 13, 14, 15, 16, 17, 18, 19, 20, 21, 22, 23, 24, 25, 26, 27, 28, 29, 30, 31, 32, 33, 34, 35, 36, 37, 38, 39, 40, 41, 42, 43, 44] (by decide +kernel) (by decide +kernel)
set_option maxRecDepth 20000 in
theorem gX12_isFace_X12_dimOf : GoodIn wsX12_isFace (wsV RX12 149 RX12 yX12_dimOf wsX12_dimOf) := goodIn_app (goodIn_of _ (by decide +kernel)) ggX12_isFace_X12_dimOf
set_option maxRecDepth 20000 in
theorem ggX12_isFaceThere_X12_isFace : GoodIn wsX12_isFaceThere wsX12_isFace := goodIn_r _ [6, 7, 8, 9, 10, 5, 11, 12, 13, 14, 15, 16, 17, 18, 19, 20, 21, 22, 23, 24, 25, 26, 27, 28, 29, 30, 31, 32, 33, 34, 35, 36, 37, 38, 39, 40, 41, 42, 43, 44, 45, 46, 47, 48, 49] (by decide +kernel) (by decide +kernel)
set_option maxRecDepth 20000 in
theorem gX12_isFaceThere_X12_isFace : GoodIn wsX12_isFaceThere (wsV RX12 152 RX12 yX12_isFace wsX12_isFace) := goodIn_app (goodIn_of _ (by decide +kernel)) ggX12_isFaceThere_X12_isFace
set_option maxRecDepth 20000 in
theorem ggX12_signOf_J6_bitCount_0f7a4 : GoodIn wsX12_signOf wsJ6_bitCount_0f7a4 := goodIn_r _ [5, 6, 7, 8] (by decide +kernel) (by decide +kernel)
set_option maxRecDepth 20000 in
theorem gX12_signOf_J6_bitCount_0f7a4 : GoodIn wsX12_signOf (va_wsS RX12 123 yJ6_bitCount_0f7a4 wsJ6_bitCount_0f7a4) := goodIn_app (goodIn_of _ (by decide +kernel)) ggX12_signOf_J6_bitCount_0f7a4
set_option maxRecDepth 20000 in
theorem ggX12_isCritical_X12_isThere : GoodIn wsX12_isCritical wsX12_isThere := goodIn_r _ [6, 7, 8, 9, 10, 5, 11, 12, 13, 14, 15, 16, 17, 18, 19, 20, 21, 22, 23, 24, 25, 26, 27, 28, 29, 30, 31, 32, 33, 34, 35, 36, 37, 38, 39, 40, 41, 42, 43, 44, 45, 46] (by decide +kernel) (by decide +kernel)
set_option maxRecDepth 20000 in
theorem gX12_isCritical_X12_isThere : GoodIn wsX12_isCritical (wsV RX12 156 RX12 yX12_isThere wsX12_isThere) := goodIn_app (goodIn_of _ (by decide +kernel)) ggX12_isCritical_X12_isThere
set_option maxRecDepth 20000 in
theorem ggX12_criticalMany_X12_isCritical : GoodIn wsX12_criticalMany wsX12_isCritical := goodIn_r _ [6, 7, 8, 9, 10, 5, 11, 12, 13, 14, 15, 16, 1, 17, 18, 19, 23, 24, 25, 26, 27, 28, 29, 30, 31, 32, 33, 34, 35, 36, 37, 38, 39, 40, 41, 42, 43, 44, 45, 46, 47, 48, 49, 50, 51, 52, 53] (by decide +kernel) (by decide +kernel)
set_option maxRecDepth 20000 in
theorem gX12_criticalMany_X12_isCritical : GoodIn wsX12_criticalMany (wsV RX12 159 RX12 yX12_isCritical wsX12_isCritical) := goodIn_app (goodIn_of _ (by decide +kernel)) ggX12_criticalMany_X12_isCritical
set_option maxRecDepth 20000 in
theorem ggX12_criticalMany_X12_truth : GoodIn wsX12_criticalMany wsX12_truth := goodIn_r _ [22] (by decide +kernel) (by decide +kernel)
set_option maxRecDepth 20000 in
theorem gX12_criticalMany_X12_truth : GoodIn wsX12_criticalMany (va_wsS RX12 105 yX12_truth wsX12_truth) := goodIn_app (goodIn_of _ (by decide +kernel)) ggX12_criticalMany_X12_truth
set_option maxRecDepth 20000 in
theorem ggX12_facesOver_X12_isFaceThere : GoodIn wsX12_facesOver wsX12_isFaceThere := goodIn_r _ [6, 7, 8, 9, 10, 5, 11, 12, 13, 14, 15, 16, 17, 18, 19, 20, 21, 22, 23, 27, 28, 29, 30, 31, 32, 33, 34, 35, 36, 37, 38, 39, 40, 41, 42, 43, 44, 45, 46, 47, 48, 49, 50, 51, 52, 53, 54, 55, 56, 57] (by decide +kernel) (by decide +kernel)
set_option maxRecDepth 20000 in
theorem gX12_facesOver_X12_isFaceThere : GoodIn wsX12_facesOver (wsV RX12 162 RX12 yX12_isFaceThere wsX12_isFaceThere) := goodIn_app (goodIn_of _ (by decide +kernel)) ggX12_facesOver_X12_isFaceThere
set_option maxRecDepth 20000 in
theorem ggX12_facesOver_X12_truth : GoodIn wsX12_facesOver wsX12_truth := goodIn_r _ [26] (by decide +kernel) (by decide +kernel)
set_option maxRecDepth 20000 in
theorem gX12_facesOver_X12_truth : GoodIn wsX12_facesOver (va_wsS RX12 105 yX12_truth wsX12_truth) := goodIn_app (goodIn_of _ (by decide +kernel)) ggX12_facesOver_X12_truth
set_option maxRecDepth 20000 in
theorem ggX12_number_X12_in : GoodIn wsX12_number wsX12_in := goodIn_r _ [6] (by decide +kernel) (by decide +kernel)
set_option maxRecDepth 20000 in
theorem gX12_number_X12_in : GoodIn wsX12_number (va_wsS RX12 101 yX12_in wsX12_in) := goodIn_app (goodIn_of _ (by decide +kernel)) ggX12_number_X12_in
set_option maxRecDepth 20000 in
theorem ggX12_sign_X12_isSimplex : GoodIn wsX12_sign wsX12_isSimplex := goodIn_r _ [6, 7, 8, 9, 5, 10, 31, 32, 33, 34, 35, 36, 37, 38, 39, 40, 41, 42, 43, 44, 45, 46, 47, 48, 49, 50, 51, 52, 53, 54, 55, 56, 57, 58, 59, 60, 61] (by decide +kernel) (by decide +kernel)
set_option maxRecDepth 20000 in
theorem gX12_sign_X12_isSimplex : GoodIn wsX12_sign (wsV RX12 145 RX12 yX12_isSimplex wsX12_isSimplex) := goodIn_app (goodIn_of _ (by decide +kernel)) ggX12_sign_X12_isSimplex
set_option maxRecDepth 20000 in
theorem ggX12_sign_X12_isFace : GoodIn wsX12_sign wsX12_isFace := goodIn_r _ [14, 15, 16, 17, 18, 5, 19, 20, 21, 22, 23, 24, 25, 26, 31, 32, 33, 34, 35, 36, 37, 38, 39, 40, 41, 42, 43, 44, 45, 46, 47, 48, 49, 50, 51, 52, 53, 54, 55, 56, 57, 58, 59, 60, 61] (by decide +kernel) (by decide +kernel)
set_option maxRecDepth 20000 in
theorem gX12_sign_X12_isFace : GoodIn wsX12_sign (wsV RX12 152 RX12 yX12_isFace wsX12_isFace) := goodIn_app (goodIn_of _ (by decide +kernel)) ggX12_sign_X12_isFace
set_option maxRecDepth 20000 in
theorem ggX12_sign_X12_signOf : GoodIn wsX12_sign wsX12_signOf := goodIn_r _ [30, 15, 20, 21, 22, 23, 24, 25, 26, 31, 32, 33, 34, 35, 36, 37, 38, 39, 40, 41, 42, 43, 44, 45, 46, 47, 48, 49, 50, 51, 52, 53, 54, 55, 56, 57, 58, 59, 60, 61] (by decide +kernel) (by decide +kernel)
set_option maxRecDepth 20000 in
theorem gX12_sign_X12_signOf : GoodIn wsX12_sign (wsV RX12 166 RX12 yX12_signOf wsX12_signOf) := goodIn_app (goodIn_of _ (by decide +kernel)) ggX12_sign_X12_signOf
set_option maxRecDepth 20000 in
theorem ggX12_laysHeights_X12_isFaceThere : GoodIn wsX12_laysHeights wsX12_isFaceThere := goodIn_r _ [8, 9, 10, 11, 12, 7, 13, 14, 15, 16, 17, 18, 19, 20, 21, 22, 23, 24, 25, 26, 27, 28, 29, 30, 31, 32, 33, 34, 35, 36, 37, 38, 39, 40, 41, 42, 43, 44, 45, 46, 47, 48, 49, 50, 51, 52, 53, 54, 55, 56] (by decide +kernel) (by decide +kernel)
set_option maxRecDepth 20000 in
theorem gX12_laysHeights_X12_isFaceThere : GoodIn wsX12_laysHeights (wsV RX12 162 RX12 yX12_isFaceThere wsX12_isFaceThere) := goodIn_app (goodIn_of _ (by decide +kernel)) ggX12_laysHeights_X12_isFaceThere
set_option maxRecDepth 20000 in
theorem ggX12_simplex_X12_isSimplex : GoodIn wsX12_simplex wsX12_isSimplex := goodIn_r _ [9, 10, 11, 12, 8, 13, 48, 49, 50, 51, 52, 53, 54, 55, 56, 57, 58, 59, 60, 61, 62, 63, 64, 65, 66, 67, 68, 69, 70, 71, 72, 73, 74, 75, 76, 77, 78] (by decide +kernel) (by decide +kernel)
set_option maxRecDepth 20000 in
theorem gX12_simplex_X12_isSimplex : GoodIn wsX12_simplex (wsV RX12 145 RX12 yX12_isSimplex wsX12_isSimplex) := goodIn_app (goodIn_of _ (by decide +kernel)) ggX12_simplex_X12_isSimplex
set_option maxRecDepth 20000 in
theorem ggX12_simplex_X12_dimOf : GoodIn wsX12_simplex wsX12_dimOf := goodIn_r _ [17, 1, 18, 19, 20, 21, 22, 23, 24, 48, 49, 50, 51, 52, 53, 54, 55, 56, 57, 58, 59, 60, 61, 62, 63, 64, 65, 66, 67, 68, 69, 70, 71, 72, 73, 74, 75, 76, 77, 78] (by decide +kernel) (by decide +kernel)
set_option maxRecDepth 20000 in
theorem gX12_simplex_X12_dimOf : GoodIn wsX12_simplex (wsV RX12 149 RX12 yX12_dimOf wsX12_dimOf) := goodIn_app (goodIn_of _ (by decide +kernel)) ggX12_simplex_X12_dimOf
set_option maxRecDepth 20000 in
theorem ggX12_simplex_X12_truth : GoodIn wsX12_simplex wsX12_truth := goodIn_r _ [27] (by decide +kernel) (by decide +kernel)
set_option maxRecDepth 20000 in
theorem gX12_simplex_X12_truth : GoodIn wsX12_simplex (va_wsS RX12 105 yX12_truth wsX12_truth) := goodIn_app (goodIn_of _ (by decide +kernel)) ggX12_simplex_X12_truth
set_option maxRecDepth 20000 in
theorem ggX12_simplex_X12_isLower : GoodIn wsX12_simplex wsX12_isLower := goodIn_r _ [31, 3, 48, 49, 50, 51, 52, 53, 54, 55, 56, 57, 58, 59, 60, 61, 62, 63, 64, 65, 66, 67, 68, 69, 70, 71, 72, 73, 74, 75, 76, 77, 78] (by decide +kernel) (by decide +kernel)
set_option maxRecDepth 20000 in
theorem gX12_simplex_X12_isLower : GoodIn wsX12_simplex (wsV RX12 170 RX12 yX12_isLower wsX12_isLower) := goodIn_app (goodIn_of _ (by decide +kernel)) ggX12_simplex_X12_isLower
set_option maxRecDepth 20000 in
theorem ggX12_simplex_X12_laysHeights : GoodIn wsX12_simplex wsX12_laysHeights := goodIn_r _ [35, 10, 4, 3, 36, 37, 38, 8, 39, 2, 40, 41, 42, 43, 1, 14, 15, 16, 17, 18, 19, 20, 21, 22, 23, 24, 48, 49, 50, 51, 52, 53, 54, 55, 56, 57, 58, 59, 60, 61, 62, 63, 64, 65, 66, 67, 68, 69, 70, 71, 72, 73, 74, 75, 76, 77, 78] (by decide +kernel) (by decide +kernel)
set_option maxRecDepth 20000 in
theorem gX12_simplex_X12_laysHeights : GoodIn wsX12_simplex (wsV RX12 173 RX12 yX12_laysHeights wsX12_laysHeights) := goodIn_app (goodIn_of _ (by decide +kernel)) ggX12_simplex_X12_laysHeights
set_option maxRecDepth 20000 in
theorem ggX12_simplex_X12_facesOver : GoodIn wsX12_simplex wsX12_facesOver := goodIn_r _ [47, 10, 36, 37, 38, 8, 39, 2, 40, 41, 42, 43, 1, 14, 15, 16, 17, 18, 19, 20, 21, 22, 23, 24, 25, 26, 27, 48, 49, 50, 51, 52, 53, 54, 55, 56, 57, 58, 59, 60, 61, 62, 63, 64, 65, 66, 67, 68, 69, 70, 71, 72, 73, 74, 75, 76, 77, 78] (by decide +kernel) (by decide +kernel)
set_option maxRecDepth 20000 in
theorem gX12_simplex_X12_facesOver : GoodIn wsX12_simplex (wsV RX12 176 RX12 yX12_facesOver wsX12_facesOver) := goodIn_app (goodIn_of _ (by decide +kernel)) ggX12_simplex_X12_facesOver
set_option maxRecDepth 20000 in
theorem ggX12_isAcyclic_X12_isLower : GoodIn wsX12_isAcyclic wsX12_isLower := goodIn_r _ [7, 8, 32, 33, 34, 35, 36, 37, 38, 39, 40, 41, 42, 43, 44, 45, 46, 47, 48, 49, 50, 51, 52, 53, 54, 55, 56, 57, 58, 59, 60, 61, 62] (by decide +kernel) (by decide +kernel)
set_option maxRecDepth 20000 in
theorem gX12_isAcyclic_X12_isLower : GoodIn wsX12_isAcyclic (wsV RX12 170 RX12 yX12_isLower wsX12_isLower) := goodIn_app (goodIn_of _ (by decide +kernel)) ggX12_isAcyclic_X12_isLower
set_option maxRecDepth 20000 in
theorem ggX12_isAcyclic_X12_truth : GoodIn wsX12_isAcyclic wsX12_truth := goodIn_r _ [11] (by decide +kernel) (by decide +kernel)
set_option maxRecDepth 20000 in
theorem gX12_isAcyclic_X12_truth : GoodIn wsX12_isAcyclic (va_wsS RX12 105 yX12_truth wsX12_truth) := goodIn_app (goodIn_of _ (by decide +kernel)) ggX12_isAcyclic_X12_truth
set_option maxRecDepth 20000 in
theorem ggX12_isAcyclic_X12_leadsOn : GoodIn wsX12_isAcyclic wsX12_leadsOn := goodIn_r _ [15, 1, 2, 8, 16, 17, 18, 6, 19, 20, 21, 22, 23, 24, 25, 26, 27, 28, 29, 30, 31, 32, 33, 34, 35, 36, 37, 38, 39, 40, 41, 42, 43, 44, 45, 46, 47, 48, 49, 50, 51, 52, 53, 54, 55, 56, 57, 58, 59, 60, 61, 62] (by decide +kernel) (by decide +kernel)
set_option maxRecDepth 20000 in
theorem gX12_isAcyclic_X12_leadsOn : GoodIn wsX12_isAcyclic (wsV RX12 179 RX12 yX12_leadsOn wsX12_leadsOn) := goodIn_app (goodIn_of _ (by decide +kernel)) ggX12_isAcyclic_X12_leadsOn
set_option maxRecDepth 20000 in
theorem ggX12_leadsOn_X12_isFace : GoodIn wsX12_leadsOn wsX12_isFace := goodIn_r _ [8, 9, 10, 11, 12, 7, 13, 14, 15, 16, 17, 18, 19, 20, 21, 22, 23, 24, 25, 26, 27, 28, 29, 30, 31, 32, 33, 34, 35, 36, 37, 38, 39, 40, 41, 42, 43, 44, 45, 46, 47, 48, 49, 50, 51] (by decide +kernel) (by decide +kernel)
set_option maxRecDepth 20000 in
theorem gX12_leadsOn_X12_isFace : GoodIn wsX12_leadsOn (wsV RX12 152 RX12 yX12_isFace wsX12_isFace) := goodIn_app (goodIn_of _ (by decide +kernel)) ggX12_leadsOn_X12_isFace
set_option maxRecDepth 20000 in
theorem ggX12_couples_X12_isAcyclic : GoodIn wsX12_couples wsX12_isAcyclic := goodIn_r _ [6, 7, 8, 9, 10, 11, 5, 12, 1, 13, 14, 15, 16, 17, 18, 19, 20, 21, 22, 23, 24, 25, 26, 27, 28, 29, 30, 31, 32, 33, 34, 35, 36, 37, 38, 39, 40, 41, 42, 43, 44, 45, 46, 47, 48, 49, 50, 51, 52, 53, 54, 55, 56, 57, 58, 59, 60, 61, 62, 63, 64, 65, 66] (by decide +kernel) (by decide +kernel)
set_option maxRecDepth 20000 in
theorem gX12_couples_X12_isAcyclic : GoodIn wsX12_couples (wsV RX12 182 RX12 yX12_isAcyclic wsX12_isAcyclic) := goodIn_app (goodIn_of _ (by decide +kernel)) ggX12_couples_X12_isAcyclic
set_option maxRecDepth 20000 in
theorem ggX12_remembers_X12_truth : GoodIn wsX12_remembers wsX12_truth := goodIn_r _ [8] (by decide +kernel) (by decide +kernel)
set_option maxRecDepth 20000 in
theorem gX12_remembers_X12_truth : GoodIn wsX12_remembers (va_wsS RX12 105 yX12_truth wsX12_truth) := goodIn_app (goodIn_of _ (by decide +kernel)) ggX12_remembers_X12_truth
set_option maxRecDepth 20000 in
theorem ggX12_pair_X12_isThere : GoodIn wsX12_pair wsX12_isThere := goodIn_r _ [6, 7, 8, 9, 10, 5, 11, 12, 13, 14, 15, 74, 75, 76, 77, 78, 79, 80, 81, 82, 83, 84, 85, 86, 87, 88, 89, 90, 91, 92, 93, 94, 95, 96, 97, 98, 99, 100, 101, 102, 103, 104] (by decide +kernel) (by decide +kernel)
set_option maxRecDepth 20000 in
theorem gX12_pair_X12_isThere : GoodIn wsX12_pair (wsV RX12 156 RX12 yX12_isThere wsX12_isThere) := goodIn_app (goodIn_of _ (by decide +kernel)) ggX12_pair_X12_isThere
set_option maxRecDepth 20000 in
theorem ggX12_pair_X12_isFace : GoodIn wsX12_pair wsX12_isFace := goodIn_r _ [19, 20, 21, 22, 23, 5, 24, 25, 26, 27, 28, 29, 30, 31, 74, 75, 76, 77, 78, 79, 80, 81, 82, 83, 84, 85, 86, 87, 88, 89, 90, 91, 92, 93, 94, 95, 96, 97, 98, 99, 100, 101, 102, 103, 104] (by decide +kernel) (by decide +kernel)
set_option maxRecDepth 20000 in
theorem gX12_pair_X12_isFace : GoodIn wsX12_pair (wsV RX12 152 RX12 yX12_isFace wsX12_isFace) := goodIn_app (goodIn_of _ (by decide +kernel)) ggX12_pair_X12_isFace
set_option maxRecDepth 20000 in
theorem ggX12_pair_X12_isFree : GoodIn wsX12_pair wsX12_isFree := goodIn_r _ [35, 1, 74, 75, 76, 77, 78, 79, 80, 81, 82, 83, 84, 85, 86, 87, 88, 89, 90, 91, 92, 93, 94, 95, 96, 97, 98, 99, 100, 101, 102, 103, 104] (by decide +kernel) (by decide +kernel)
set_option maxRecDepth 20000 in
theorem gX12_pair_X12_isFree : GoodIn wsX12_pair (wsV RX12 185 RX12 yX12_isFree wsX12_isFree) := goodIn_app (goodIn_of _ (by decide +kernel)) ggX12_pair_X12_isFree
set_option maxRecDepth 20000 in
theorem ggX12_pair_X12_couples : GoodIn wsX12_pair wsX12_couples := goodIn_r _ [39, 1, 40, 41, 42, 5, 43, 12, 44, 45, 46, 47, 48, 49, 50, 51, 52, 53, 54, 55, 16, 17, 18, 19, 20, 21, 22, 23, 24, 25, 26, 27, 28, 29, 30, 31, 74, 75, 76, 77, 78, 79, 80, 81, 82, 83, 84, 85, 86, 87, 88, 89, 90, 91, 92, 93, 94, 95, 96, 97, 98, 99, 100, 101, 102, 103, 104] (by decide +kernel) (by decide +kernel)
set_option maxRecDepth 20000 in
theorem gX12_pair_X12_couples : GoodIn wsX12_pair (wsV RX12 188 RX12 yX12_couples wsX12_couples) := goodIn_app (goodIn_of _ (by decide +kernel)) ggX12_pair_X12_couples
set_option maxRecDepth 20000 in
theorem ggX12_pair_X12_frees : GoodIn wsX12_pair wsX12_frees := goodIn_r _ [59, 1, 74, 75, 76, 77, 78, 79, 80, 81, 82, 83, 84, 85, 86, 87, 88, 89, 90, 91, 92, 93, 94, 95, 96, 97, 98, 99, 100, 101, 102, 103, 104] (by decide +kernel) (by decide +kernel)
set_option maxRecDepth 20000 in
theorem gX12_pair_X12_frees : GoodIn wsX12_pair (wsV RX12 191 RX12 yX12_frees wsX12_frees) := goodIn_app (goodIn_of _ (by decide +kernel)) ggX12_pair_X12_frees
set_option maxRecDepth 20000 in
theorem ggX12_pair_X12_remembers : GoodIn wsX12_pair wsX12_remembers := goodIn_r _ [63, 64, 65, 1, 7, 49, 50, 5, 51, 74, 75, 76, 77, 78, 79, 80, 81, 82, 83, 84, 85, 86, 87, 88, 89, 90, 91, 92, 93, 94, 95, 96, 97, 98, 99, 100, 101, 102, 103, 104] (by decide +kernel) (by decide +kernel)
set_option maxRecDepth 20000 in
theorem gX12_pair_X12_remembers : GoodIn wsX12_pair (wsV RX12 194 RX12 yX12_remembers wsX12_remembers) := goodIn_app (goodIn_of _ (by decide +kernel)) ggX12_pair_X12_remembers
set_option maxRecDepth 20000 in
theorem ggX12_pair_X12_criticalMany : GoodIn wsX12_pair wsX12_criticalMany := goodIn_r _ [69, 12, 70, 71, 72, 5, 73, 1, 2, 3, 4, 6, 7, 8, 9, 10, 11, 13, 14, 15, 49, 50, 51, 74, 75, 76, 77, 78, 79, 80, 81, 82, 83, 84, 85, 86, 87, 88, 89, 90, 91, 92, 93, 94, 95, 96, 97, 98, 99, 100, 101, 102, 103, 104] (by decide +kernel) (by decide +kernel)
set_option maxRecDepth 20000 in
theorem gX12_pair_X12_criticalMany : GoodIn wsX12_pair (wsV RX12 197 RX12 yX12_criticalMany wsX12_criticalMany) := goodIn_app (goodIn_of _ (by decide +kernel)) ggX12_pair_X12_criticalMany
set_option maxRecDepth 20000 in
theorem ggX12_part_X12_isSimplex : GoodIn wsX12_part wsX12_isSimplex := goodIn_r _ [6, 7, 8, 9, 5, 10, 37, 38, 39, 40, 41, 42, 43, 44, 45, 46, 47, 48, 49, 50, 51, 52, 53, 54, 55, 56, 57, 58, 59, 60, 61, 62, 63, 64, 65, 66, 67] (by decide +kernel) (by decide +kernel)
set_option maxRecDepth 20000 in
theorem gX12_part_X12_isSimplex : GoodIn wsX12_part (wsV RX12 145 RX12 yX12_isSimplex wsX12_isSimplex) := goodIn_app (goodIn_of _ (by decide +kernel)) ggX12_part_X12_isSimplex
set_option maxRecDepth 20000 in
theorem ggX12_part_X12_remembers : GoodIn wsX12_part wsX12_remembers := goodIn_r _ [14, 15, 16, 1, 17, 18, 19, 5, 20, 37, 38, 39, 40, 41, 42, 43, 44, 45, 46, 47, 48, 49, 50, 51, 52, 53, 54, 55, 56, 57, 58, 59, 60, 61, 62, 63, 64, 65, 66, 67] (by decide +kernel) (by decide +kernel)
set_option maxRecDepth 20000 in
theorem gX12_part_X12_remembers : GoodIn wsX12_part (wsV RX12 194 RX12 yX12_remembers wsX12_remembers) := goodIn_app (goodIn_of _ (by decide +kernel)) ggX12_part_X12_remembers
set_option maxRecDepth 20000 in
theorem ggX12_part_X12_frees : GoodIn wsX12_part wsX12_frees := goodIn_r _ [24, 1, 37, 38, 39, 40, 41, 42, 43, 44, 45, 46, 47, 48, 49, 50, 51, 52, 53, 54, 55, 56, 57, 58, 59, 60, 61, 62, 63, 64, 65, 66, 67] (by decide +kernel) (by decide +kernel)
set_option maxRecDepth 20000 in
theorem gX12_part_X12_frees : GoodIn wsX12_part (wsV RX12 191 RX12 yX12_frees wsX12_frees) := goodIn_app (goodIn_of _ (by decide +kernel)) ggX12_part_X12_frees
set_option maxRecDepth 20000 in
theorem ggX12_part_X12_criticalMany : GoodIn wsX12_part wsX12_criticalMany := goodIn_r _ [28, 7, 29, 30, 31, 5, 32, 1, 33, 34, 35, 36, 17, 2, 3, 4, 6, 8, 9, 10, 18, 19, 20, 37, 38, 39, 40, 41, 42, 43, 44, 45, 46, 47, 48, 49, 50, 51, 52, 53, 54, 55, 56, 57, 58, 59, 60, 61, 62, 63, 64, 65, 66, 67] (by decide +kernel) (by decide +kernel)
set_option maxRecDepth 20000 in
theorem gX12_part_X12_criticalMany : GoodIn wsX12_part (wsV RX12 197 RX12 yX12_criticalMany wsX12_criticalMany) := goodIn_app (goodIn_of _ (by decide +kernel)) ggX12_part_X12_criticalMany
set_option maxRecDepth 20000 in
theorem ggX12_auto0_X12_isCritical : GoodIn wsX12_auto0 wsX12_isCritical := goodIn_r _ [6, 7, 8, 9, 10, 5, 11, 12, 13, 14, 15, 16, 1, 17, 18, 19, 64, 65, 66, 67, 68, 69, 70, 71, 72, 73, 74, 75, 76, 77, 78, 79, 80, 81, 82, 83, 84, 85, 86, 87, 88, 89, 90, 91, 92, 93, 94] (by decide +kernel) (by decide +kernel)
set_option maxRecDepth 20000 in
theorem gX12_auto0_X12_isCritical : GoodIn wsX12_auto0 (wsV RX12 159 RX12 yX12_isCritical wsX12_isCritical) := goodIn_app (goodIn_of _ (by decide +kernel)) ggX12_auto0_X12_isCritical
set_option maxRecDepth 20000 in
theorem ggX12_auto0_X12_isFaceThere : GoodIn wsX12_auto0 wsX12_isFaceThere := goodIn_r _ [23, 12, 24, 25, 26, 5, 27, 28, 29, 30, 31, 32, 33, 34, 35, 36, 37, 38, 39, 64, 65, 66, 67, 68, 69, 70, 71, 72, 73, 74, 75, 76, 77, 78, 79, 80, 81, 82, 83, 84, 85, 86, 87, 88, 89, 90, 91, 92, 93, 94] (by decide +kernel) (by decide +kernel)
set_option maxRecDepth 20000 in
theorem gX12_auto0_X12_isFaceThere : GoodIn wsX12_auto0 (wsV RX12 162 RX12 yX12_isFaceThere wsX12_isFaceThere) := goodIn_app (goodIn_of _ (by decide +kernel)) ggX12_auto0_X12_isFaceThere
set_option maxRecDepth 20000 in
theorem ggX12_auto0_X12_isFree : GoodIn wsX12_auto0 wsX12_isFree := goodIn_r _ [43, 7, 64, 65, 66, 67, 68, 69, 70, 71, 72, 73, 74, 75, 76, 77, 78, 79, 80, 81, 82, 83, 84, 85, 86, 87, 88, 89, 90, 91, 92, 93, 94] (by decide +kernel) (by decide +kernel)
set_option maxRecDepth 20000 in
theorem gX12_auto0_X12_isFree : GoodIn wsX12_auto0 (wsV RX12 185 RX12 yX12_isFree wsX12_isFree) := goodIn_app (goodIn_of _ (by decide +kernel)) ggX12_auto0_X12_isFree
set_option maxRecDepth 20000 in
theorem ggX12_auto0_X12_couples : GoodIn wsX12_auto0 wsX12_couples := goodIn_r _ [47, 7, 48, 49, 50, 5, 51, 1, 52, 53, 54, 55, 56, 57, 58, 59, 60, 61, 62, 63, 24, 25, 26, 27, 28, 29, 30, 31, 32, 33, 34, 35, 36, 37, 38, 39, 64, 65, 66, 67, 68, 69, 70, 71, 72, 73, 74, 75, 76, 77, 78, 79, 80, 81, 82, 83, 84, 85, 86, 87, 88, 89, 90, 91, 92, 93, 94] (by decide +kernel) (by decide +kernel)
set_option maxRecDepth 20000 in
theorem gX12_auto0_X12_couples : GoodIn wsX12_auto0 (wsV RX12 188 RX12 yX12_couples wsX12_couples) := goodIn_app (goodIn_of _ (by decide +kernel)) ggX12_auto0_X12_couples
set_option maxRecDepth 20000 in
theorem ggX12_auto1_X12_isCritical : GoodIn wsX12_auto1 wsX12_isCritical := goodIn_r _ [6, 7, 8, 9, 10, 5, 11, 12, 13, 14, 15, 16, 1, 17, 18, 19, 64, 65, 66, 67, 68, 69, 70, 71, 72, 73, 74, 75, 76, 77, 78, 79, 80, 81, 82, 83, 84, 85, 86, 87, 88, 89, 90, 91, 92, 93, 94] (by decide +kernel) (by decide +kernel)
set_option maxRecDepth 20000 in
theorem gX12_auto1_X12_isCritical : GoodIn wsX12_auto1 (wsV RX12 159 RX12 yX12_isCritical wsX12_isCritical) := goodIn_app (goodIn_of _ (by decide +kernel)) ggX12_auto1_X12_isCritical
set_option maxRecDepth 20000 in
theorem ggX12_auto1_X12_isFaceThere : GoodIn wsX12_auto1 wsX12_isFaceThere := goodIn_r _ [23, 12, 24, 25, 26, 5, 27, 28, 29, 30, 31, 32, 33, 34, 35, 36, 37, 38, 39, 64, 65, 66, 67, 68, 69, 70, 71, 72, 73, 74, 75, 76, 77, 78, 79, 80, 81, 82, 83, 84, 85, 86, 87, 88, 89, 90, 91, 92, 93, 94] (by decide +kernel) (by decide +kernel)
set_option maxRecDepth 20000 in
theorem gX12_auto1_X12_isFaceThere : GoodIn wsX12_auto1 (wsV RX12 162 RX12 yX12_isFaceThere wsX12_isFaceThere) := goodIn_app (goodIn_of _ (by decide +kernel)) ggX12_auto1_X12_isFaceThere
set_option maxRecDepth 20000 in
theorem ggX12_auto1_X12_isFree : GoodIn wsX12_auto1 wsX12_isFree := goodIn_r _ [43, 7, 64, 65, 66, 67, 68, 69, 70, 71, 72, 73, 74, 75, 76, 77, 78, 79, 80, 81, 82, 83, 84, 85, 86, 87, 88, 89, 90, 91, 92, 93, 94] (by decide +kernel) (by decide +kernel)
set_option maxRecDepth 20000 in
theorem gX12_auto1_X12_isFree : GoodIn wsX12_auto1 (wsV RX12 185 RX12 yX12_isFree wsX12_isFree) := goodIn_app (goodIn_of _ (by decide +kernel)) ggX12_auto1_X12_isFree
set_option maxRecDepth 20000 in
theorem ggX12_auto1_X12_couples : GoodIn wsX12_auto1 wsX12_couples := goodIn_r _ [47, 7, 48, 49, 50, 5, 51, 1, 52, 53, 54, 55, 56, 57, 58, 59, 60, 61, 62, 63, 24, 25, 26, 27, 28, 29, 30, 31, 32, 33, 34, 35, 36, 37, 38, 39, 64, 65, 66, 67, 68, 69, 70, 71, 72, 73, 74, 75, 76, 77, 78, 79, 80, 81, 82, 83, 84, 85, 86, 87, 88, 89, 90, 91, 92, 93, 94] (by decide +kernel) (by decide +kernel)
set_option maxRecDepth 20000 in
theorem gX12_auto1_X12_couples : GoodIn wsX12_auto1 (wsV RX12 188 RX12 yX12_couples wsX12_couples) := goodIn_app (goodIn_of _ (by decide +kernel)) ggX12_auto1_X12_couples
set_option maxRecDepth 20000 in
theorem ggX12_opensAll_X12_clearsPairs : GoodIn wsX12_opensAll wsX12_clearsPairs := goodIn_r _ [8, 1, 9, 10, 11, 12, 13, 14, 15, 16, 17, 18, 19, 20, 21, 22, 23, 24, 25, 26, 27, 28, 29, 30, 31, 32, 33, 34, 35, 36, 37, 38, 39, 40] (by decide +kernel) (by decide +kernel)
set_option maxRecDepth 20000 in
theorem gX12_opensAll_X12_clearsPairs : GoodIn wsX12_opensAll (wsV RX12 200 RX12 yX12_clearsPairs wsX12_clearsPairs) := goodIn_app (goodIn_of _ (by decide +kernel)) ggX12_opensAll_X12_clearsPairs
set_option maxRecDepth 20000 in
theorem ggX12_onlyOver_X12_isFace : GoodIn wsX12_onlyOver wsX12_isFace := goodIn_r _ [7, 8, 9, 10, 11, 6, 12, 13, 14, 15, 16, 17, 18, 19, 20, 21, 22, 23, 24, 25, 26, 27, 28, 29, 30, 31, 32, 33, 34, 35, 36, 37, 38, 39, 40, 41, 42, 43, 44, 45, 46, 47, 48, 49, 50] (by decide +kernel) (by decide +kernel)
set_option maxRecDepth 20000 in
theorem gX12_onlyOver_X12_isFace : GoodIn wsX12_onlyOver (wsV RX12 152 RX12 yX12_isFace wsX12_isFace) := goodIn_app (goodIn_of _ (by decide +kernel)) ggX12_onlyOver_X12_isFace
set_option maxRecDepth 20000 in
theorem ggX12_auto2_X12_opensAll : GoodIn wsX12_auto2 wsX12_opensAll := goodIn_r _ [7, 1, 2, 8, 9, 10, 11, 6, 12, 13, 38, 39, 40, 41, 42, 43, 44, 45, 46, 47, 48, 49, 50, 51, 52, 53, 54, 55, 56, 57, 58, 59, 60, 61, 62, 63, 64, 65, 66, 67, 68] (by decide +kernel) (by decide +kernel)
set_option maxRecDepth 20000 in
theorem gX12_auto2_X12_opensAll : GoodIn wsX12_auto2 (wsV RX12 203 RX12 yX12_opensAll wsX12_opensAll) := goodIn_app (goodIn_of _ (by decide +kernel)) ggX12_auto2_X12_opensAll
set_option maxRecDepth 20000 in
theorem ggX12_auto2_X12_onlyOver : GoodIn wsX12_auto2 wsX12_onlyOver := goodIn_r _ [17, 1, 2, 18, 19, 20, 6, 21, 22, 23, 24, 25, 26, 27, 28, 29, 30, 31, 32, 33, 38, 39, 40, 41, 42, 43, 44, 45, 46, 47, 48, 49, 50, 51, 52, 53, 54, 55, 56, 57, 58, 59, 60, 61, 62, 63, 64, 65, 66, 67, 68] (by decide +kernel) (by decide +kernel)
set_option maxRecDepth 20000 in
theorem gX12_auto2_X12_onlyOver : GoodIn wsX12_auto2 (wsV RX12 206 RX12 yX12_onlyOver wsX12_onlyOver) := goodIn_app (goodIn_of _ (by decide +kernel)) ggX12_auto2_X12_onlyOver
set_option maxRecDepth 20000 in
theorem ggX12_auto2_X12_closes : GoodIn wsX12_auto2 wsX12_closes := goodIn_r _ [37, 13, 2, 38, 39, 40, 41, 42, 43, 44, 45, 46, 47, 48, 49, 50, 51, 52, 53, 54, 55, 56, 57, 58, 59, 60, 61, 62, 63, 64, 65, 66, 67, 68] (by decide +kernel) (by decide +kernel)
set_option maxRecDepth 20000 in
theorem gX12_auto2_X12_closes : GoodIn wsX12_auto2 (wsV RX12 209 RX12 yX12_closes wsX12_closes) := goodIn_app (goodIn_of _ (by decide +kernel)) ggX12_auto2_X12_closes
set_option maxRecDepth 20000 in
theorem ggX12_auto_X12_in : GoodIn wsX12_auto wsX12_in := goodIn_r _ [5] (by decide +kernel) (by decide +kernel)
set_option maxRecDepth 20000 in
theorem gX12_auto_X12_in : GoodIn wsX12_auto (va_wsS RX12 101 yX12_in wsX12_in) := goodIn_app (goodIn_of _ (by decide +kernel)) ggX12_auto_X12_in
set_option maxRecDepth 20000 in
theorem ggX12_auto_X12_remembers : GoodIn wsX12_auto wsX12_remembers := goodIn_r _ [9, 10, 11, 12, 13, 14, 15, 4, 16, 103, 104, 105, 106, 107, 108, 109, 110, 111, 112, 113, 114, 115, 116, 117, 118, 119, 120, 121, 122, 123, 124, 125, 126, 127, 128, 129, 130, 131, 132, 133] (by decide +kernel) (by decide +kernel)
set_option maxRecDepth 20000 in
theorem gX12_auto_X12_remembers : GoodIn wsX12_auto (wsV RX12 194 RX12 yX12_remembers wsX12_remembers) := goodIn_app (goodIn_of _ (by decide +kernel)) ggX12_auto_X12_remembers
set_option maxRecDepth 20000 in
theorem ggX12_auto_X12_clearsPairs : GoodIn wsX12_auto wsX12_clearsPairs := goodIn_r _ [20, 1, 12, 103, 104, 105, 106, 107, 108, 109, 110, 111, 112, 113, 114, 115, 116, 117, 118, 119, 120, 121, 122, 123, 124, 125, 126, 127, 128, 129, 130, 131, 132, 133] (by decide +kernel) (by decide +kernel)
set_option maxRecDepth 20000 in
theorem gX12_auto_X12_clearsPairs : GoodIn wsX12_auto (wsV RX12 200 RX12 yX12_clearsPairs wsX12_clearsPairs) := goodIn_app (goodIn_of _ (by decide +kernel)) ggX12_auto_X12_clearsPairs
set_option maxRecDepth 20000 in
theorem ggX12_auto_X12_auto0 : GoodIn wsX12_auto wsX12_auto0 := goodIn_r _ [24, 1, 25, 26, 27, 4, 28, 12, 29, 30, 31, 32, 13, 33, 34, 35, 36, 2, 3, 5, 37, 38, 39, 40, 41, 42, 43, 44, 45, 46, 47, 48, 49, 50, 51, 52, 53, 54, 55, 56, 57, 58, 59, 60, 61, 62, 63, 64, 65, 66, 67, 68, 69, 70, 71, 72, 73, 14, 15, 16, 74, 75, 76, 77, 103, 104, 105, 106, 107, 108, 109, 110, 111, 112, 113, 114, 115, 116, 117, 118, 119, 120, 121, 122, 123, 124, 125, 126, 127, 128, 129, 130, 131, 132, 133] (by decide +kernel) (by decide +kernel)
set_option maxRecDepth 20000 in
theorem gX12_auto_X12_auto0 : GoodIn wsX12_auto (wsV RX12 212 RX12 yX12_auto0 wsX12_auto0) := goodIn_app (goodIn_of _ (by decide +kernel)) ggX12_auto_X12_auto0
set_option maxRecDepth 20000 in
theorem ggX12_auto_X12_auto1 : GoodIn wsX12_auto wsX12_auto1 := goodIn_r _ [81, 1, 25, 26, 27, 4, 28, 12, 29, 30, 31, 32, 13, 33, 34, 35, 36, 2, 3, 5, 37, 38, 39, 40, 41, 42, 43, 44, 45, 46, 47, 48, 49, 50, 51, 52, 53, 54, 55, 56, 57, 58, 59, 60, 61, 62, 63, 64, 65, 66, 67, 68, 69, 70, 71, 72, 73, 14, 15, 16, 74, 75, 76, 77, 103, 104, 105, 106, 107, 108, 109, 110, 111, 112, 113, 114, 115, 116, 117, 118, 119, 120, 121, 122, 123, 124, 125, 126, 127, 128, 129, 130, 131, 132, 133] (by decide +kernel) (by decide +kernel)
set_option maxRecDepth 20000 in
theorem gX12_auto_X12_auto1 : GoodIn wsX12_auto (wsV RX12 215 RX12 yX12_auto1 wsX12_auto1) := goodIn_app (goodIn_of _ (by decide +kernel)) ggX12_auto_X12_auto1
set_option maxRecDepth 20000 in
theorem ggX12_auto_X12_auto2 : GoodIn wsX12_auto wsX12_auto2 := goodIn_r _ [85, 1, 86, 87, 88, 89, 4, 90, 13, 17, 18, 19, 20, 12, 91, 92, 93, 94, 41, 42, 43, 44, 45, 46, 47, 48, 49, 50, 51, 52, 53, 54, 55, 56, 95, 96, 97, 98, 103, 104, 105, 106, 107, 108, 109, 110, 111, 112, 113, 114, 115, 116, 117, 118, 119, 120, 121, 122, 123, 124, 125, 126, 127, 128, 129, 130, 131, 132, 133] (by decide +kernel) (by decide +kernel)
set_option maxRecDepth 20000 in
theorem gX12_auto_X12_auto2 : GoodIn wsX12_auto (wsV RX12 218 RX12 yX12_auto2 wsX12_auto2) := goodIn_app (goodIn_of _ (by decide +kernel)) ggX12_auto_X12_auto2
set_option maxRecDepth 20000 in
theorem ggX12_auto_X12_criticalMany : GoodIn wsX12_auto wsX12_criticalMany := goodIn_r _ [102, 1, 25, 26, 27, 4, 28, 12, 29, 30, 31, 32, 13, 33, 34, 35, 36, 2, 3, 5, 14, 15, 16, 103, 104, 105, 106, 107, 108, 109, 110, 111, 112, 113, 114, 115, 116, 117, 118, 119, 120, 121, 122, 123, 124, 125, 126, 127, 128, 129, 130, 131, 132, 133] (by decide +kernel) (by decide +kernel)
set_option maxRecDepth 20000 in
theorem gX12_auto_X12_criticalMany : GoodIn wsX12_auto (wsV RX12 197 RX12 yX12_criticalMany wsX12_criticalMany) := goodIn_app (goodIn_of _ (by decide +kernel)) ggX12_auto_X12_criticalMany
set_option maxRecDepth 20000 in
theorem ggX12_areEnds_X12_isCritical : GoodIn wsX12_areEnds wsX12_isCritical := goodIn_r _ [5, 6, 7, 8, 9, 4, 10, 11, 12, 13, 14, 15, 16, 17, 18, 19, 32, 33, 34, 35, 36, 37, 38, 39, 40, 41, 42, 43, 44, 45, 46, 47, 48, 49, 50, 51, 52, 53, 54, 55, 56, 57, 58, 59, 60, 61, 62] (by decide +kernel) (by decide +kernel)
set_option maxRecDepth 20000 in
theorem gX12_areEnds_X12_isCritical : GoodIn wsX12_areEnds (wsV RX12 159 RX12 yX12_isCritical wsX12_isCritical) := goodIn_app (goodIn_of _ (by decide +kernel)) ggX12_areEnds_X12_isCritical
set_option maxRecDepth 20000 in
theorem ggX12_areEnds_X12_dimOf : GoodIn wsX12_areEnds wsX12_dimOf := goodIn_r _ [23, 24, 25, 26, 27, 28, 29, 30, 31, 32, 33, 34, 35, 36, 37, 38, 39, 40, 41, 42, 43, 44, 45, 46, 47, 48, 49, 50, 51, 52, 53, 54, 55, 56, 57, 58, 59, 60, 61, 62] (by decide +kernel) (by decide +kernel)
set_option maxRecDepth 20000 in
theorem gX12_areEnds_X12_dimOf : GoodIn wsX12_areEnds (wsV RX12 149 RX12 yX12_dimOf wsX12_dimOf) := goodIn_app (goodIn_of _ (by decide +kernel)) ggX12_areEnds_X12_dimOf
set_option maxRecDepth 20000 in
theorem ggX12_laysWays_X12_isThere : GoodIn wsX12_laysWays wsX12_isThere := goodIn_r _ [9, 10, 11, 12, 13, 8, 14, 1, 15, 16, 17, 54, 55, 56, 57, 58, 59, 60, 61, 62, 63, 64, 65, 66, 67, 68, 69, 70, 71, 72, 73, 74, 75, 76, 77, 78, 79, 80, 81, 82, 83, 84] (by decide +kernel) (by decide +kernel)
set_option maxRecDepth 20000 in
theorem gX12_laysWays_X12_isThere : GoodIn wsX12_laysWays (wsV RX12 156 RX12 yX12_isThere wsX12_isThere) := goodIn_app (goodIn_of _ (by decide +kernel)) ggX12_laysWays_X12_isThere
set_option maxRecDepth 20000 in
theorem ggX12_laysWays_X12_isLower : GoodIn wsX12_laysWays wsX12_isLower := goodIn_r _ [21, 22, 54, 55, 56, 57, 58, 59, 60, 61, 62, 63, 64, 65, 66, 67, 68, 69, 70, 71, 72, 73, 74, 75, 76, 77, 78, 79, 80, 81, 82, 83, 84] (by decide +kernel) (by decide +kernel)
set_option maxRecDepth 20000 in
theorem gX12_laysWays_X12_isLower : GoodIn wsX12_laysWays (wsV RX12 170 RX12 yX12_isLower wsX12_isLower) := goodIn_app (goodIn_of _ (by decide +kernel)) ggX12_laysWays_X12_isLower
set_option maxRecDepth 20000 in
theorem ggX12_laysWays_X12_dimOf : GoodIn wsX12_laysWays wsX12_dimOf := goodIn_r _ [26, 27, 28, 29, 30, 31, 32, 33, 34, 54, 55, 56, 57, 58, 59, 60, 61, 62, 63, 64, 65, 66, 67, 68, 69, 70, 71, 72, 73, 74, 75, 76, 77, 78, 79, 80, 81, 82, 83, 84] (by decide +kernel) (by decide +kernel)
set_option maxRecDepth 20000 in
theorem gX12_laysWays_X12_dimOf : GoodIn wsX12_laysWays (wsV RX12 149 RX12 yX12_dimOf wsX12_dimOf) := goodIn_app (goodIn_of _ (by decide +kernel)) ggX12_laysWays_X12_dimOf
set_option maxRecDepth 20000 in
theorem ggX12_laysWays_X12_truth : GoodIn wsX12_laysWays wsX12_truth := goodIn_r _ [37] (by decide +kernel) (by decide +kernel)
set_option maxRecDepth 20000 in
theorem gX12_laysWays_X12_truth : GoodIn wsX12_laysWays (va_wsS RX12 105 yX12_truth wsX12_truth) := goodIn_app (goodIn_of _ (by decide +kernel)) ggX12_laysWays_X12_truth
set_option maxRecDepth 20000 in
theorem ggX12_laysWays_X12_laysWay : GoodIn wsX12_laysWays wsX12_laysWay := goodIn_r _ [41, 22, 1, 2, 3, 4, 42, 43, 44, 8, 45, 10, 46, 47, 48, 49, 27, 23, 24, 25, 26, 28, 29, 30, 31, 32, 33, 34, 50, 51, 52, 53, 54, 55, 56, 57, 58, 59, 60, 61, 62, 63, 64, 65, 66, 67, 68, 69, 70, 71, 72, 73, 74, 75, 76, 77, 78, 79, 80, 81, 82, 83, 84] (by decide +kernel) (by decide +kernel)
set_option maxRecDepth 20000 in
theorem gX12_laysWays_X12_laysWay : GoodIn wsX12_laysWays (wsV RX12 223 RX12 yX12_laysWay wsX12_laysWay) := goodIn_app (goodIn_of _ (by decide +kernel)) ggX12_laysWays_X12_laysWay
set_option maxRecDepth 20000 in
theorem ggX12_laysWay_X12_isFaceThere : GoodIn wsX12_laysWay wsX12_isFaceThere := goodIn_r _ [10, 11, 12, 13, 14, 9, 15, 16, 17, 18, 19, 20, 21, 22, 23, 24, 25, 26, 27, 32, 33, 34, 35, 36, 37, 38, 39, 40, 41, 42, 43, 44, 45, 46, 47, 48, 49, 50, 51, 52, 53, 54, 55, 56, 57, 58, 59, 60, 61, 62] (by decide +kernel) (by decide +kernel)
set_option maxRecDepth 20000 in
theorem gX12_laysWay_X12_isFaceThere : GoodIn wsX12_laysWay (wsV RX12 162 RX12 yX12_isFaceThere wsX12_isFaceThere) := goodIn_app (goodIn_of _ (by decide +kernel)) ggX12_laysWay_X12_isFaceThere
set_option maxRecDepth 20000 in
theorem ggX12_laysWay_X12_signOf : GoodIn wsX12_laysWay wsX12_signOf := goodIn_r _ [31, 16, 21, 22, 23, 24, 25, 26, 27, 32, 33, 34, 35, 36, 37, 38, 39, 40, 41, 42, 43, 44, 45, 46, 47, 48, 49, 50, 51, 52, 53, 54, 55, 56, 57, 58, 59, 60, 61, 62] (by decide +kernel) (by decide +kernel)
set_option maxRecDepth 20000 in
theorem gX12_laysWay_X12_signOf : GoodIn wsX12_laysWay (wsV RX12 166 RX12 yX12_signOf wsX12_signOf) := goodIn_app (goodIn_of _ (by decide +kernel)) ggX12_laysWay_X12_signOf
set_option maxRecDepth 20000 in
theorem ggX12_waysFrom_X12_laysWays : GoodIn wsX12_waysFrom wsX12_laysWays := goodIn_r _ [7, 1, 2, 8, 9, 10, 11, 12, 6, 13, 14, 15, 16, 17, 18, 19, 20, 21, 22, 23, 24, 25, 26, 27, 28, 29, 30, 31, 32, 33, 34, 35, 36, 37, 38, 39, 40, 41, 42, 43, 44, 45, 46, 47, 48, 49, 50, 51, 52, 53, 54, 55, 56, 57, 58, 59, 60, 61, 62, 63, 64, 65, 66, 67, 68, 69, 70, 71, 72, 73, 74, 75, 76, 77, 78, 79, 80, 81, 82, 83, 84, 85, 86, 87, 88] (by decide +kernel) (by decide +kernel)
set_option maxRecDepth 20000 in
theorem gX12_waysFrom_X12_laysWays : GoodIn wsX12_waysFrom (wsV RX12 226 RX12 yX12_laysWays wsX12_laysWays) := goodIn_app (goodIn_of _ (by decide +kernel)) ggX12_waysFrom_X12_laysWays
set_option maxRecDepth 20000 in
theorem ggX12_waysFrom_X12_isFaceThere : GoodIn wsX12_waysFrom wsX12_isFaceThere := goodIn_r _ [49, 14, 50, 51, 52, 6, 53, 31, 27, 28, 29, 30, 32, 33, 34, 35, 36, 37, 38, 58, 59, 60, 61, 62, 63, 64, 65, 66, 67, 68, 69, 70, 71, 72, 73, 74, 75, 76, 77, 78, 79, 80, 81, 82, 83, 84, 85, 86, 87, 88] (by decide +kernel) (by decide +kernel)
set_option maxRecDepth 20000 in
theorem gX12_waysFrom_X12_isFaceThere : GoodIn wsX12_waysFrom (wsV RX12 162 RX12 yX12_isFaceThere wsX12_isFaceThere) := goodIn_app (goodIn_of _ (by decide +kernel)) ggX12_waysFrom_X12_isFaceThere
set_option maxRecDepth 20000 in
theorem ggX12_incidenceOf_X12_laysWays : GoodIn wsX12_incidenceOf wsX12_laysWays := goodIn_r _ [7, 1, 8, 9, 2, 10, 11, 12, 6, 13, 14, 15, 16, 17, 18, 19, 20, 21, 22, 23, 24, 25, 26, 27, 28, 29, 30, 31, 32, 33, 34, 35, 36, 37, 38, 39, 40, 41, 42, 43, 44, 45, 46, 47, 48, 49, 50, 51, 52, 53, 54, 55, 56, 57, 58, 59, 60, 61, 62, 63, 64, 65, 66, 67, 68, 69, 70, 71, 72, 73, 74, 75, 76, 77, 78, 79, 80, 81, 82, 83, 84, 85, 86, 87, 88] (by decide +kernel) (by decide +kernel)
set_option maxRecDepth 20000 in
theorem gX12_incidenceOf_X12_laysWays : GoodIn wsX12_incidenceOf (wsV RX12 226 RX12 yX12_laysWays wsX12_laysWays) := goodIn_app (goodIn_of _ (by decide +kernel)) ggX12_incidenceOf_X12_laysWays
set_option maxRecDepth 20000 in
theorem ggX12_incidenceOf_X12_isFaceThere : GoodIn wsX12_incidenceOf wsX12_isFaceThere := goodIn_r _ [49, 14, 50, 51, 52, 6, 53, 31, 27, 28, 29, 30, 32, 33, 34, 35, 36, 37, 38, 58, 59, 60, 61, 62, 63, 64, 65, 66, 67, 68, 69, 70, 71, 72, 73, 74, 75, 76, 77, 78, 79, 80, 81, 82, 83, 84, 85, 86, 87, 88] (by decide +kernel) (by decide +kernel)
set_option maxRecDepth 20000 in
theorem gX12_incidenceOf_X12_isFaceThere : GoodIn wsX12_incidenceOf (wsV RX12 162 RX12 yX12_isFaceThere wsX12_isFaceThere) := goodIn_app (goodIn_of _ (by decide +kernel)) ggX12_incidenceOf_X12_isFaceThere
set_option maxRecDepth 20000 in
theorem ggX12_incidenceOf_X12_signOf : GoodIn wsX12_incidenceOf wsX12_signOf := goodIn_r _ [57, 31, 32, 33, 34, 35, 36, 37, 38, 58, 59, 60, 61, 62, 63, 64, 65, 66, 67, 68, 69, 70, 71, 72, 73, 74, 75, 76, 77, 78, 79, 80, 81, 82, 83, 84, 85, 86, 87, 88] (by decide +kernel) (by decide +kernel)
set_option maxRecDepth 20000 in
theorem gX12_incidenceOf_X12_signOf : GoodIn wsX12_incidenceOf (wsV RX12 166 RX12 yX12_signOf wsX12_signOf) := goodIn_app (goodIn_of _ (by decide +kernel)) ggX12_incidenceOf_X12_signOf
set_option maxRecDepth 20000 in
theorem ggX12_paths_X12_areEnds : GoodIn wsX12_paths wsX12_areEnds := goodIn_r _ [6, 7, 8, 9, 5, 10, 11, 12, 13, 14, 15, 16, 17, 18, 19, 20, 21, 22, 23, 24, 25, 26, 27, 28, 29, 30, 31, 32, 33, 34, 35, 36, 71, 72, 73, 74, 75, 76, 77, 78, 79, 80, 81, 82, 83, 84, 85, 86, 87, 88, 89, 90, 91, 92, 93, 94, 95, 96, 97, 98, 99, 100, 101] (by decide +kernel) (by decide +kernel)
set_option maxRecDepth 20000 in
theorem gX12_paths_X12_areEnds : GoodIn wsX12_paths (wsV RX12 229 RX12 yX12_areEnds wsX12_areEnds) := goodIn_app (goodIn_of _ (by decide +kernel)) ggX12_paths_X12_areEnds
set_option maxRecDepth 20000 in
theorem ggX12_paths_X12_waysFrom : GoodIn wsX12_paths wsX12_waysFrom := goodIn_r _ [40, 21, 41, 42, 43, 44, 5, 45, 46, 47, 12, 13, 14, 15, 16, 17, 18, 19, 20, 22, 23, 24, 48, 49, 50, 51, 11, 25, 26, 27, 28, 29, 30, 31, 32, 33, 34, 35, 36, 52, 53, 54, 55, 56, 57, 58, 59, 60, 61, 62, 63, 64, 65, 66, 67, 68, 69, 70, 71, 72, 73, 74, 75, 76, 77, 78, 79, 80, 81, 82, 83, 84, 85, 86, 87, 88, 89, 90, 91, 92, 93, 94, 95, 96, 97, 98, 99, 100, 101] (by decide +kernel) (by decide +kernel)
set_option maxRecDepth 20000 in
theorem gX12_paths_X12_waysFrom : GoodIn wsX12_paths (wsV RX12 232 RX12 yX12_waysFrom wsX12_waysFrom) := goodIn_app (goodIn_of _ (by decide +kernel)) ggX12_paths_X12_waysFrom
set_option maxRecDepth 20000 in
theorem ggX12_incidence_X12_areEnds : GoodIn wsX12_incidence wsX12_areEnds := goodIn_r _ [6, 7, 8, 9, 5, 10, 11, 12, 13, 14, 15, 16, 17, 18, 19, 20, 21, 22, 23, 24, 25, 26, 27, 28, 29, 30, 31, 32, 33, 34, 35, 36, 71, 72, 73, 74, 75, 76, 77, 78, 79, 80, 81, 82, 83, 84, 85, 86, 87, 88, 89, 90, 91, 92, 93, 94, 95, 96, 97, 98, 99, 100, 101] (by decide +kernel) (by decide +kernel)
set_option maxRecDepth 20000 in
theorem gX12_incidence_X12_areEnds : GoodIn wsX12_incidence (wsV RX12 229 RX12 yX12_areEnds wsX12_areEnds) := goodIn_app (goodIn_of _ (by decide +kernel)) ggX12_incidence_X12_areEnds
set_option maxRecDepth 20000 in
theorem ggX12_incidence_X12_incidenceOf : GoodIn wsX12_incidence wsX12_incidenceOf := goodIn_r _ [40, 21, 41, 42, 43, 44, 5, 45, 46, 47, 12, 13, 14, 15, 16, 17, 18, 19, 20, 22, 23, 24, 48, 49, 50, 51, 11, 25, 26, 27, 28, 29, 30, 31, 32, 33, 34, 35, 36, 52, 53, 54, 55, 56, 57, 58, 59, 60, 61, 62, 63, 64, 65, 66, 67, 68, 69, 70, 71, 72, 73, 74, 75, 76, 77, 78, 79, 80, 81, 82, 83, 84, 85, 86, 87, 88, 89, 90, 91, 92, 93, 94, 95, 96, 97, 98, 99, 100, 101] (by decide +kernel) (by decide +kernel)
set_option maxRecDepth 20000 in
theorem gX12_incidence_X12_incidenceOf : GoodIn wsX12_incidence (wsV RX12 238 RX12 yX12_incidenceOf wsX12_incidenceOf) := goodIn_app (goodIn_of _ (by decide +kernel)) ggX12_incidence_X12_incidenceOf
set_option maxRecDepth 20000 in
theorem ggX12_laysPath_X12_waysFrom : GoodIn wsX12_laysPath wsX12_waysFrom := goodIn_r _ [8, 9, 2, 10, 11, 12, 7, 13, 14, 15, 16, 17, 18, 19, 20, 21, 22, 23, 24, 25, 26, 27, 28, 29, 30, 31, 3, 32, 33, 34, 35, 36, 37, 38, 39, 40, 41, 42, 43, 44, 45, 46, 47, 48, 49, 50, 51, 52, 53, 54, 55, 56, 57, 58, 59, 60, 61, 62, 68, 69, 70, 71, 72, 73, 74, 75, 76, 77, 78, 79, 80, 81, 82, 83, 84, 85, 86, 87, 88, 89, 90, 91, 92, 93, 94, 95, 96, 97, 98] (by decide +kernel) (by decide +kernel)
set_option maxRecDepth 20000 in
theorem gX12_laysPath_X12_waysFrom : GoodIn wsX12_laysPath (wsV RX12 232 RX12 yX12_waysFrom wsX12_waysFrom) := goodIn_app (goodIn_of _ (by decide +kernel)) ggX12_laysPath_X12_waysFrom
set_option maxRecDepth 20000 in
theorem ggX12_laysPath_X12_rows : GoodIn wsX12_laysPath wsX12_rows := goodIn_r _ [66, 67, 1, 68, 69, 70, 71, 72, 73, 74, 75, 76, 77, 78, 79, 80, 81, 82, 83, 84, 85, 86, 87, 88, 89, 90, 91, 92, 93, 94, 95, 96, 97, 98] (by decide +kernel) (by decide +kernel)
set_option maxRecDepth 20000 in
theorem gX12_laysPath_X12_rows : GoodIn wsX12_laysPath (wsV RX12 246 RX12 yX12_rows wsX12_rows) := goodIn_app (goodIn_of _ (by decide +kernel)) ggX12_laysPath_X12_rows
set_option maxRecDepth 20000 in
theorem ggX12_laysPath_X12_isFaceThere : GoodIn wsX12_laysPath wsX12_isFaceThere := goodIn_r _ [54, 20, 55, 56, 57, 7, 58, 36, 32, 33, 34, 35, 37, 38, 39, 40, 41, 42, 43, 68, 69, 70, 71, 72, 73, 74, 75, 76, 77, 78, 79, 80, 81, 82, 83, 84, 85, 86, 87, 88, 89, 90, 91, 92, 93, 94, 95, 96, 97, 98] (by decide +kernel) (by decide +kernel)
set_option maxRecDepth 20000 in
theorem gX12_laysPath_X12_isFaceThere : GoodIn wsX12_laysPath (wsV RX12 162 RX12 yX12_isFaceThere wsX12_isFaceThere) := goodIn_app (goodIn_of _ (by decide +kernel)) ggX12_laysPath_X12_isFaceThere
set_option maxRecDepth 20000 in
theorem ggX12_path_X12_areEnds : GoodIn wsX12_path wsX12_areEnds := goodIn_r _ [7, 8, 9, 10, 6, 11, 12, 13, 14, 15, 16, 17, 18, 19, 20, 21, 22, 23, 24, 25, 26, 27, 28, 29, 30, 31, 32, 33, 34, 35, 36, 37, 80, 81, 82, 83, 84, 85, 86, 87, 88, 89, 90, 91, 92, 93, 94, 95, 96, 97, 98, 99, 100, 101, 102, 103, 104, 105, 106, 107, 108, 109, 110] (by decide +kernel) (by decide +kernel)
set_option maxRecDepth 20000 in
theorem gX12_path_X12_areEnds : GoodIn wsX12_path (wsV RX12 229 RX12 yX12_areEnds wsX12_areEnds) := goodIn_app (goodIn_of _ (by decide +kernel)) ggX12_path_X12_areEnds
set_option maxRecDepth 20000 in
theorem ggX12_path_X12_laysPath : GoodIn wsX12_path wsX12_laysPath := goodIn_r _ [41, 1, 42, 12, 43, 44, 45, 6, 46, 22, 47, 48, 49, 50, 51, 52, 13, 14, 15, 16, 17, 18, 19, 20, 21, 23, 24, 25, 53, 54, 55, 56, 26, 27, 28, 29, 30, 31, 32, 33, 34, 35, 36, 37, 57, 58, 59, 60, 61, 62, 63, 64, 65, 66, 67, 68, 69, 70, 71, 72, 73, 74, 75, 76, 77, 78, 79, 2, 80, 81, 82, 83, 84, 85, 86, 87, 88, 89, 90, 91, 92, 93, 94, 95, 96, 97, 98, 99, 100, 101, 102, 103, 104, 105, 106, 107, 108, 109, 110] (by decide +kernel) (by decide +kernel)
set_option maxRecDepth 20000 in
theorem gX12_path_X12_laysPath : GoodIn wsX12_path (wsV RX12 249 RX12 yX12_laysPath wsX12_laysPath) := goodIn_app (goodIn_of _ (by decide +kernel)) ggX12_path_X12_laysPath
set_option maxRecDepth 20000 in
theorem ggX12_cancel_X12_areEnds : GoodIn wsX12_cancel wsX12_areEnds := goodIn_r _ [8, 9, 10, 11, 7, 12, 2, 13, 14, 15, 16, 17, 18, 19, 20, 21, 22, 23, 24, 25, 26, 27, 28, 29, 30, 31, 32, 33, 34, 35, 36, 37, 90, 91, 92, 93, 94, 95, 96, 97, 98, 99, 100, 101, 102, 103, 104, 105, 106, 107, 108, 109, 110, 111, 112, 113, 114, 115, 116, 117, 118, 119, 120] (by decide +kernel) (by decide +kernel)
set_option maxRecDepth 20000 in
theorem gX12_cancel_X12_areEnds : GoodIn wsX12_cancel (wsV RX12 229 RX12 yX12_areEnds wsX12_areEnds) := goodIn_app (goodIn_of _ (by decide +kernel)) ggX12_cancel_X12_areEnds
set_option maxRecDepth 20000 in
theorem ggX12_cancel_X12_waysFrom : GoodIn wsX12_cancel wsX12_waysFrom := goodIn_r _ [41, 22, 42, 43, 44, 45, 7, 46, 47, 48, 13, 14, 15, 16, 17, 18, 19, 20, 21, 23, 24, 25, 49, 50, 51, 52, 2, 26, 27, 28, 29, 30, 31, 32, 33, 34, 35, 36, 37, 53, 54, 55, 56, 57, 58, 59, 60, 61, 62, 63, 64, 65, 66, 67, 68, 69, 70, 71, 90, 91, 92, 93, 94, 95, 96, 97, 98, 99, 100, 101, 102, 103, 104, 105, 106, 107, 108, 109, 110, 111, 112, 113, 114, 115, 116, 117, 118, 119, 120] (by decide +kernel) (by decide +kernel)
set_option maxRecDepth 20000 in
theorem gX12_cancel_X12_waysFrom : GoodIn wsX12_cancel (wsV RX12 232 RX12 yX12_waysFrom wsX12_waysFrom) := goodIn_app (goodIn_of _ (by decide +kernel)) ggX12_cancel_X12_waysFrom
set_option maxRecDepth 20000 in
theorem ggX12_cancel_X12_laysPath : GoodIn wsX12_cancel wsX12_laysPath := goodIn_r _ [75, 1, 42, 2, 38, 39, 40, 7, 41, 22, 43, 44, 45, 46, 47, 48, 13, 14, 15, 16, 17, 18, 19, 20, 21, 23, 24, 25, 49, 50, 51, 52, 26, 27, 28, 29, 30, 31, 32, 33, 34, 35, 36, 37, 53, 54, 55, 56, 57, 58, 59, 60, 61, 62, 63, 64, 65, 66, 67, 68, 69, 70, 71, 76, 77, 78, 79, 3, 90, 91, 92, 93, 94, 95, 96, 97, 98, 99, 100, 101, 102, 103, 104, 105, 106, 107, 108, 109, 110, 111, 112, 113, 114, 115, 116, 117, 118, 119, 120] (by decide +kernel) (by decide +kernel)
set_option maxRecDepth 20000 in
theorem gX12_cancel_X12_laysPath : GoodIn wsX12_cancel (wsV RX12 249 RX12 yX12_laysPath wsX12_laysPath) := goodIn_app (goodIn_of _ (by decide +kernel)) ggX12_cancel_X12_laysPath
set_option maxRecDepth 20000 in
theorem ggX12_cancel_X12_remembers : GoodIn wsX12_cancel wsX12_remembers := goodIn_r _ [83, 84, 85, 2, 17, 53, 54, 7, 55, 90, 91, 92, 93, 94, 95, 96, 97, 98, 99, 100, 101, 102, 103, 104, 105, 106, 107, 108, 109, 110, 111, 112, 113, 114, 115, 116, 117, 118, 119, 120] (by decide +kernel) (by decide +kernel)
set_option maxRecDepth 20000 in
theorem gX12_cancel_X12_remembers : GoodIn wsX12_cancel (wsV RX12 194 RX12 yX12_remembers wsX12_remembers) := goodIn_app (goodIn_of _ (by decide +kernel)) ggX12_cancel_X12_remembers
set_option maxRecDepth 20000 in
theorem ggX12_cancel_X12_criticalMany : GoodIn wsX12_cancel wsX12_criticalMany := goodIn_r _ [89, 22, 9, 10, 11, 7, 12, 2, 13, 14, 15, 16, 17, 18, 19, 20, 21, 23, 24, 25, 53, 54, 55, 90, 91, 92, 93, 94, 95, 96, 97, 98, 99, 100, 101, 102, 103, 104, 105, 106, 107, 108, 109, 110, 111, 112, 113, 114, 115, 116, 117, 118, 119, 120] (by decide +kernel) (by decide +kernel)
set_option maxRecDepth 20000 in
theorem gX12_cancel_X12_criticalMany : GoodIn wsX12_cancel (wsV RX12 197 RX12 yX12_criticalMany wsX12_criticalMany) := goodIn_app (goodIn_of _ (by decide +kernel)) ggX12_cancel_X12_criticalMany
set_option maxRecDepth 20000 in
theorem ggX12_laysReach_X12_isFaceThere : GoodIn wsX12_laysReach wsX12_isFaceThere := goodIn_r _ [9, 10, 11, 12, 13, 8, 14, 15, 16, 17, 18, 19, 20, 21, 22, 23, 24, 25, 26, 45, 46, 47, 48, 49, 50, 51, 52, 53, 54, 55, 56, 57, 58, 59, 60, 61, 62, 63, 64, 65, 66, 67, 68, 69, 70, 71, 72, 73, 74, 75] (by decide +kernel) (by decide +kernel)
set_option maxRecDepth 20000 in
theorem gX12_laysReach_X12_isFaceThere : GoodIn wsX12_laysReach (wsV RX12 162 RX12 yX12_isFaceThere wsX12_isFaceThere) := goodIn_app (goodIn_of _ (by decide +kernel)) ggX12_laysReach_X12_isFaceThere
set_option maxRecDepth 20000 in
theorem ggX12_laysReach_X12_truth : GoodIn wsX12_laysReach wsX12_truth := goodIn_r _ [29] (by decide +kernel) (by decide +kernel)
set_option maxRecDepth 20000 in
theorem gX12_laysReach_X12_truth : GoodIn wsX12_laysReach (va_wsS RX12 105 yX12_truth wsX12_truth) := goodIn_app (goodIn_of _ (by decide +kernel)) ggX12_laysReach_X12_truth
set_option maxRecDepth 20000 in
theorem ggX12_laysReach_X12_isThere : GoodIn wsX12_laysReach wsX12_isThere := goodIn_r _ [33, 10, 34, 35, 36, 8, 37, 1, 38, 39, 40, 45, 46, 47, 48, 49, 50, 51, 52, 53, 54, 55, 56, 57, 58, 59, 60, 61, 62, 63, 64, 65, 66, 67, 68, 69, 70, 71, 72, 73, 74, 75] (by decide +kernel) (by decide +kernel)
set_option maxRecDepth 20000 in
theorem gX12_laysReach_X12_isThere : GoodIn wsX12_laysReach (wsV RX12 156 RX12 yX12_isThere wsX12_isThere) := goodIn_app (goodIn_of _ (by decide +kernel)) ggX12_laysReach_X12_isThere
set_option maxRecDepth 20000 in
theorem ggX12_laysReach_X12_isLower : GoodIn wsX12_laysReach wsX12_isLower := goodIn_r _ [44, 2, 45, 46, 47, 48, 49, 50, 51, 52, 53, 54, 55, 56, 57, 58, 59, 60, 61, 62, 63, 64, 65, 66, 67, 68, 69, 70, 71, 72, 73, 74, 75] (by decide +kernel) (by decide +kernel)
set_option maxRecDepth 20000 in
theorem gX12_laysReach_X12_isLower : GoodIn wsX12_laysReach (wsV RX12 170 RX12 yX12_isLower wsX12_isLower) := goodIn_app (goodIn_of _ (by decide +kernel)) ggX12_laysReach_X12_isLower
set_option maxRecDepth 20000 in
theorem ggX12_laysReach_X12_dimOf : GoodIn wsX12_laysReach wsX12_dimOf := goodIn_r _ [19, 15, 20, 21, 22, 23, 24, 25, 26, 45, 46, 47, 48, 49, 50, 51, 52, 53, 54, 55, 56, 57, 58, 59, 60, 61, 62, 63, 64, 65, 66, 67, 68, 69, 70, 71, 72, 73, 74, 75] (by decide +kernel) (by decide +kernel)
set_option maxRecDepth 20000 in
theorem gX12_laysReach_X12_dimOf : GoodIn wsX12_laysReach (wsV RX12 149 RX12 yX12_dimOf wsX12_dimOf) := goodIn_app (goodIn_of _ (by decide +kernel)) ggX12_laysReach_X12_dimOf
set_option maxRecDepth 20000 in
theorem ggX12_through_X12_areEnds : GoodIn wsX12_through wsX12_areEnds := goodIn_r _ [11, 12, 13, 14, 10, 15, 2, 16, 17, 18, 19, 20, 21, 22, 23, 24, 3, 25, 26, 27, 28, 29, 30, 31, 32, 33, 34, 35, 36, 37, 38, 39, 76, 77, 78, 79, 80, 81, 82, 83, 84, 85, 86, 87, 88, 89, 90, 91, 92, 93, 94, 95, 96, 97, 98, 99, 100, 101, 102, 103, 104, 105, 106] (by decide +kernel) (by decide +kernel)
set_option maxRecDepth 20000 in
theorem gX12_through_X12_areEnds : GoodIn wsX12_through (wsV RX12 229 RX12 yX12_areEnds wsX12_areEnds) := goodIn_app (goodIn_of _ (by decide +kernel)) ggX12_through_X12_areEnds
set_option maxRecDepth 20000 in
theorem ggX12_through_X12_isThere : GoodIn wsX12_through wsX12_isThere := goodIn_r _ [19, 20, 21, 22, 23, 10, 24, 3, 25, 26, 27, 76, 77, 78, 79, 80, 81, 82, 83, 84, 85, 86, 87, 88, 89, 90, 91, 92, 93, 94, 95, 96, 97, 98, 99, 100, 101, 102, 103, 104, 105, 106] (by decide +kernel) (by decide +kernel)
set_option maxRecDepth 20000 in
theorem gX12_through_X12_isThere : GoodIn wsX12_through (wsV RX12 156 RX12 yX12_isThere wsX12_isThere) := goodIn_app (goodIn_of _ (by decide +kernel)) ggX12_through_X12_isThere
set_option maxRecDepth 20000 in
theorem ggX12_through_X12_waysFrom : GoodIn wsX12_through wsX12_waysFrom := goodIn_r _ [43, 3, 6, 44, 45, 46, 10, 47, 5, 48, 16, 17, 18, 19, 20, 21, 22, 23, 24, 25, 26, 27, 49, 50, 51, 52, 2, 28, 29, 30, 31, 32, 33, 34, 35, 36, 37, 38, 39, 53, 54, 55, 56, 57, 58, 59, 60, 61, 62, 63, 64, 65, 66, 67, 68, 69, 70, 71, 76, 77, 78, 79, 80, 81, 82, 83, 84, 85, 86, 87, 88, 89, 90, 91, 92, 93, 94, 95, 96, 97, 98, 99, 100, 101, 102, 103, 104, 105, 106] (by decide +kernel) (by decide +kernel)
set_option maxRecDepth 20000 in
theorem gX12_through_X12_waysFrom : GoodIn wsX12_through (wsV RX12 232 RX12 yX12_waysFrom wsX12_waysFrom) := goodIn_app (goodIn_of _ (by decide +kernel)) ggX12_through_X12_waysFrom
set_option maxRecDepth 20000 in
theorem ggX12_through_X12_dimOf : GoodIn wsX12_through wsX12_dimOf := goodIn_r _ [31, 32, 33, 34, 35, 36, 37, 38, 39, 76, 77, 78, 79, 80, 81, 82, 83, 84, 85, 86, 87, 88, 89, 90, 91, 92, 93, 94, 95, 96, 97, 98, 99, 100, 101, 102, 103, 104, 105, 106] (by decide +kernel) (by decide +kernel)
set_option maxRecDepth 20000 in
theorem gX12_through_X12_dimOf : GoodIn wsX12_through (wsV RX12 149 RX12 yX12_dimOf wsX12_dimOf) := goodIn_app (goodIn_of _ (by decide +kernel)) ggX12_through_X12_dimOf
set_option maxRecDepth 20000 in
theorem ggX12_through_X12_isLower : GoodIn wsX12_through wsX12_isLower := goodIn_r _ [52, 2, 76, 77, 78, 79, 80, 81, 82, 83, 84, 85, 86, 87, 88, 89, 90, 91, 92, 93, 94, 95, 96, 97, 98, 99, 100, 101, 102, 103, 104, 105, 106] (by decide +kernel) (by decide +kernel)
set_option maxRecDepth 20000 in
theorem gX12_through_X12_isLower : GoodIn wsX12_through (wsV RX12 170 RX12 yX12_isLower wsX12_isLower) := goodIn_app (goodIn_of _ (by decide +kernel)) ggX12_through_X12_isLower
set_option maxRecDepth 20000 in
theorem ggX12_through_X12_laysReach : GoodIn wsX12_through wsX12_laysReach := goodIn_r _ [75, 3, 2, 4, 5, 60, 61, 62, 10, 63, 20, 64, 65, 66, 67, 32, 28, 29, 30, 31, 33, 34, 35, 36, 37, 38, 39, 53, 54, 55, 16, 17, 18, 19, 21, 22, 23, 24, 25, 26, 27, 49, 50, 51, 52, 76, 77, 78, 79, 80, 81, 82, 83, 84, 85, 86, 87, 88, 89, 90, 91, 92, 93, 94, 95, 96, 97, 98, 99, 100, 101, 102, 103, 104, 105, 106] (by decide +kernel) (by decide +kernel)
set_option maxRecDepth 20000 in
theorem gX12_through_X12_laysReach : GoodIn wsX12_through (wsV RX12 253 RX12 yX12_laysReach wsX12_laysReach) := goodIn_app (goodIn_of _ (by decide +kernel)) ggX12_through_X12_laysReach
set_option maxRecDepth 20000 in
theorem ggX12_squares_X12_isCritical : GoodIn wsX12_squares wsX12_isCritical := goodIn_r _ [6, 7, 8, 9, 10, 5, 11, 12, 13, 14, 15, 16, 1, 17, 18, 19, 74, 75, 76, 77, 78, 79, 80, 81, 82, 83, 84, 85, 86, 87, 88, 89, 90, 91, 92, 93, 94, 95, 96, 97, 98, 99, 100, 101, 102, 103, 104] (by decide +kernel) (by decide +kernel)
set_option maxRecDepth 20000 in
theorem gX12_squares_X12_isCritical : GoodIn wsX12_squares (wsV RX12 159 RX12 yX12_isCritical wsX12_isCritical) := goodIn_app (goodIn_of _ (by decide +kernel)) ggX12_squares_X12_isCritical
set_option maxRecDepth 20000 in
theorem ggX12_squares_X12_dimOf : GoodIn wsX12_squares wsX12_dimOf := goodIn_r _ [23, 24, 25, 26, 27, 28, 29, 30, 31, 74, 75, 76, 77, 78, 79, 80, 81, 82, 83, 84, 85, 86, 87, 88, 89, 90, 91, 92, 93, 94, 95, 96, 97, 98, 99, 100, 101, 102, 103, 104] (by decide +kernel) (by decide +kernel)
set_option maxRecDepth 20000 in
theorem gX12_squares_X12_dimOf : GoodIn wsX12_squares (wsV RX12 149 RX12 yX12_dimOf wsX12_dimOf) := goodIn_app (goodIn_of _ (by decide +kernel)) ggX12_squares_X12_dimOf
set_option maxRecDepth 20000 in
theorem ggX12_squares_X12_squareOf : GoodIn wsX12_squares wsX12_squareOf := goodIn_r _ [35, 1, 36, 37, 38, 5, 39, 2, 3, 4, 6, 7, 8, 9, 10, 11, 12, 13, 14, 15, 16, 17, 18, 19, 20, 21, 22, 23, 24, 25, 26, 27, 28, 29, 30, 31, 40, 41, 42, 43, 44, 45, 46, 47, 48, 49, 50, 51, 52, 53, 54, 55, 56, 57, 58, 59, 60, 61, 62, 63, 64, 65, 66, 67, 68, 69, 70, 71, 72, 73, 74, 75, 76, 77, 78, 79, 80, 81, 82, 83, 84, 85, 86, 87, 88, 89, 90, 91, 92, 93, 94, 95, 96, 97, 98, 99, 100, 101, 102, 103, 104] (by decide +kernel) (by decide +kernel)
set_option maxRecDepth 20000 in
theorem gX12_squares_X12_squareOf : GoodIn wsX12_squares (wsV RX12 256 RX12 yX12_squareOf wsX12_squareOf) := goodIn_app (goodIn_of _ (by decide +kernel)) ggX12_squares_X12_squareOf
set_option maxRecDepth 20000 in
theorem ggX12_squares_X12_truth : GoodIn wsX12_squares wsX12_truth := goodIn_r _ [57] (by decide +kernel) (by decide +kernel)
set_option maxRecDepth 20000 in
theorem gX12_squares_X12_truth : GoodIn wsX12_squares (va_wsS RX12 105 yX12_truth wsX12_truth) := goodIn_app (goodIn_of _ (by decide +kernel)) ggX12_squares_X12_truth
set_option maxRecDepth 20000 in
theorem ggX12_squareOf_X12_areEnds : GoodIn wsX12_squareOf wsX12_areEnds := goodIn_r _ [6, 7, 8, 9, 5, 10, 11, 12, 13, 14, 15, 16, 17, 18, 19, 20, 1, 21, 22, 23, 24, 25, 26, 27, 28, 29, 30, 31, 32, 33, 34, 35, 70, 71, 72, 73, 74, 75, 76, 77, 78, 79, 80, 81, 82, 83, 84, 85, 86, 87, 88, 89, 90, 91, 92, 93, 94, 95, 96, 97, 98, 99, 100] (by decide +kernel) (by decide +kernel)
set_option maxRecDepth 20000 in
theorem gX12_squareOf_X12_areEnds : GoodIn wsX12_squareOf (wsV RX12 229 RX12 yX12_areEnds wsX12_areEnds) := goodIn_app (goodIn_of _ (by decide +kernel)) ggX12_squareOf_X12_areEnds
set_option maxRecDepth 20000 in
theorem ggX12_squareOf_X12_incidenceOf : GoodIn wsX12_squareOf wsX12_incidenceOf := goodIn_r _ [39, 1, 40, 41, 42, 43, 5, 44, 45, 46, 12, 13, 14, 15, 16, 17, 18, 19, 20, 21, 22, 23, 47, 48, 49, 50, 11, 24, 25, 26, 27, 28, 29, 30, 31, 32, 33, 34, 35, 51, 52, 53, 54, 55, 56, 57, 58, 59, 60, 61, 62, 63, 64, 65, 66, 67, 68, 69, 70, 71, 72, 73, 74, 75, 76, 77, 78, 79, 80, 81, 82, 83, 84, 85, 86, 87, 88, 89, 90, 91, 92, 93, 94, 95, 96, 97, 98, 99, 100] (by decide +kernel) (by decide +kernel)
set_option maxRecDepth 20000 in
theorem gX12_squareOf_X12_incidenceOf : GoodIn wsX12_squareOf (wsV RX12 238 RX12 yX12_incidenceOf wsX12_incidenceOf) := goodIn_app (goodIn_of _ (by decide +kernel)) ggX12_squareOf_X12_incidenceOf
set_option maxRecDepth 20000 in
theorem ggX12_laysLink_X12_isFaceThere : GoodIn wsX12_laysLink wsX12_isFaceThere := goodIn_r _ [9, 10, 11, 12, 13, 8, 14, 15, 16, 17, 18, 19, 20, 21, 22, 23, 24, 25, 26, 31, 32, 33, 34, 35, 36, 37, 38, 39, 40, 41, 42, 43, 44, 45, 46, 47, 48, 49, 50, 51, 52, 53, 54, 55, 56, 57, 58, 59, 60, 61] (by decide +kernel) (by decide +kernel)
set_option maxRecDepth 20000 in
theorem gX12_laysLink_X12_isFaceThere : GoodIn wsX12_laysLink (wsV RX12 162 RX12 yX12_isFaceThere wsX12_isFaceThere) := goodIn_app (goodIn_of _ (by decide +kernel)) ggX12_laysLink_X12_isFaceThere
set_option maxRecDepth 20000 in
theorem ggX12_laysLink_X12_signOf : GoodIn wsX12_laysLink wsX12_signOf := goodIn_r _ [30, 15, 20, 21, 22, 23, 24, 25, 26, 31, 32, 33, 34, 35, 36, 37, 38, 39, 40, 41, 42, 43, 44, 45, 46, 47, 48, 49, 50, 51, 52, 53, 54, 55, 56, 57, 58, 59, 60, 61] (by decide +kernel) (by decide +kernel)
set_option maxRecDepth 20000 in
theorem gX12_laysLink_X12_signOf : GoodIn wsX12_laysLink (wsV RX12 166 RX12 yX12_signOf wsX12_signOf) := goodIn_app (goodIn_of _ (by decide +kernel)) ggX12_laysLink_X12_signOf
set_option maxRecDepth 20000 in
theorem ggX12_chain_X12_isCritical : GoodIn wsX12_chain wsX12_isCritical := goodIn_r _ [10, 3, 11, 12, 13, 9, 14, 15, 16, 17, 18, 19, 2, 20, 21, 22, 58, 59, 60, 61, 62, 63, 64, 65, 66, 67, 68, 69, 70, 71, 72, 73, 74, 75, 76, 77, 78, 79, 80, 81, 82, 83, 84, 85, 86, 87, 88] (by decide +kernel) (by decide +kernel)
set_option maxRecDepth 20000 in
theorem gX12_chain_X12_isCritical : GoodIn wsX12_chain (wsV RX12 159 RX12 yX12_isCritical wsX12_isCritical) := goodIn_app (goodIn_of _ (by decide +kernel)) ggX12_chain_X12_isCritical
set_option maxRecDepth 20000 in
theorem ggX12_chain_X12_isThere : GoodIn wsX12_chain wsX12_isThere := goodIn_r _ [14, 15, 16, 17, 18, 9, 19, 2, 20, 21, 22, 58, 59, 60, 61, 62, 63, 64, 65, 66, 67, 68, 69, 70, 71, 72, 73, 74, 75, 76, 77, 78, 79, 80, 81, 82, 83, 84, 85, 86, 87, 88] (by decide +kernel) (by decide +kernel)
set_option maxRecDepth 20000 in
theorem gX12_chain_X12_isThere : GoodIn wsX12_chain (wsV RX12 156 RX12 yX12_isThere wsX12_isThere) := goodIn_app (goodIn_of _ (by decide +kernel)) ggX12_chain_X12_isThere
set_option maxRecDepth 20000 in
theorem ggX12_chain_X12_dimOf : GoodIn wsX12_chain wsX12_dimOf := goodIn_r _ [26, 27, 28, 29, 30, 31, 32, 33, 34, 58, 59, 60, 61, 62, 63, 64, 65, 66, 67, 68, 69, 70, 71, 72, 73, 74, 75, 76, 77, 78, 79, 80, 81, 82, 83, 84, 85, 86, 87, 88] (by decide +kernel) (by decide +kernel)
set_option maxRecDepth 20000 in
theorem gX12_chain_X12_dimOf : GoodIn wsX12_chain (wsV RX12 149 RX12 yX12_dimOf wsX12_dimOf) := goodIn_app (goodIn_of _ (by decide +kernel)) ggX12_chain_X12_dimOf
set_option maxRecDepth 20000 in
theorem ggX12_chain_X12_isLower : GoodIn wsX12_chain wsX12_isLower := goodIn_r _ [38, 3, 58, 59, 60, 61, 62, 63, 64, 65, 66, 67, 68, 69, 70, 71, 72, 73, 74, 75, 76, 77, 78, 79, 80, 81, 82, 83, 84, 85, 86, 87, 88] (by decide +kernel) (by decide +kernel)
set_option maxRecDepth 20000 in
theorem gX12_chain_X12_isLower : GoodIn wsX12_chain (wsV RX12 170 RX12 yX12_isLower wsX12_isLower) := goodIn_app (goodIn_of _ (by decide +kernel)) ggX12_chain_X12_isLower
set_option maxRecDepth 20000 in
theorem ggX12_chain_X12_truth : GoodIn wsX12_chain wsX12_truth := goodIn_r _ [41] (by decide +kernel) (by decide +kernel)
set_option maxRecDepth 20000 in
theorem gX12_chain_X12_truth : GoodIn wsX12_chain (va_wsS RX12 105 yX12_truth wsX12_truth) := goodIn_app (goodIn_of _ (by decide +kernel)) ggX12_chain_X12_truth
set_option maxRecDepth 20000 in
theorem ggX12_chain_X12_laysLink : GoodIn wsX12_chain wsX12_laysLink := goodIn_r _ [45, 3, 2, 4, 5, 46, 47, 48, 9, 49, 15, 50, 51, 52, 53, 27, 23, 24, 25, 26, 28, 29, 30, 31, 32, 33, 34, 54, 55, 56, 57, 58, 59, 60, 61, 62, 63, 64, 65, 66, 67, 68, 69, 70, 71, 72, 73, 74, 75, 76, 77, 78, 79, 80, 81, 82, 83, 84, 85, 86, 87, 88] (by decide +kernel) (by decide +kernel)
set_option maxRecDepth 20000 in
theorem gX12_chain_X12_laysLink : GoodIn wsX12_chain (wsV RX12 259 RX12 yX12_laysLink wsX12_laysLink) := goodIn_app (goodIn_of _ (by decide +kernel)) ggX12_chain_X12_laysLink
set_option maxRecDepth 20000 in
theorem ggX12_root_X12_isThere : GoodIn wsX12_root wsX12_isThere := goodIn_r _ [8, 9, 10, 11, 12, 7, 13, 14, 15, 16, 17, 29, 30, 31, 32, 33, 34, 35, 36, 37, 38, 39, 40, 41, 42, 43, 44, 45, 46, 47, 48, 49, 50, 51, 52, 53, 54, 55, 56, 57, 58, 59] (by decide +kernel) (by decide +kernel)
set_option maxRecDepth 20000 in
theorem gX12_root_X12_isThere : GoodIn wsX12_root (wsV RX12 156 RX12 yX12_isThere wsX12_isThere) := goodIn_app (goodIn_of _ (by decide +kernel)) ggX12_root_X12_isThere
set_option maxRecDepth 20000 in
theorem ggX12_root_X12_dimOf : GoodIn wsX12_root wsX12_dimOf := goodIn_r _ [21, 3, 22, 23, 24, 25, 26, 27, 28, 29, 30, 31, 32, 33, 34, 35, 36, 37, 38, 39, 40, 41, 42, 43, 44, 45, 46, 47, 48, 49, 50, 51, 52, 53, 54, 55, 56, 57, 58, 59] (by decide +kernel) (by decide +kernel)
set_option maxRecDepth 20000 in
theorem gX12_root_X12_dimOf : GoodIn wsX12_root (wsV RX12 149 RX12 yX12_dimOf wsX12_dimOf) := goodIn_app (goodIn_of _ (by decide +kernel)) ggX12_root_X12_dimOf
set_option maxRecDepth 20000 in
theorem ggX12_root_X12_in : GoodIn wsX12_root wsX12_in := goodIn_r _ [17] (by decide +kernel) (by decide +kernel)
set_option maxRecDepth 20000 in
theorem gX12_root_X12_in : GoodIn wsX12_root (va_wsS RX12 101 yX12_in wsX12_in) := goodIn_app (goodIn_of _ (by decide +kernel)) ggX12_root_X12_in
set_option maxRecDepth 20000 in
theorem ggX12_isFreeFace_X12_isThere : GoodIn wsX12_isFreeFace wsX12_isThere := goodIn_r _ [5, 6, 7, 8, 9, 4, 10, 11, 12, 13, 14, 46, 47, 48, 49, 50, 51, 52, 53, 54, 55, 56, 57, 58, 59, 60, 61, 62, 63, 64, 65, 66, 67, 68, 69, 70, 71, 72, 73, 74, 75, 76] (by decide +kernel) (by decide +kernel)
set_option maxRecDepth 20000 in
theorem gX12_isFreeFace_X12_isThere : GoodIn wsX12_isFreeFace (wsV RX12 156 RX12 yX12_isThere wsX12_isThere) := goodIn_app (goodIn_of _ (by decide +kernel)) ggX12_isFreeFace_X12_isThere
set_option maxRecDepth 20000 in
theorem ggX12_isFreeFace_X12_facesOver : GoodIn wsX12_isFreeFace wsX12_facesOver := goodIn_r _ [18, 11, 19, 20, 21, 4, 22, 6, 23, 24, 25, 26, 27, 28, 29, 30, 31, 32, 33, 34, 35, 36, 37, 38, 39, 40, 41, 46, 47, 48, 49, 50, 51, 52, 53, 54, 55, 56, 57, 58, 59, 60, 61, 62, 63, 64, 65, 66, 67, 68, 69, 70, 71, 72, 73, 74, 75, 76] (by decide +kernel) (by decide +kernel)
set_option maxRecDepth 20000 in
theorem gX12_isFreeFace_X12_facesOver : GoodIn wsX12_isFreeFace (wsV RX12 176 RX12 yX12_facesOver wsX12_facesOver) := goodIn_app (goodIn_of _ (by decide +kernel)) ggX12_isFreeFace_X12_facesOver
set_option maxRecDepth 20000 in
theorem ggX12_isFreeFace_X12_overOf : GoodIn wsX12_isFreeFace wsX12_overOf := goodIn_r _ [45, 19, 20, 21, 4, 22, 6, 23, 24, 25, 26, 27, 28, 29, 30, 31, 32, 33, 34, 35, 36, 37, 38, 46, 47, 48, 49, 50, 51, 52, 53, 54, 55, 56, 57, 58, 59, 60, 61, 62, 63, 64, 65, 66, 67, 68, 69, 70, 71, 72, 73, 74, 75, 76] (by decide +kernel) (by decide +kernel)
set_option maxRecDepth 20000 in
theorem gX12_isFreeFace_X12_overOf : GoodIn wsX12_isFreeFace (wsV RX12 262 RX12 yX12_overOf wsX12_overOf) := goodIn_app (goodIn_of _ (by decide +kernel)) ggX12_isFreeFace_X12_overOf
set_option maxRecDepth 20000 in
theorem ggX12_overOf_X12_isFaceThere : GoodIn wsX12_overOf wsX12_isFaceThere := goodIn_r _ [5, 6, 7, 8, 9, 4, 10, 11, 12, 13, 14, 15, 16, 17, 18, 19, 20, 21, 22, 23, 24, 25, 26, 27, 28, 29, 30, 31, 32, 33, 34, 35, 36, 37, 38, 39, 40, 41, 42, 43, 44, 45, 46, 47, 48, 49, 50, 51, 52, 53] (by decide +kernel) (by decide +kernel)
set_option maxRecDepth 20000 in
theorem gX12_overOf_X12_isFaceThere : GoodIn wsX12_overOf (wsV RX12 162 RX12 yX12_isFaceThere wsX12_isFaceThere) := goodIn_app (goodIn_of _ (by decide +kernel)) ggX12_overOf_X12_isFaceThere
set_option maxRecDepth 20000 in
theorem ggX12_collapse_X12_isThere : GoodIn wsX12_collapse wsX12_isThere := goodIn_r _ [6, 1, 7, 8, 9, 5, 10, 11, 12, 13, 14, 65, 66, 67, 68, 69, 70, 71, 72, 73, 74, 75, 76, 77, 78, 79, 80, 81, 82, 83, 84, 85, 86, 87, 88, 89, 90, 91, 92, 93, 94, 95] (by decide +kernel) (by decide +kernel)
set_option maxRecDepth 20000 in
theorem gX12_collapse_X12_isThere : GoodIn wsX12_collapse (wsV RX12 156 RX12 yX12_isThere wsX12_isThere) := goodIn_app (goodIn_of _ (by decide +kernel)) ggX12_collapse_X12_isThere
set_option maxRecDepth 20000 in
theorem ggX12_collapse_X12_isFreeFace : GoodIn wsX12_collapse wsX12_isFreeFace := goodIn_r _ [18, 2, 3, 4, 5, 6, 1, 7, 8, 9, 10, 11, 12, 13, 14, 19, 20, 21, 22, 23, 24, 25, 26, 27, 28, 29, 30, 31, 32, 33, 34, 35, 36, 37, 38, 39, 40, 41, 42, 43, 44, 45, 46, 47, 48, 49, 65, 66, 67, 68, 69, 70, 71, 72, 73, 74, 75, 76, 77, 78, 79, 80, 81, 82, 83, 84, 85, 86, 87, 88, 89, 90, 91, 92, 93, 94, 95] (by decide +kernel) (by decide +kernel)
set_option maxRecDepth 20000 in
theorem gX12_collapse_X12_isFreeFace : GoodIn wsX12_collapse (wsV RX12 265 RX12 yX12_isFreeFace wsX12_isFreeFace) := goodIn_app (goodIn_of _ (by decide +kernel)) ggX12_collapse_X12_isFreeFace
set_option maxRecDepth 20000 in
theorem ggX12_collapse_X12_remembers : GoodIn wsX12_collapse wsX12_remembers := goodIn_r _ [53, 54, 55, 56, 1, 43, 44, 5, 45, 65, 66, 67, 68, 69, 70, 71, 72, 73, 74, 75, 76, 77, 78, 79, 80, 81, 82, 83, 84, 85, 86, 87, 88, 89, 90, 91, 92, 93, 94, 95] (by decide +kernel) (by decide +kernel)
set_option maxRecDepth 20000 in
theorem gX12_collapse_X12_remembers : GoodIn wsX12_collapse (wsV RX12 194 RX12 yX12_remembers wsX12_remembers) := goodIn_app (goodIn_of _ (by decide +kernel)) ggX12_collapse_X12_remembers
set_option maxRecDepth 20000 in
theorem ggX12_collapse_X12_overOf : GoodIn wsX12_collapse wsX12_overOf := goodIn_r _ [49, 23, 24, 25, 5, 26, 1, 27, 28, 29, 30, 31, 32, 33, 34, 35, 36, 37, 38, 39, 40, 41, 42, 65, 66, 67, 68, 69, 70, 71, 72, 73, 74, 75, 76, 77, 78, 79, 80, 81, 82, 83, 84, 85, 86, 87, 88, 89, 90, 91, 92, 93, 94, 95] (by decide +kernel) (by decide +kernel)
set_option maxRecDepth 20000 in
theorem gX12_collapse_X12_overOf : GoodIn wsX12_collapse (wsV RX12 262 RX12 yX12_overOf wsX12_overOf) := goodIn_app (goodIn_of _ (by decide +kernel)) ggX12_collapse_X12_overOf
set_option maxRecDepth 20000 in
theorem ggX12_collapse_X12_frees : GoodIn wsX12_collapse wsX12_frees := goodIn_r _ [60, 56, 65, 66, 67, 68, 69, 70, 71, 72, 73, 74, 75, 76, 77, 78, 79, 80, 81, 82, 83, 84, 85, 86, 87, 88, 89, 90, 91, 92, 93, 94, 95] (by decide +kernel) (by decide +kernel)
set_option maxRecDepth 20000 in
theorem gX12_collapse_X12_frees : GoodIn wsX12_collapse (wsV RX12 191 RX12 yX12_frees wsX12_frees) := goodIn_app (goodIn_of _ (by decide +kernel)) ggX12_collapse_X12_frees
set_option maxRecDepth 20000 in
theorem ggX12_collapse_X12_thereMany : GoodIn wsX12_collapse wsX12_thereMany := goodIn_r _ [64, 11, 1, 43, 44, 5, 45, 65, 66, 67, 68, 69, 70, 71, 72, 73, 74, 75, 76, 77, 78, 79, 80, 81, 82, 83, 84, 85, 86, 87, 88, 89, 90, 91, 92, 93, 94, 95] (by decide +kernel) (by decide +kernel)
set_option maxRecDepth 20000 in
theorem gX12_collapse_X12_thereMany : GoodIn wsX12_collapse (wsV RX12 268 RX12 yX12_thereMany wsX12_thereMany) := goodIn_app (goodIn_of _ (by decide +kernel)) ggX12_collapse_X12_thereMany
set_option maxRecDepth 20000 in
theorem ggX12_thereMany_X12_truth : GoodIn wsX12_thereMany wsX12_truth := goodIn_r _ [6] (by decide +kernel) (by decide +kernel)
set_option maxRecDepth 20000 in
theorem gX12_thereMany_X12_truth : GoodIn wsX12_thereMany (va_wsS RX12 105 yX12_truth wsX12_truth) := goodIn_app (goodIn_of _ (by decide +kernel)) ggX12_thereMany_X12_truth
set_option maxRecDepth 20000 in
theorem ggX12_free_X12_isFreeFace : GoodIn wsX12_free wsX12_isFreeFace := goodIn_r _ [6, 7, 8, 9, 5, 10, 11, 12, 13, 14, 15, 1, 16, 17, 18, 19, 20, 21, 22, 23, 24, 25, 26, 27, 28, 29, 30, 31, 32, 33, 34, 35, 36, 37, 38, 39, 40, 41, 42, 43, 44, 45, 46, 47, 48, 49, 50, 51, 52, 53, 54, 55, 56, 57, 58, 59, 60, 61, 62, 63, 64, 65, 66, 67, 68, 69, 70, 71, 72, 73, 74, 75, 76, 77, 78, 79, 80] (by decide +kernel) (by decide +kernel)
set_option maxRecDepth 20000 in
theorem gX12_free_X12_isFreeFace : GoodIn wsX12_free (wsV RX12 265 RX12 yX12_isFreeFace wsX12_isFreeFace) := goodIn_app (goodIn_of _ (by decide +kernel)) ggX12_free_X12_isFreeFace
set_option maxRecDepth 20000 in
theorem ggX12_facet_X12_isThere : GoodIn wsX12_facet wsX12_isThere := goodIn_r _ [6, 7, 8, 9, 10, 5, 11, 1, 12, 13, 14, 42, 43, 44, 45, 46, 47, 48, 49, 50, 51, 52, 53, 54, 55, 56, 57, 58, 59, 60, 61, 62, 63, 64, 65, 66, 67, 68, 69, 70, 71, 72] (by decide +kernel) (by decide +kernel)
set_option maxRecDepth 20000 in
theorem gX12_facet_X12_isThere : GoodIn wsX12_facet (wsV RX12 156 RX12 yX12_isThere wsX12_isThere) := goodIn_app (goodIn_of _ (by decide +kernel)) ggX12_facet_X12_isThere
set_option maxRecDepth 20000 in
theorem ggX12_facet_X12_facesOver : GoodIn wsX12_facet wsX12_facesOver := goodIn_r _ [18, 1, 19, 20, 21, 5, 22, 7, 23, 24, 25, 26, 27, 28, 29, 30, 31, 32, 33, 34, 35, 36, 37, 38, 39, 40, 41, 42, 43, 44, 45, 46, 47, 48, 49, 50, 51, 52, 53, 54, 55, 56, 57, 58, 59, 60, 61, 62, 63, 64, 65, 66, 67, 68, 69, 70, 71, 72] (by decide +kernel) (by decide +kernel)
set_option maxRecDepth 20000 in
theorem gX12_facet_X12_facesOver : GoodIn wsX12_facet (wsV RX12 176 RX12 yX12_facesOver wsX12_facesOver) := goodIn_app (goodIn_of _ (by decide +kernel)) ggX12_facet_X12_facesOver
set_option maxRecDepth 20000 in
theorem ggX12_critical_X12_in : GoodIn wsX12_critical wsX12_in := goodIn_r _ [5] (by decide +kernel) (by decide +kernel)
set_option maxRecDepth 20000 in
theorem gX12_critical_X12_in : GoodIn wsX12_critical (va_wsS RX12 101 yX12_in wsX12_in) := goodIn_app (goodIn_of _ (by decide +kernel)) ggX12_critical_X12_in
set_option maxRecDepth 20000 in
theorem ggX12_critical_X12_isCritical : GoodIn wsX12_critical wsX12_isCritical := goodIn_r _ [9, 10, 11, 12, 13, 4, 14, 15, 16, 17, 18, 19, 1, 2, 3, 5, 32, 33, 34, 35, 36, 37, 38, 39, 40, 41, 42, 43, 44, 45, 46, 47, 48, 49, 50, 51, 52, 53, 54, 55, 56, 57, 58, 59, 60, 61, 62] (by decide +kernel) (by decide +kernel)
set_option maxRecDepth 20000 in
theorem gX12_critical_X12_isCritical : GoodIn wsX12_critical (wsV RX12 159 RX12 yX12_isCritical wsX12_isCritical) := goodIn_app (goodIn_of _ (by decide +kernel)) ggX12_critical_X12_isCritical
set_option maxRecDepth 20000 in
theorem ggX12_critical_X12_dimOf : GoodIn wsX12_critical wsX12_dimOf := goodIn_r _ [23, 24, 25, 26, 27, 28, 29, 30, 31, 32, 33, 34, 35, 36, 37, 38, 39, 40, 41, 42, 43, 44, 45, 46, 47, 48, 49, 50, 51, 52, 53, 54, 55, 56, 57, 58, 59, 60, 61, 62] (by decide +kernel) (by decide +kernel)
set_option maxRecDepth 20000 in
theorem gX12_critical_X12_dimOf : GoodIn wsX12_critical (wsV RX12 149 RX12 yX12_dimOf wsX12_dimOf) := goodIn_app (goodIn_of _ (by decide +kernel)) ggX12_critical_X12_dimOf
set_option maxRecDepth 20000 in
theorem ggX12_takes_X12_isCritical : GoodIn wsX12_takes wsX12_isCritical := goodIn_r _ [8, 9, 10, 11, 12, 7, 13, 3, 14, 15, 16, 17, 1, 18, 19, 20, 21, 22, 23, 24, 25, 26, 27, 28, 29, 30, 31, 32, 33, 34, 35, 36, 37, 38, 39, 40, 41, 42, 43, 44, 45, 46, 47, 48, 49, 50, 51] (by decide +kernel) (by decide +kernel)
set_option maxRecDepth 20000 in
theorem gX12_takes_X12_isCritical : GoodIn wsX12_takes (wsV RX12 159 RX12 yX12_isCritical wsX12_isCritical) := goodIn_app (goodIn_of _ (by decide +kernel)) ggX12_takes_X12_isCritical
set_option maxRecDepth 20000 in
theorem ggX12_takenOf_X12_dimOf : GoodIn wsX12_takenOf wsX12_dimOf := goodIn_r _ [7, 8, 9, 10, 11, 12, 13, 14, 15, 19, 20, 21, 22, 23, 24, 25, 26, 27, 28, 29, 30, 31, 32, 33, 34, 35, 36, 37, 38, 39, 40, 41, 42, 43, 44, 45, 46, 47, 48, 49] (by decide +kernel) (by decide +kernel)
set_option maxRecDepth 20000 in
theorem gX12_takenOf_X12_dimOf : GoodIn wsX12_takenOf (wsV RX12 149 RX12 yX12_dimOf wsX12_dimOf) := goodIn_app (goodIn_of _ (by decide +kernel)) ggX12_takenOf_X12_dimOf
set_option maxRecDepth 20000 in
theorem ggX12_takenOf_X12_truth : GoodIn wsX12_takenOf wsX12_truth := goodIn_r _ [18] (by decide +kernel) (by decide +kernel)
set_option maxRecDepth 20000 in
theorem gX12_takenOf_X12_truth : GoodIn wsX12_takenOf (va_wsS RX12 105 yX12_truth wsX12_truth) := goodIn_app (goodIn_of _ (by decide +kernel)) ggX12_takenOf_X12_truth
set_option maxRecDepth 20000 in
theorem ggX12_laysTable_X12_takenOf : GoodIn wsX12_laysTable wsX12_takenOf := goodIn_r _ [10, 3, 4, 11, 12, 13, 9, 14, 15, 16, 17, 18, 19, 20, 21, 22, 23, 24, 25, 70, 71, 72, 73, 74, 75, 76, 77, 78, 79, 80, 81, 82, 83, 84, 85, 86, 87, 88, 89, 90, 91, 92, 93, 94, 95, 96, 97, 98, 99, 100] (by decide +kernel) (by decide +kernel)
set_option maxRecDepth 20000 in
theorem gX12_laysTable_X12_takenOf : GoodIn wsX12_laysTable (wsV RX12 271 RX12 yX12_takenOf wsX12_takenOf) := goodIn_app (goodIn_of _ (by decide +kernel)) ggX12_laysTable_X12_takenOf
set_option maxRecDepth 20000 in
theorem ggX12_laysTable_X12_dimOf : GoodIn wsX12_laysTable wsX12_dimOf := goodIn_r _ [14, 15, 16, 17, 18, 19, 20, 21, 22, 70, 71, 72, 73, 74, 75, 76, 77, 78, 79, 80, 81, 82, 83, 84, 85, 86, 87, 88, 89, 90, 91, 92, 93, 94, 95, 96, 97, 98, 99, 100] (by decide +kernel) (by decide +kernel)
set_option maxRecDepth 20000 in
theorem gX12_laysTable_X12_dimOf : GoodIn wsX12_laysTable (wsV RX12 149 RX12 yX12_dimOf wsX12_dimOf) := goodIn_app (goodIn_of _ (by decide +kernel)) ggX12_laysTable_X12_dimOf
set_option maxRecDepth 20000 in
theorem ggX12_laysTable_X12_incidenceOf : GoodIn wsX12_laysTable wsX12_incidenceOf := goodIn_r _ [29, 3, 30, 31, 32, 33, 9, 34, 35, 36, 37, 38, 39, 40, 41, 42, 43, 44, 45, 46, 47, 48, 49, 50, 51, 52, 53, 11, 12, 13, 14, 15, 16, 17, 18, 19, 20, 21, 22, 23, 24, 25, 54, 55, 56, 57, 58, 59, 60, 61, 62, 63, 64, 65, 66, 67, 68, 69, 70, 71, 72, 73, 74, 75, 76, 77, 78, 79, 80, 81, 82, 83, 84, 85, 86, 87, 88, 89, 90, 91, 92, 93, 94, 95, 96, 97, 98, 99, 100] (by decide +kernel) (by decide +kernel)
set_option maxRecDepth 20000 in
theorem gX12_laysTable_X12_incidenceOf : GoodIn wsX12_laysTable (wsV RX12 238 RX12 yX12_incidenceOf wsX12_incidenceOf) := goodIn_app (goodIn_of _ (by decide +kernel)) ggX12_laysTable_X12_incidenceOf
set_option maxRecDepth 20000 in
theorem ggX12_laysTable_X12_isFace : GoodIn wsX12_laysTable wsX12_isFace := goodIn_r _ [65, 15, 11, 12, 13, 9, 14, 16, 17, 18, 19, 20, 21, 22, 70, 71, 72, 73, 74, 75, 76, 77, 78, 79, 80, 81, 82, 83, 84, 85, 86, 87, 88, 89, 90, 91, 92, 93, 94, 95, 96, 97, 98, 99, 100] (by decide +kernel) (by decide +kernel)
set_option maxRecDepth 20000 in
theorem gX12_laysTable_X12_isFace : GoodIn wsX12_laysTable (wsV RX12 152 RX12 yX12_isFace wsX12_isFace) := goodIn_app (goodIn_of _ (by decide +kernel)) ggX12_laysTable_X12_isFace
set_option maxRecDepth 20000 in
theorem ggX12_laysTable_X12_signOf : GoodIn wsX12_laysTable wsX12_signOf := goodIn_r _ [69, 15, 16, 17, 18, 19, 20, 21, 22, 70, 71, 72, 73, 74, 75, 76, 77, 78, 79, 80, 81, 82, 83, 84, 85, 86, 87, 88, 89, 90, 91, 92, 93, 94, 95, 96, 97, 98, 99, 100] (by decide +kernel) (by decide +kernel)
set_option maxRecDepth 20000 in
theorem gX12_laysTable_X12_signOf : GoodIn wsX12_laysTable (wsV RX12 166 RX12 yX12_signOf wsX12_signOf) := goodIn_app (goodIn_of _ (by decide +kernel)) ggX12_laysTable_X12_signOf
set_option maxRecDepth 20000 in
theorem ggX12_addsRow_X12_cell : GoodIn wsX12_addsRow wsX12_cell := goodIn_r _ [7, 2, 8, 9, 10, 11, 12, 13, 14, 15, 16, 17, 18, 19, 20, 21, 22, 23, 24, 25, 26, 27, 28, 29, 30, 31, 32, 33, 34, 35, 36, 37, 38] (by decide +kernel) (by decide +kernel)
set_option maxRecDepth 20000 in
theorem gX12_addsRow_X12_cell : GoodIn wsX12_addsRow (wsV RX12 280 RX12 yX12_cell wsX12_cell) := goodIn_app (goodIn_of _ (by decide +kernel)) ggX12_addsRow_X12_cell
set_option maxRecDepth 20000 in
theorem ggX12_addsColumn_X12_cell : GoodIn wsX12_addsColumn wsX12_cell := goodIn_r _ [7, 2, 8, 9, 10, 11, 12, 13, 14, 15, 16, 17, 18, 19, 20, 21, 22, 23, 24, 25, 26, 27, 28, 29, 30, 31, 32, 33, 34, 35, 36, 37, 38] (by decide +kernel) (by decide +kernel)
set_option maxRecDepth 20000 in
theorem gX12_addsColumn_X12_cell : GoodIn wsX12_addsColumn (wsV RX12 280 RX12 yX12_cell wsX12_cell) := goodIn_app (goodIn_of _ (by decide +kernel)) ggX12_addsColumn_X12_cell
set_option maxRecDepth 20000 in
theorem ggX12_swapsRows_X12_cell : GoodIn wsX12_swapsRows wsX12_cell := goodIn_r _ [7, 2, 8, 9, 10, 11, 12, 13, 14, 15, 16, 17, 18, 19, 20, 21, 22, 23, 24, 25, 26, 27, 28, 29, 30, 31, 32, 33, 34, 35, 36, 37, 38] (by decide +kernel) (by decide +kernel)
set_option maxRecDepth 20000 in
theorem gX12_swapsRows_X12_cell : GoodIn wsX12_swapsRows (wsV RX12 280 RX12 yX12_cell wsX12_cell) := goodIn_app (goodIn_of _ (by decide +kernel)) ggX12_swapsRows_X12_cell
set_option maxRecDepth 20000 in
theorem ggX12_swapsColumns_X12_cell : GoodIn wsX12_swapsColumns wsX12_cell := goodIn_r _ [7, 2, 8, 9, 10, 11, 12, 13, 14, 15, 16, 17, 18, 19, 20, 21, 22, 23, 24, 25, 26, 27, 28, 29, 30, 31, 32, 33, 34, 35, 36, 37, 38] (by decide +kernel) (by decide +kernel)
set_option maxRecDepth 20000 in
theorem gX12_swapsColumns_X12_cell : GoodIn wsX12_swapsColumns (wsV RX12 280 RX12 yX12_cell wsX12_cell) := goodIn_app (goodIn_of _ (by decide +kernel)) ggX12_swapsColumns_X12_cell
set_option maxRecDepth 20000 in
theorem ggX12_bringsLeast_X12_cell : GoodIn wsX12_bringsLeast wsX12_cell := goodIn_r _ [11, 12, 21, 22, 23, 24, 25, 26, 27, 28, 29, 30, 31, 32, 33, 34, 35, 36, 37, 38, 39, 40, 41, 42, 43, 44, 45, 46, 47, 48, 49, 50, 51] (by decide +kernel) (by decide +kernel)
set_option maxRecDepth 20000 in
theorem gX12_bringsLeast_X12_cell : GoodIn wsX12_bringsLeast (wsV RX12 280 RX12 yX12_cell wsX12_cell) := goodIn_app (goodIn_of _ (by decide +kernel)) ggX12_bringsLeast_X12_cell
set_option maxRecDepth 20000 in
theorem ggX12_bringsLeast_X12_swapsRows : GoodIn wsX12_bringsLeast wsX12_swapsRows := goodIn_r _ [16, 2, 12, 7, 8, 9, 10, 11, 21, 22, 23, 24, 25, 26, 27, 28, 29, 30, 31, 32, 33, 34, 35, 36, 37, 38, 39, 40, 41, 42, 43, 44, 45, 46, 47, 48, 49, 50, 51] (by decide +kernel) (by decide +kernel)
set_option maxRecDepth 20000 in
theorem gX12_bringsLeast_X12_swapsRows : GoodIn wsX12_bringsLeast (wsV RX12 289 RX12 yX12_swapsRows wsX12_swapsRows) := goodIn_app (goodIn_of _ (by decide +kernel)) ggX12_bringsLeast_X12_swapsRows
set_option maxRecDepth 20000 in
theorem ggX12_bringsLeast_X12_swapsColumns : GoodIn wsX12_bringsLeast wsX12_swapsColumns := goodIn_r _ [20, 1, 12, 7, 8, 9, 10, 11, 21, 22, 23, 24, 25, 26, 27, 28, 29, 30, 31, 32, 33, 34, 35, 36, 37, 38, 39, 40, 41, 42, 43, 44, 45, 46, 47, 48, 49, 50, 51] (by decide +kernel) (by decide +kernel)
set_option maxRecDepth 20000 in
theorem gX12_bringsLeast_X12_swapsColumns : GoodIn wsX12_bringsLeast (wsV RX12 292 RX12 yX12_swapsColumns wsX12_swapsColumns) := goodIn_app (goodIn_of _ (by decide +kernel)) ggX12_bringsLeast_X12_swapsColumns
set_option maxRecDepth 20000 in
theorem ggX12_clears_X12_cell : GoodIn wsX12_clears wsX12_cell := goodIn_r _ [7, 8, 17, 18, 19, 20, 21, 22, 23, 24, 25, 26, 27, 28, 29, 30, 31, 32, 33, 34, 35, 36, 37, 38, 39, 40, 41, 42, 43, 44, 45, 46, 47] (by decide +kernel) (by decide +kernel)
set_option maxRecDepth 20000 in
theorem gX12_clears_X12_cell : GoodIn wsX12_clears (wsV RX12 280 RX12 yX12_cell wsX12_cell) := goodIn_app (goodIn_of _ (by decide +kernel)) ggX12_clears_X12_cell
set_option maxRecDepth 20000 in
theorem ggX12_clears_X12_addsRow : GoodIn wsX12_clears wsX12_addsRow := goodIn_r _ [12, 2, 8, 3, 4, 5, 6, 7, 17, 18, 19, 20, 21, 22, 23, 24, 25, 26, 27, 28, 29, 30, 31, 32, 33, 34, 35, 36, 37, 38, 39, 40, 41, 42, 43, 44, 45, 46, 47] (by decide +kernel) (by decide +kernel)
set_option maxRecDepth 20000 in
theorem gX12_clears_X12_addsRow : GoodIn wsX12_clears (wsV RX12 295 RX12 yX12_addsRow wsX12_addsRow) := goodIn_app (goodIn_of _ (by decide +kernel)) ggX12_clears_X12_addsRow
set_option maxRecDepth 20000 in
theorem ggX12_clears_X12_addsColumn : GoodIn wsX12_clears wsX12_addsColumn := goodIn_r _ [16, 1, 8, 3, 4, 5, 6, 7, 17, 18, 19, 20, 21, 22, 23, 24, 25, 26, 27, 28, 29, 30, 31, 32, 33, 34, 35, 36, 37, 38, 39, 40, 41, 42, 43, 44, 45, 46, 47] (by decide +kernel) (by decide +kernel)
set_option maxRecDepth 20000 in
theorem gX12_clears_X12_addsColumn : GoodIn wsX12_clears (wsV RX12 299 RX12 yX12_addsColumn wsX12_addsColumn) := goodIn_app (goodIn_of _ (by decide +kernel)) ggX12_clears_X12_addsColumn
set_option maxRecDepth 20000 in
theorem ggX12_undivided_X12_cell : GoodIn wsX12_undivided wsX12_cell := goodIn_r _ [7, 8, 9, 10, 11, 12, 13, 14, 15, 16, 17, 18, 19, 20, 21, 22, 23, 24, 25, 26, 27, 28, 29, 30, 31, 32, 33, 34, 35, 36, 37, 38, 39] (by decide +kernel) (by decide +kernel)
set_option maxRecDepth 20000 in
theorem gX12_undivided_X12_cell : GoodIn wsX12_undivided (wsV RX12 280 RX12 yX12_cell wsX12_cell) := goodIn_app (goodIn_of _ (by decide +kernel)) ggX12_undivided_X12_cell
set_option maxRecDepth 20000 in
theorem ggX12_laysSteps_X12_bringsLeast : GoodIn wsX12_laysSteps wsX12_bringsLeast := goodIn_r _ [12, 1, 2, 4, 5, 6, 7, 13, 14, 15, 11, 16, 17, 18, 19, 20, 21, 22, 23, 24, 25, 42, 43, 44, 45, 46, 47, 48, 49, 50, 51, 52, 53, 54, 55, 56, 57, 58, 59, 60, 61, 62, 63, 64, 65, 66, 67, 68, 69, 70, 71, 72] (by decide +kernel) (by decide +kernel)
set_option maxRecDepth 20000 in
theorem gX12_laysSteps_X12_bringsLeast : GoodIn wsX12_laysSteps (wsV RX12 302 RX12 yX12_bringsLeast wsX12_bringsLeast) := goodIn_app (goodIn_of _ (by decide +kernel)) ggX12_laysSteps_X12_bringsLeast
set_option maxRecDepth 20000 in
theorem ggX12_laysSteps_X12_clears : GoodIn wsX12_laysSteps wsX12_clears := goodIn_r _ [29, 1, 2, 13, 14, 15, 11, 16, 17, 30, 31, 32, 33, 34, 35, 36, 37, 42, 43, 44, 45, 46, 47, 48, 49, 50, 51, 52, 53, 54, 55, 56, 57, 58, 59, 60, 61, 62, 63, 64, 65, 66, 67, 68, 69, 70, 71, 72] (by decide +kernel) (by decide +kernel)
set_option maxRecDepth 20000 in
theorem gX12_laysSteps_X12_clears : GoodIn wsX12_laysSteps (wsV RX12 305 RX12 yX12_clears wsX12_clears) := goodIn_app (goodIn_of _ (by decide +kernel)) ggX12_laysSteps_X12_clears
set_option maxRecDepth 20000 in
theorem ggX12_laysSteps_X12_undivided : GoodIn wsX12_laysSteps wsX12_undivided := goodIn_r _ [41, 1, 2, 13, 14, 15, 11, 16, 17, 42, 43, 44, 45, 46, 47, 48, 49, 50, 51, 52, 53, 54, 55, 56, 57, 58, 59, 60, 61, 62, 63, 64, 65, 66, 67, 68, 69, 70, 71, 72] (by decide +kernel) (by decide +kernel)
set_option maxRecDepth 20000 in
theorem gX12_laysSteps_X12_undivided : GoodIn wsX12_laysSteps (wsV RX12 308 RX12 yX12_undivided wsX12_undivided) := goodIn_app (goodIn_of _ (by decide +kernel)) ggX12_laysSteps_X12_undivided
set_option maxRecDepth 20000 in
theorem ggX12_laysSteps_X12_addsRow : GoodIn wsX12_laysSteps wsX12_addsRow := goodIn_r _ [33, 2, 17, 13, 14, 15, 11, 16, 42, 43, 44, 45, 46, 47, 48, 49, 50, 51, 52, 53, 54, 55, 56, 57, 58, 59, 60, 61, 62, 63, 64, 65, 66, 67, 68, 69, 70, 71, 72] (by decide +kernel) (by decide +kernel)
set_option maxRecDepth 20000 in
theorem gX12_laysSteps_X12_addsRow : GoodIn wsX12_laysSteps (wsV RX12 295 RX12 yX12_addsRow wsX12_addsRow) := goodIn_app (goodIn_of _ (by decide +kernel)) ggX12_laysSteps_X12_addsRow
set_option maxRecDepth 20000 in
theorem ggX12_laysSteps_X12_cell : GoodIn wsX12_laysSteps wsX12_cell := goodIn_r _ [16, 17, 42, 43, 44, 45, 46, 47, 48, 49, 50, 51, 52, 53, 54, 55, 56, 57, 58, 59, 60, 61, 62, 63, 64, 65, 66, 67, 68, 69, 70, 71, 72] (by decide +kernel) (by decide +kernel)
set_option maxRecDepth 20000 in
theorem gX12_laysSteps_X12_cell : GoodIn wsX12_laysSteps (wsV RX12 280 RX12 yX12_cell wsX12_cell) := goodIn_app (goodIn_of _ (by decide +kernel)) ggX12_laysSteps_X12_cell
set_option maxRecDepth 20000 in
theorem ggX12_rankOf_X12_in : GoodIn wsX12_rankOf wsX12_in := goodIn_r _ [4] (by decide +kernel) (by decide +kernel)
set_option maxRecDepth 20000 in
theorem gX12_rankOf_X12_in : GoodIn wsX12_rankOf (va_wsS RX12 101 yX12_in wsX12_in) := goodIn_app (goodIn_of _ (by decide +kernel)) ggX12_rankOf_X12_in
set_option maxRecDepth 20000 in
theorem ggX12_rankOf_X12_laysTable : GoodIn wsX12_rankOf wsX12_laysTable := goodIn_r _ [8, 9, 10, 11, 12, 13, 14, 15, 16, 3, 17, 18, 19, 20, 21, 22, 23, 24, 25, 26, 27, 28, 29, 30, 31, 32, 33, 34, 35, 36, 37, 38, 39, 40, 41, 42, 43, 44, 45, 46, 47, 48, 49, 50, 51, 52, 1, 2, 4, 53, 54, 55, 56, 57, 58, 59, 60, 61, 62, 63, 64, 65, 66, 67, 68, 69, 70, 71, 72, 73, 115, 116, 117, 118, 119, 120, 121, 122, 123, 124, 125, 126, 127, 128, 129, 130, 131, 132, 133, 134, 135, 136, 137, 138, 139, 140, 141, 142, 143, 144, 145] (by decide +kernel) (by decide +kernel)
set_option maxRecDepth 20000 in
theorem gX12_rankOf_X12_laysTable : GoodIn wsX12_rankOf (wsV RX12 311 RX12 yX12_laysTable wsX12_laysTable) := goodIn_app (goodIn_of _ (by decide +kernel)) ggX12_rankOf_X12_laysTable
set_option maxRecDepth 20000 in
theorem ggX12_rankOf_X12_laysSteps : GoodIn wsX12_rankOf wsX12_laysSteps := goodIn_r _ [77, 9, 10, 78, 79, 80, 81, 82, 83, 84, 85, 3, 86, 87, 88, 89, 90, 13, 91, 92, 93, 94, 95, 96, 97, 98, 99, 100, 101, 102, 103, 104, 105, 106, 107, 108, 109, 110, 111, 112, 113, 114, 115, 116, 117, 118, 119, 120, 121, 122, 123, 124, 125, 126, 127, 128, 129, 130, 131, 132, 133, 134, 135, 136, 137, 138, 139, 140, 141, 142, 143, 144, 145] (by decide +kernel) (by decide +kernel)
set_option maxRecDepth 20000 in
theorem gX12_rankOf_X12_laysSteps : GoodIn wsX12_rankOf (wsV RX12 314 RX12 yX12_laysSteps wsX12_laysSteps) := goodIn_app (goodIn_of _ (by decide +kernel)) ggX12_rankOf_X12_laysSteps
set_option maxRecDepth 20000 in
theorem ggX12_bettiTaken_X12_takenOf : GoodIn wsX12_bettiTaken wsX12_takenOf := goodIn_r _ [5, 6, 7, 8, 9, 10, 4, 11, 12, 13, 14, 15, 16, 17, 18, 19, 20, 21, 22, 119, 120, 121, 122, 123, 124, 125, 126, 127, 128, 129, 130, 131, 132, 133, 134, 135, 136, 137, 138, 139, 140, 141, 142, 143, 144, 145, 146, 147, 148, 149] (by decide +kernel) (by decide +kernel)
set_option maxRecDepth 20000 in
theorem gX12_bettiTaken_X12_takenOf : GoodIn wsX12_bettiTaken (wsV RX12 271 RX12 yX12_takenOf wsX12_takenOf) := goodIn_app (goodIn_of _ (by decide +kernel)) ggX12_bettiTaken_X12_takenOf
set_option maxRecDepth 20000 in
theorem ggX12_bettiTaken_X12_rankOf : GoodIn wsX12_bettiTaken wsX12_rankOf := goodIn_r _ [26, 27, 28, 4, 29, 30, 31, 32, 33, 34, 35, 6, 7, 36, 1, 2, 3, 5, 8, 9, 10, 11, 12, 13, 14, 15, 16, 17, 18, 19, 20, 21, 22, 37, 38, 39, 40, 41, 42, 43, 44, 45, 46, 47, 48, 49, 50, 51, 52, 53, 54, 55, 56, 57, 58, 59, 60, 61, 62, 63, 64, 65, 66, 67, 68, 69, 70, 71, 72, 73, 74, 75, 76, 77, 78, 79, 80, 81, 82, 83, 84, 85, 86, 87, 88, 89, 90, 91, 92, 93, 94, 95, 96, 97, 98, 99, 100, 101, 102, 103, 104, 105, 106, 107, 108, 109, 110, 111, 112, 113, 114, 115, 116, 117, 118, 119, 120, 121, 122, 123, 124, 125, 126, 127, 128, 129, 130, 131, 132, 133, 134, 135, 136, 137, 138, 139, 140, 141, 142, 143, 144, 145, 146, 147, 148, 149] (by decide +kernel) (by decide +kernel)
set_option maxRecDepth 20000 in
theorem gX12_bettiTaken_X12_rankOf : GoodIn wsX12_bettiTaken (wsV RX12 317 RX12 yX12_rankOf wsX12_rankOf) := goodIn_app (goodIn_of _ (by decide +kernel)) ggX12_bettiTaken_X12_rankOf
set_option maxRecDepth 20000 in
theorem ggX12_betti_X12_in : GoodIn wsX12_betti wsX12_in := goodIn_r _ [4] (by decide +kernel) (by decide +kernel)
set_option maxRecDepth 20000 in
theorem gX12_betti_X12_in : GoodIn wsX12_betti (va_wsS RX12 101 yX12_in wsX12_in) := goodIn_app (goodIn_of _ (by decide +kernel)) ggX12_betti_X12_in
set_option maxRecDepth 20000 in
theorem ggX12_betti_X12_takes : GoodIn wsX12_betti wsX12_takes := goodIn_r _ [8, 9, 10, 11, 12, 13, 14, 3, 15, 16, 17, 18, 19, 20, 21, 22, 23, 24, 1, 2, 4, 131, 132, 133, 134, 135, 136, 137, 138, 139, 140, 141, 142, 143, 144, 145, 146, 147, 148, 149, 150, 151, 152, 153, 154, 155, 156, 157, 158, 159, 160, 161] (by decide +kernel) (by decide +kernel)
set_option maxRecDepth 20000 in
theorem gX12_betti_X12_takes : GoodIn wsX12_betti (wsV RX12 320 RX12 yX12_takes wsX12_takes) := goodIn_app (goodIn_of _ (by decide +kernel)) ggX12_betti_X12_takes
set_option maxRecDepth 20000 in
theorem ggX12_betti_X12_bettiTaken : GoodIn wsX12_betti wsX12_bettiTaken := goodIn_r _ [28, 29, 30, 31, 3, 32, 9, 10, 33, 34, 35, 36, 37, 38, 39, 40, 41, 42, 43, 44, 45, 46, 47, 48, 49, 50, 51, 1, 2, 4, 52, 53, 54, 55, 56, 57, 58, 59, 60, 61, 62, 63, 64, 65, 66, 67, 68, 69, 17, 18, 19, 20, 11, 21, 22, 23, 24, 70, 71, 72, 73, 16, 74, 75, 76, 77, 78, 79, 80, 81, 82, 83, 84, 85, 86, 87, 88, 89, 90, 91, 92, 93, 94, 95, 96, 97, 98, 99, 100, 101, 102, 103, 104, 105, 106, 107, 108, 109, 110, 111, 112, 113, 114, 115, 116, 117, 118, 119, 120, 121, 122, 123, 124, 125, 126, 127, 128, 129, 130, 131, 132, 133, 134, 135, 136, 137, 138, 139, 140, 141, 142, 143, 144, 145, 146, 147, 148, 149, 150, 151, 152, 153, 154, 155, 156, 157, 158, 159, 160, 161] (by decide +kernel) (by decide +kernel)
set_option maxRecDepth 20000 in
theorem gX12_betti_X12_bettiTaken : GoodIn wsX12_betti (wsV RX12 323 RX12 yX12_bettiTaken wsX12_bettiTaken) := goodIn_app (goodIn_of _ (by decide +kernel)) ggX12_betti_X12_bettiTaken
set_option maxRecDepth 20000 in
theorem ggX12_torsion_X12_in : GoodIn wsX12_torsion wsX12_in := goodIn_r _ [7] (by decide +kernel) (by decide +kernel)
set_option maxRecDepth 20000 in
theorem gX12_torsion_X12_in : GoodIn wsX12_torsion (va_wsS RX12 101 yX12_in wsX12_in) := goodIn_app (goodIn_of _ (by decide +kernel)) ggX12_torsion_X12_in
set_option maxRecDepth 20000 in
theorem ggX12_torsion_X12_takes : GoodIn wsX12_torsion wsX12_takes := goodIn_r _ [11, 12, 13, 14, 15, 16, 17, 6, 18, 19, 20, 21, 22, 23, 24, 25, 26, 27, 4, 5, 7, 129, 130, 131, 132, 133, 134, 135, 136, 137, 138, 139, 140, 141, 142, 143, 144, 145, 146, 147, 148, 149, 150, 151, 152, 153, 154, 155, 156, 157, 158, 159] (by decide +kernel) (by decide +kernel)
set_option maxRecDepth 20000 in
theorem gX12_torsion_X12_takes : GoodIn wsX12_torsion (wsV RX12 320 RX12 yX12_takes wsX12_takes) := goodIn_app (goodIn_of _ (by decide +kernel)) ggX12_torsion_X12_takes
set_option maxRecDepth 20000 in
theorem ggX12_torsion_X12_rankOf : GoodIn wsX12_torsion wsX12_rankOf := goodIn_r _ [31, 4, 5, 6, 7, 32, 33, 34, 35, 36, 37, 12, 13, 38, 39, 40, 41, 42, 43, 44, 45, 46, 47, 48, 49, 50, 51, 52, 53, 54, 55, 56, 57, 58, 59, 60, 61, 62, 63, 64, 65, 66, 67, 68, 20, 21, 22, 23, 14, 24, 25, 26, 27, 69, 70, 71, 72, 19, 73, 74, 75, 76, 77, 78, 79, 80, 81, 82, 83, 84, 85, 86, 87, 88, 89, 90, 91, 92, 2, 93, 94, 95, 96, 97, 98, 99, 100, 101, 102, 103, 104, 105, 106, 107, 108, 109, 110, 111, 112, 113, 114, 115, 116, 117, 118, 119, 120, 121, 122, 123, 124, 125, 126, 127, 128, 129, 130, 131, 132, 133, 134, 135, 136, 137, 138, 139, 140, 141, 142, 143, 144, 145, 146, 147, 148, 149, 150, 151, 152, 153, 154, 155, 156, 157, 158, 159] (by decide +kernel) (by decide +kernel)
set_option maxRecDepth 20000 in
theorem gX12_torsion_X12_rankOf : GoodIn wsX12_torsion (wsV RX12 317 RX12 yX12_rankOf wsX12_rankOf) := goodIn_app (goodIn_of _ (by decide +kernel)) ggX12_torsion_X12_rankOf
set_option maxRecDepth 20000 in
theorem ggX12_slack_X12_in : GoodIn wsX12_slack wsX12_in := goodIn_r _ [5] (by decide +kernel) (by decide +kernel)
set_option maxRecDepth 20000 in
theorem gX12_slack_X12_in : GoodIn wsX12_slack (va_wsS RX12 101 yX12_in wsX12_in) := goodIn_app (goodIn_of _ (by decide +kernel)) ggX12_slack_X12_in
set_option maxRecDepth 20000 in
theorem ggX12_slack_X12_critical : GoodIn wsX12_slack wsX12_critical := goodIn_r _ [9, 10, 2, 3, 4, 5, 11, 12, 13, 14, 15, 16, 17, 18, 19, 20, 21, 22, 23, 24, 25, 26, 27, 28, 29, 30, 31, 32, 33, 34, 35, 36, 140, 141, 142, 143, 144, 145, 146, 147, 148, 149, 150, 151, 152, 153, 154, 155, 156, 157, 158, 159, 160, 161, 162, 163, 164, 165, 166, 167, 168, 169, 170] (by decide +kernel) (by decide +kernel)
set_option maxRecDepth 20000 in
theorem gX12_slack_X12_critical : GoodIn wsX12_slack (wsV RX12 328 RX12 yX12_critical wsX12_critical) := goodIn_app (goodIn_of _ (by decide +kernel)) ggX12_slack_X12_critical
set_option maxRecDepth 20000 in
theorem ggX12_slack_X12_betti : GoodIn wsX12_slack wsX12_betti := goodIn_r _ [40, 2, 3, 4, 5, 41, 42, 43, 44, 10, 45, 20, 11, 12, 13, 14, 15, 16, 17, 18, 19, 21, 22, 23, 24, 46, 47, 48, 49, 50, 51, 52, 53, 25, 26, 27, 28, 29, 30, 31, 32, 33, 34, 35, 36, 54, 55, 56, 57, 58, 59, 60, 61, 62, 63, 64, 65, 66, 67, 68, 69, 70, 71, 72, 73, 74, 75, 76, 77, 78, 79, 80, 81, 82, 83, 84, 85, 86, 87, 88, 89, 90, 91, 92, 93, 94, 95, 96, 97, 98, 99, 100, 101, 102, 103, 104, 105, 106, 107, 108, 109, 110, 111, 112, 113, 114, 115, 116, 117, 118, 119, 120, 121, 122, 123, 124, 125, 126, 127, 128, 129, 130, 131, 132, 133, 134, 135, 136, 137, 138, 139, 140, 141, 142, 143, 144, 145, 146, 147, 148, 149, 150, 151, 152, 153, 154, 155, 156, 157, 158, 159, 160, 161, 162, 163, 164, 165, 166, 167, 168, 169, 170] (by decide +kernel) (by decide +kernel)
set_option maxRecDepth 20000 in
theorem gX12_slack_X12_betti : GoodIn wsX12_slack (wsV RX12 331 RX12 yX12_betti wsX12_betti) := goodIn_app (goodIn_of _ (by decide +kernel)) ggX12_slack_X12_betti
set_option maxRecDepth 20000 in
theorem ggX12_alternating_X12_dimOf : GoodIn wsX12_alternating wsX12_dimOf := goodIn_r _ [5, 6, 7, 8, 9, 10, 11, 12, 13, 14, 15, 16, 17, 18, 19, 20, 21, 22, 23, 24, 25, 26, 27, 28, 29, 30, 31, 32, 33, 34, 35, 36, 37, 38, 39, 40, 41, 42, 43, 44] (by decide +kernel) (by decide +kernel)
set_option maxRecDepth 20000 in
theorem gX12_alternating_X12_dimOf : GoodIn wsX12_alternating (wsV RX12 149 RX12 yX12_dimOf wsX12_dimOf) := goodIn_app (goodIn_of _ (by decide +kernel)) ggX12_alternating_X12_dimOf
set_option maxRecDepth 20000 in
theorem ggX12_level_X12_in : GoodIn wsX12_level wsX12_in := goodIn_r _ [6] (by decide +kernel) (by decide +kernel)
set_option maxRecDepth 20000 in
theorem gX12_level_X12_in : GoodIn wsX12_level (va_wsS RX12 101 yX12_in wsX12_in) := goodIn_app (goodIn_of _ (by decide +kernel)) ggX12_level_X12_in
set_option maxRecDepth 20000 in
theorem ggX12_level_X12_laysHeights : GoodIn wsX12_level wsX12_laysHeights := goodIn_r _ [10, 1, 2, 11, 12, 13, 14, 5, 15, 16, 17, 18, 19, 20, 21, 22, 23, 24, 25, 26, 27, 28, 29, 30, 31, 32, 45, 46, 47, 48, 49, 50, 51, 52, 53, 54, 55, 56, 57, 58, 59, 60, 61, 62, 63, 64, 65, 66, 67, 68, 69, 70, 71, 72, 73, 74, 75] (by decide +kernel) (by decide +kernel)
set_option maxRecDepth 20000 in
theorem gX12_level_X12_laysHeights : GoodIn wsX12_level (wsV RX12 173 RX12 yX12_laysHeights wsX12_laysHeights) := goodIn_app (goodIn_of _ (by decide +kernel)) ggX12_level_X12_laysHeights
set_option maxRecDepth 20000 in
theorem ggX12_level_X12_isThere : GoodIn wsX12_level wsX12_isThere := goodIn_r _ [36, 16, 37, 38, 39, 5, 40, 1, 3, 4, 6, 45, 46, 47, 48, 49, 50, 51, 52, 53, 54, 55, 56, 57, 58, 59, 60, 61, 62, 63, 64, 65, 66, 67, 68, 69, 70, 71, 72, 73, 74, 75] (by decide +kernel) (by decide +kernel)
set_option maxRecDepth 20000 in
theorem gX12_level_X12_isThere : GoodIn wsX12_level (wsV RX12 156 RX12 yX12_isThere wsX12_isThere) := goodIn_app (goodIn_of _ (by decide +kernel)) ggX12_level_X12_isThere
set_option maxRecDepth 20000 in
theorem ggX12_level_X12_alternating : GoodIn wsX12_level wsX12_alternating := goodIn_r _ [44, 22, 23, 24, 5, 25, 21, 26, 27, 28, 29, 30, 31, 32, 45, 46, 47, 48, 49, 50, 51, 52, 53, 54, 55, 56, 57, 58, 59, 60, 61, 62, 63, 64, 65, 66, 67, 68, 69, 70, 71, 72, 73, 74, 75] (by decide +kernel) (by decide +kernel)
set_option maxRecDepth 20000 in
theorem gX12_level_X12_alternating : GoodIn wsX12_level (wsV RX12 334 RX12 yX12_alternating wsX12_alternating) := goodIn_app (goodIn_of _ (by decide +kernel)) ggX12_level_X12_alternating
set_option maxRecDepth 20000 in
theorem ggX12_levelBetti_X12_in : GoodIn wsX12_levelBetti wsX12_in := goodIn_r _ [8] (by decide +kernel) (by decide +kernel)
set_option maxRecDepth 20000 in
theorem gX12_levelBetti_X12_in : GoodIn wsX12_levelBetti (va_wsS RX12 101 yX12_in wsX12_in) := goodIn_app (goodIn_of _ (by decide +kernel)) ggX12_levelBetti_X12_in
set_option maxRecDepth 20000 in
theorem ggX12_levelBetti_X12_laysHeights : GoodIn wsX12_levelBetti wsX12_laysHeights := goodIn_r _ [12, 1, 3, 13, 14, 15, 16, 7, 17, 18, 19, 20, 21, 22, 4, 23, 24, 25, 26, 27, 28, 29, 30, 31, 32, 33, 128, 129, 130, 131, 132, 133, 134, 135, 136, 137, 138, 139, 140, 141, 142, 143, 144, 145, 146, 147, 148, 149, 150, 151, 152, 153, 154, 155, 156, 157, 158] (by decide +kernel) (by decide +kernel)
set_option maxRecDepth 20000 in
theorem gX12_levelBetti_X12_laysHeights : GoodIn wsX12_levelBetti (wsV RX12 173 RX12 yX12_laysHeights wsX12_laysHeights) := goodIn_app (goodIn_of _ (by decide +kernel)) ggX12_levelBetti_X12_laysHeights
set_option maxRecDepth 20000 in
theorem ggX12_levelBetti_X12_isThere : GoodIn wsX12_levelBetti wsX12_isThere := goodIn_r _ [37, 18, 38, 39, 40, 7, 41, 1, 5, 6, 8, 128, 129, 130, 131, 132, 133, 134, 135, 136, 137, 138, 139, 140, 141, 142, 143, 144, 145, 146, 147, 148, 149, 150, 151, 152, 153, 154, 155, 156, 157, 158] (by decide +kernel) (by decide +kernel)
set_option maxRecDepth 20000 in
theorem gX12_levelBetti_X12_isThere : GoodIn wsX12_levelBetti (wsV RX12 156 RX12 yX12_isThere wsX12_isThere) := goodIn_app (goodIn_of _ (by decide +kernel)) ggX12_levelBetti_X12_isThere
set_option maxRecDepth 20000 in
theorem ggX12_levelBetti_X12_bettiTaken : GoodIn wsX12_levelBetti wsX12_bettiTaken := goodIn_r _ [45, 46, 47, 48, 7, 49, 1, 2, 23, 24, 25, 26, 4, 27, 28, 29, 30, 31, 32, 33, 50, 51, 52, 53, 54, 55, 56, 5, 6, 8, 57, 58, 59, 60, 61, 62, 63, 64, 65, 66, 67, 68, 69, 70, 71, 72, 73, 74, 34, 35, 36, 37, 18, 38, 39, 40, 41, 75, 76, 77, 78, 13, 79, 80, 81, 82, 14, 15, 16, 17, 19, 20, 21, 22, 83, 84, 85, 86, 87, 88, 89, 90, 91, 92, 93, 94, 95, 96, 97, 98, 99, 100, 101, 102, 103, 104, 105, 106, 107, 108, 109, 110, 111, 112, 113, 114, 115, 116, 117, 118, 119, 120, 121, 122, 123, 124, 125, 126, 127, 128, 129, 130, 131, 132, 133, 134, 135, 136, 137, 138, 139, 140, 141, 142, 143, 144, 145, 146, 147, 148, 149, 150, 151, 152, 153, 154, 155, 156, 157, 158] (by decide +kernel) (by decide +kernel)
set_option maxRecDepth 20000 in
theorem gX12_levelBetti_X12_bettiTaken : GoodIn wsX12_levelBetti (wsV RX12 323 RX12 yX12_bettiTaken wsX12_bettiTaken) := goodIn_app (goodIn_of _ (by decide +kernel)) ggX12_levelBetti_X12_bettiTaken
set_option maxRecDepth 20000 in
theorem ggX12_link_X12_isThere : GoodIn wsX12_link wsX12_isThere := goodIn_r _ [9, 10, 11, 12, 13, 8, 14, 2, 15, 16, 17, 33, 34, 35, 36, 37, 38, 39, 40, 41, 42, 43, 44, 45, 46, 47, 48, 49, 50, 51, 52, 53, 54, 55, 56, 57, 58, 59, 60, 61, 62, 63] (by decide +kernel) (by decide +kernel)
set_option maxRecDepth 20000 in
theorem gX12_link_X12_isThere : GoodIn wsX12_link (wsV RX12 156 RX12 yX12_isThere wsX12_isThere) := goodIn_app (goodIn_of _ (by decide +kernel)) ggX12_link_X12_isThere
set_option maxRecDepth 20000 in
theorem ggX12_link_X12_in : GoodIn wsX12_link wsX12_in := goodIn_r _ [17] (by decide +kernel) (by decide +kernel)
set_option maxRecDepth 20000 in
theorem gX12_link_X12_in : GoodIn wsX12_link (va_wsS RX12 101 yX12_in wsX12_in) := goodIn_app (goodIn_of _ (by decide +kernel)) ggX12_link_X12_in
set_option maxRecDepth 20000 in
theorem ggX12_link_X12_alternating : GoodIn wsX12_link wsX12_alternating := goodIn_r _ [21, 22, 23, 24, 8, 25, 3, 26, 27, 28, 29, 30, 31, 32, 33, 34, 35, 36, 37, 38, 39, 40, 41, 42, 43, 44, 45, 46, 47, 48, 49, 50, 51, 52, 53, 54, 55, 56, 57, 58, 59, 60, 61, 62, 63] (by decide +kernel) (by decide +kernel)
set_option maxRecDepth 20000 in
theorem gX12_link_X12_alternating : GoodIn wsX12_link (wsV RX12 334 RX12 yX12_alternating wsX12_alternating) := goodIn_app (goodIn_of _ (by decide +kernel)) ggX12_link_X12_alternating
set_option maxRecDepth 20000 in
theorem ggX12_room_X12_in : GoodIn wsX12_room wsX12_in := goodIn_r _ [5] (by decide +kernel) (by decide +kernel)
set_option maxRecDepth 20000 in
theorem gX12_room_X12_in : GoodIn wsX12_room (va_wsS RX12 101 yX12_in wsX12_in) := goodIn_app (goodIn_of _ (by decide +kernel)) ggX12_room_X12_in
set_option maxRecDepth 20000 in
theorem ggX12_room_X12_dimOf : GoodIn wsX12_room wsX12_dimOf := goodIn_r _ [9, 10, 11, 12, 13, 14, 15, 16, 17, 56, 57, 58, 59, 60, 61, 62, 63, 64, 65, 66, 67, 68, 69, 70, 71, 72, 73, 74, 75, 76, 77, 78, 79, 80, 81, 82, 83, 84, 85, 86] (by decide +kernel) (by decide +kernel)
set_option maxRecDepth 20000 in
theorem gX12_room_X12_dimOf : GoodIn wsX12_room (wsV RX12 149 RX12 yX12_dimOf wsX12_dimOf) := goodIn_app (goodIn_of _ (by decide +kernel)) ggX12_room_X12_dimOf
set_option maxRecDepth 20000 in
theorem ggX12_room_X12_isFaceThere : GoodIn wsX12_room wsX12_isFaceThere := goodIn_r _ [21, 22, 23, 24, 25, 4, 26, 10, 6, 7, 8, 9, 11, 12, 13, 14, 15, 16, 17, 56, 57, 58, 59, 60, 61, 62, 63, 64, 65, 66, 67, 68, 69, 70, 71, 72, 73, 74, 75, 76, 77, 78, 79, 80, 81, 82, 83, 84, 85, 86] (by decide +kernel) (by decide +kernel)
set_option maxRecDepth 20000 in
theorem gX12_room_X12_isFaceThere : GoodIn wsX12_room (wsV RX12 162 RX12 yX12_isFaceThere wsX12_isFaceThere) := goodIn_app (goodIn_of _ (by decide +kernel)) ggX12_room_X12_isFaceThere
set_option maxRecDepth 20000 in
theorem ggX12_room_X12_isFree : GoodIn wsX12_room wsX12_isFree := goodIn_r _ [30, 31, 56, 57, 58, 59, 60, 61, 62, 63, 64, 65, 66, 67, 68, 69, 70, 71, 72, 73, 74, 75, 76, 77, 78, 79, 80, 81, 82, 83, 84, 85, 86] (by decide +kernel) (by decide +kernel)
set_option maxRecDepth 20000 in
theorem gX12_room_X12_isFree : GoodIn wsX12_room (wsV RX12 185 RX12 yX12_isFree wsX12_isFree) := goodIn_app (goodIn_of _ (by decide +kernel)) ggX12_room_X12_isFree
set_option maxRecDepth 20000 in
theorem ggX12_room_X12_couples : GoodIn wsX12_room wsX12_couples := goodIn_r _ [35, 31, 36, 37, 38, 4, 39, 1, 40, 41, 42, 43, 44, 45, 46, 47, 48, 49, 50, 51, 23, 24, 25, 26, 10, 6, 7, 8, 9, 11, 12, 13, 14, 15, 16, 17, 56, 57, 58, 59, 60, 61, 62, 63, 64, 65, 66, 67, 68, 69, 70, 71, 72, 73, 74, 75, 76, 77, 78, 79, 80, 81, 82, 83, 84, 85, 86] (by decide +kernel) (by decide +kernel)
set_option maxRecDepth 20000 in
theorem gX12_room_X12_couples : GoodIn wsX12_room (wsV RX12 188 RX12 yX12_couples wsX12_couples) := goodIn_app (goodIn_of _ (by decide +kernel)) ggX12_room_X12_couples
set_option maxRecDepth 20000 in
theorem ggX12_room_X12_frees : GoodIn wsX12_room wsX12_frees := goodIn_r _ [55, 31, 56, 57, 58, 59, 60, 61, 62, 63, 64, 65, 66, 67, 68, 69, 70, 71, 72, 73, 74, 75, 76, 77, 78, 79, 80, 81, 82, 83, 84, 85, 86] (by decide +kernel) (by decide +kernel)
set_option maxRecDepth 20000 in
theorem gX12_room_X12_frees : GoodIn wsX12_room (wsV RX12 191 RX12 yX12_frees wsX12_frees) := goodIn_app (goodIn_of _ (by decide +kernel)) ggX12_room_X12_frees
set_option maxRecDepth 20000 in
theorem ggX12_partsMany_X12_isFaceThere : GoodIn wsX12_partsMany wsX12_isFaceThere := goodIn_r _ [11, 12, 13, 14, 15, 10, 16, 17, 18, 19, 20, 21, 22, 23, 24, 25, 26, 27, 28, 43, 44, 45, 46, 47, 48, 49, 50, 51, 52, 53, 54, 55, 56, 57, 58, 59, 60, 61, 62, 63, 64, 65, 66, 67, 68, 69, 70, 71, 72, 73] (by decide +kernel) (by decide +kernel)
set_option maxRecDepth 20000 in
theorem gX12_partsMany_X12_isFaceThere : GoodIn wsX12_partsMany (wsV RX12 162 RX12 yX12_isFaceThere wsX12_isFaceThere) := goodIn_app (goodIn_of _ (by decide +kernel)) ggX12_partsMany_X12_isFaceThere
set_option maxRecDepth 20000 in
theorem ggX12_partsMany_X12_isThere : GoodIn wsX12_partsMany wsX12_isThere := goodIn_r _ [32, 12, 33, 34, 35, 10, 36, 1, 37, 38, 39, 43, 44, 45, 46, 47, 48, 49, 50, 51, 52, 53, 54, 55, 56, 57, 58, 59, 60, 61, 62, 63, 64, 65, 66, 67, 68, 69, 70, 71, 72, 73] (by decide +kernel) (by decide +kernel)
set_option maxRecDepth 20000 in
theorem gX12_partsMany_X12_isThere : GoodIn wsX12_partsMany (wsV RX12 156 RX12 yX12_isThere wsX12_isThere) := goodIn_app (goodIn_of _ (by decide +kernel)) ggX12_partsMany_X12_isThere
set_option maxRecDepth 20000 in
theorem ggX12_partsMany_X12_truth : GoodIn wsX12_partsMany wsX12_truth := goodIn_r _ [42] (by decide +kernel) (by decide +kernel)
set_option maxRecDepth 20000 in
theorem gX12_partsMany_X12_truth : GoodIn wsX12_partsMany (va_wsS RX12 105 yX12_truth wsX12_truth) := goodIn_app (goodIn_of _ (by decide +kernel)) ggX12_partsMany_X12_truth
set_option maxRecDepth 20000 in
theorem ggX12_laysChoices_X12_onlyOver : GoodIn wsX12_laysChoices wsX12_onlyOver := goodIn_r _ [8, 1, 2, 9, 10, 11, 7, 12, 13, 14, 15, 16, 17, 18, 19, 20, 21, 22, 23, 24, 25, 26, 27, 28, 29, 30, 31, 32, 33, 34, 35, 36, 37, 38, 39, 40, 41, 42, 43, 44, 45, 46, 47, 48, 49, 50, 51, 52, 53, 54, 55] (by decide +kernel) (by decide +kernel)
set_option maxRecDepth 20000 in
theorem gX12_laysChoices_X12_onlyOver : GoodIn wsX12_laysChoices (wsV RX12 206 RX12 yX12_onlyOver wsX12_onlyOver) := goodIn_app (goodIn_of _ (by decide +kernel)) ggX12_laysChoices_X12_onlyOver
set_option maxRecDepth 20000 in
theorem ggX12_laysChoices_X12_dimOf : GoodIn wsX12_laysChoices wsX12_dimOf := goodIn_r _ [17, 13, 18, 19, 20, 21, 22, 23, 24, 25, 26, 27, 28, 29, 30, 31, 32, 33, 34, 35, 36, 37, 38, 39, 40, 41, 42, 43, 44, 45, 46, 47, 48, 49, 50, 51, 52, 53, 54, 55] (by decide +kernel) (by decide +kernel)
set_option maxRecDepth 20000 in
theorem gX12_laysChoices_X12_dimOf : GoodIn wsX12_laysChoices (wsV RX12 149 RX12 yX12_dimOf wsX12_dimOf) := goodIn_app (goodIn_of _ (by decide +kernel)) ggX12_laysChoices_X12_dimOf
set_option maxRecDepth 20000 in
theorem ggX12_openDim_X12_dimOf : GoodIn wsX12_openDim wsX12_dimOf := goodIn_r _ [11, 12, 13, 14, 15, 16, 17, 18, 19, 20, 21, 22, 23, 24, 25, 26, 27, 28, 29, 30, 31, 32, 33, 34, 35, 36, 37, 38, 39, 40, 41, 42, 43, 44, 45, 46, 47, 48, 49, 50] (by decide +kernel) (by decide +kernel)
set_option maxRecDepth 20000 in
theorem gX12_openDim_X12_dimOf : GoodIn wsX12_openDim (wsV RX12 149 RX12 yX12_dimOf wsX12_dimOf) := goodIn_app (goodIn_of _ (by decide +kernel)) ggX12_openDim_X12_dimOf
set_option maxRecDepth 20000 in
theorem ggX12_drawnOnce_X12_opensAll : GoodIn wsX12_drawnOnce wsX12_opensAll := goodIn_r _ [7, 8, 2, 9, 10, 11, 12, 6, 13, 14, 60, 61, 62, 63, 64, 65, 66, 67, 68, 69, 70, 71, 72, 73, 74, 75, 76, 77, 78, 79, 80, 81, 82, 83, 84, 85, 86, 87, 88, 89, 90] (by decide +kernel) (by decide +kernel)
set_option maxRecDepth 20000 in
theorem gX12_drawnOnce_X12_opensAll : GoodIn wsX12_drawnOnce (wsV RX12 203 RX12 yX12_opensAll wsX12_opensAll) := goodIn_app (goodIn_of _ (by decide +kernel)) ggX12_drawnOnce_X12_opensAll
set_option maxRecDepth 20000 in
theorem ggX12_drawnOnce_X12_openDim : GoodIn wsX12_drawnOnce wsX12_openDim := goodIn_r _ [18, 8, 2, 19, 20, 21, 22, 23, 24, 25, 6, 26, 27, 28, 29, 30, 31, 32, 33, 34, 60, 61, 62, 63, 64, 65, 66, 67, 68, 69, 70, 71, 72, 73, 74, 75, 76, 77, 78, 79, 80, 81, 82, 83, 84, 85, 86, 87, 88, 89, 90] (by decide +kernel) (by decide +kernel)
set_option maxRecDepth 20000 in
theorem gX12_drawnOnce_X12_openDim : GoodIn wsX12_drawnOnce (wsV RX12 353 RX12 yX12_openDim wsX12_openDim) := goodIn_app (goodIn_of _ (by decide +kernel)) ggX12_drawnOnce_X12_openDim
set_option maxRecDepth 20000 in
theorem ggX12_drawnOnce_X12_laysChoices : GoodIn wsX12_drawnOnce wsX12_laysChoices := goodIn_r _ [38, 8, 2, 1, 39, 40, 41, 6, 42, 43, 44, 45, 46, 27, 23, 24, 25, 26, 28, 29, 30, 31, 32, 33, 34, 60, 61, 62, 63, 64, 65, 66, 67, 68, 69, 70, 71, 72, 73, 74, 75, 76, 77, 78, 79, 80, 81, 82, 83, 84, 85, 86, 87, 88, 89, 90] (by decide +kernel) (by decide +kernel)
set_option maxRecDepth 20000 in
theorem gX12_drawnOnce_X12_laysChoices : GoodIn wsX12_drawnOnce (wsV RX12 356 RX12 yX12_laysChoices wsX12_laysChoices) := goodIn_app (goodIn_of _ (by decide +kernel)) ggX12_drawnOnce_X12_laysChoices
set_option maxRecDepth 20000 in
theorem ggX12_drawnOnce_X12_drawnOf : GoodIn wsX12_drawnOnce wsX12_drawnOf := goodIn_r _ [50, 51, 52, 53, 54, 55, 60, 61, 62, 63, 64, 65, 66, 67, 68, 69, 70, 71, 72, 73, 74, 75, 76, 77, 78, 79, 80, 81, 82, 83, 84, 85, 86, 87, 88, 89, 90] (by decide +kernel) (by decide +kernel)
set_option maxRecDepth 20000 in
theorem gX12_drawnOnce_X12_drawnOf : GoodIn wsX12_drawnOnce (wsV RX12 360 RX12 yX12_drawnOf wsX12_drawnOf) := goodIn_app (goodIn_of _ (by decide +kernel)) ggX12_drawnOnce_X12_drawnOf
set_option maxRecDepth 20000 in
theorem ggX12_drawnOnce_X12_onlyOver : GoodIn wsX12_drawnOnce wsX12_onlyOver := goodIn_r _ [42, 8, 2, 43, 44, 45, 6, 46, 27, 23, 24, 25, 26, 28, 29, 30, 31, 32, 33, 34, 60, 61, 62, 63, 64, 65, 66, 67, 68, 69, 70, 71, 72, 73, 74, 75, 76, 77, 78, 79, 80, 81, 82, 83, 84, 85, 86, 87, 88, 89, 90] (by decide +kernel) (by decide +kernel)
set_option maxRecDepth 20000 in
theorem gX12_drawnOnce_X12_onlyOver : GoodIn wsX12_drawnOnce (wsV RX12 206 RX12 yX12_onlyOver wsX12_onlyOver) := goodIn_app (goodIn_of _ (by decide +kernel)) ggX12_drawnOnce_X12_onlyOver
set_option maxRecDepth 20000 in
theorem ggX12_drawnOnce_X12_closes : GoodIn wsX12_drawnOnce wsX12_closes := goodIn_r _ [59, 14, 2, 60, 61, 62, 63, 64, 65, 66, 67, 68, 69, 70, 71, 72, 73, 74, 75, 76, 77, 78, 79, 80, 81, 82, 83, 84, 85, 86, 87, 88, 89, 90] (by decide +kernel) (by decide +kernel)
set_option maxRecDepth 20000 in
theorem gX12_drawnOnce_X12_closes : GoodIn wsX12_drawnOnce (wsV RX12 209 RX12 yX12_closes wsX12_closes) := goodIn_app (goodIn_of _ (by decide +kernel)) ggX12_drawnOnce_X12_closes
set_option maxRecDepth 20000 in
theorem ggX12_drawn_X12_in : GoodIn wsX12_drawn wsX12_in := goodIn_r _ [15] (by decide +kernel) (by decide +kernel)
set_option maxRecDepth 20000 in
theorem gX12_drawn_X12_in : GoodIn wsX12_drawn (va_wsS RX12 101 yX12_in wsX12_in) := goodIn_app (goodIn_of _ (by decide +kernel)) ggX12_drawn_X12_in
set_option maxRecDepth 20000 in
theorem ggX12_drawn_X12_drawnOnce : GoodIn wsX12_drawn wsX12_drawnOnce := goodIn_r _ [19, 20, 21, 22, 23, 24, 14, 25, 1, 26, 27, 28, 29, 30, 3, 31, 32, 33, 34, 9, 10, 7, 11, 35, 36, 37, 38, 39, 40, 41, 42, 43, 44, 45, 46, 47, 48, 49, 50, 51, 52, 53, 54, 55, 56, 57, 58, 59, 60, 61, 62, 4, 63, 64, 65, 66, 67, 68, 69, 70, 71, 72, 73, 74, 75, 76, 77, 78, 79, 80, 81, 82, 83, 84, 85, 86, 87, 88, 89, 90, 91, 92, 93, 94, 95, 96, 97, 98, 99, 100, 101] (by decide +kernel) (by decide +kernel)
set_option maxRecDepth 20000 in
theorem gX12_drawn_X12_drawnOnce : GoodIn wsX12_drawn (wsV RX12 363 RX12 yX12_drawnOnce wsX12_drawnOnce) := goodIn_app (goodIn_of _ (by decide +kernel)) ggX12_drawn_X12_drawnOnce
set_option maxRecDepth 20000 in
theorem ggX12_pairMany_X12_isLower : GoodIn wsX12_pairMany wsX12_isLower := goodIn_r _ [6, 7, 11, 12, 13, 14, 15, 16, 17, 18, 19, 20, 21, 22, 23, 24, 25, 26, 27, 28, 29, 30, 31, 32, 33, 34, 35, 36, 37, 38, 39, 40, 41] (by decide +kernel) (by decide +kernel)
set_option maxRecDepth 20000 in
theorem gX12_pairMany_X12_isLower : GoodIn wsX12_pairMany (wsV RX12 170 RX12 yX12_isLower wsX12_isLower) := goodIn_app (goodIn_of _ (by decide +kernel)) ggX12_pairMany_X12_isLower
set_option maxRecDepth 20000 in
theorem ggX12_pairMany_X12_truth : GoodIn wsX12_pairMany wsX12_truth := goodIn_r _ [10] (by decide +kernel) (by decide +kernel)
set_option maxRecDepth 20000 in
theorem gX12_pairMany_X12_truth : GoodIn wsX12_pairMany (va_wsS RX12 105 yX12_truth wsX12_truth) := goodIn_app (goodIn_of _ (by decide +kernel)) ggX12_pairMany_X12_truth
set_option maxRecDepth 20000 in
theorem ggX12_keep_X12_in : GoodIn wsX12_keep wsX12_in := goodIn_r _ [8] (by decide +kernel) (by decide +kernel)
set_option maxRecDepth 20000 in
theorem gX12_keep_X12_in : GoodIn wsX12_keep (va_wsS RX12 101 yX12_in wsX12_in) := goodIn_app (goodIn_of _ (by decide +kernel)) ggX12_keep_X12_in
set_option maxRecDepth 20000 in
theorem ggX12_keep_X12_pairMany : GoodIn wsX12_keep wsX12_pairMany := goodIn_r _ [12, 1, 13, 14, 15, 7, 16, 4, 17, 18, 19, 20, 21, 22, 23, 24, 25, 26, 27, 28, 29, 30, 31, 32, 33, 34, 35, 36, 37, 38, 39, 40, 41, 42, 43, 44, 45, 46, 47, 48, 49, 50] (by decide +kernel) (by decide +kernel)
set_option maxRecDepth 20000 in
theorem gX12_keep_X12_pairMany : GoodIn wsX12_keep (wsV RX12 366 RX12 yX12_pairMany wsX12_pairMany) := goodIn_app (goodIn_of _ (by decide +kernel)) ggX12_keep_X12_pairMany
set_option maxRecDepth 20000 in
theorem ggX12_same_X12_in : GoodIn wsX12_same wsX12_in := goodIn_r _ [8] (by decide +kernel) (by decide +kernel)
set_option maxRecDepth 20000 in
theorem gX12_same_X12_in : GoodIn wsX12_same (va_wsS RX12 101 yX12_in wsX12_in) := goodIn_app (goodIn_of _ (by decide +kernel)) ggX12_same_X12_in
set_option maxRecDepth 20000 in
theorem ggX12_same_X12_isLower : GoodIn wsX12_same wsX12_isLower := goodIn_r _ [12, 4, 16, 17, 18, 19, 20, 21, 22, 23, 24, 25, 26, 27, 28, 29, 30, 31, 32, 33, 34, 35, 36, 37, 38, 39, 40, 41, 42, 43, 44, 45, 46] (by decide +kernel) (by decide +kernel)
set_option maxRecDepth 20000 in
theorem gX12_same_X12_isLower : GoodIn wsX12_same (wsV RX12 170 RX12 yX12_isLower wsX12_isLower) := goodIn_app (goodIn_of _ (by decide +kernel)) ggX12_same_X12_isLower
set_option maxRecDepth 20000 in
theorem ggX12_same_X12_truth : GoodIn wsX12_same wsX12_truth := goodIn_r _ [15] (by decide +kernel) (by decide +kernel)
set_option maxRecDepth 20000 in
theorem gX12_same_X12_truth : GoodIn wsX12_same (va_wsS RX12 105 yX12_truth wsX12_truth) := goodIn_app (goodIn_of _ (by decide +kernel)) ggX12_same_X12_truth
set_option maxRecDepth 20000 in
theorem ggX12_euler_X12_isThere : GoodIn wsX12_euler wsX12_isThere := goodIn_r _ [6, 7, 8, 9, 10, 5, 11, 1, 12, 13, 14, 31, 32, 33, 34, 35, 36, 37, 38, 39, 40, 41, 42, 43, 44, 45, 46, 47, 48, 49, 50, 51, 52, 53, 54, 55, 56, 57, 58, 59, 60, 61] (by decide +kernel) (by decide +kernel)
set_option maxRecDepth 20000 in
theorem gX12_euler_X12_isThere : GoodIn wsX12_euler (wsV RX12 156 RX12 yX12_isThere wsX12_isThere) := goodIn_app (goodIn_of _ (by decide +kernel)) ggX12_euler_X12_isThere
set_option maxRecDepth 20000 in
theorem ggX12_euler_X12_alternating : GoodIn wsX12_euler wsX12_alternating := goodIn_r _ [18, 19, 20, 21, 5, 22, 23, 24, 25, 26, 27, 28, 29, 30, 31, 32, 33, 34, 35, 36, 37, 38, 39, 40, 41, 42, 43, 44, 45, 46, 47, 48, 49, 50, 51, 52, 53, 54, 55, 56, 57, 58, 59, 60, 61] (by decide +kernel) (by decide +kernel)
set_option maxRecDepth 20000 in
theorem gX12_euler_X12_alternating : GoodIn wsX12_euler (wsV RX12 334 RX12 yX12_alternating wsX12_alternating) := goodIn_app (goodIn_of _ (by decide +kernel)) ggX12_euler_X12_alternating
set_option maxRecDepth 20000 in
theorem ggX12_greatestDim_X12_isThere : GoodIn wsX12_greatestDim wsX12_isThere := goodIn_r _ [10, 11, 12, 13, 14, 9, 15, 1, 16, 17, 18, 31, 32, 33, 34, 35, 36, 37, 38, 39, 40, 41, 42, 43, 44, 45, 46, 47, 48, 49, 50, 51, 52, 53, 54, 55, 56, 57, 58, 59, 60, 61] (by decide +kernel) (by decide +kernel)
set_option maxRecDepth 20000 in
theorem gX12_greatestDim_X12_isThere : GoodIn wsX12_greatestDim (wsV RX12 156 RX12 yX12_isThere wsX12_isThere) := goodIn_app (goodIn_of _ (by decide +kernel)) ggX12_greatestDim_X12_isThere
set_option maxRecDepth 20000 in
theorem ggX12_greatestDim_X12_dimOf : GoodIn wsX12_greatestDim wsX12_dimOf := goodIn_r _ [22, 23, 24, 25, 26, 27, 28, 29, 30, 31, 32, 33, 34, 35, 36, 37, 38, 39, 40, 41, 42, 43, 44, 45, 46, 47, 48, 49, 50, 51, 52, 53, 54, 55, 56, 57, 58, 59, 60, 61] (by decide +kernel) (by decide +kernel)
set_option maxRecDepth 20000 in
theorem gX12_greatestDim_X12_dimOf : GoodIn wsX12_greatestDim (wsV RX12 149 RX12 yX12_dimOf wsX12_dimOf) := goodIn_app (goodIn_of _ (by decide +kernel)) ggX12_greatestDim_X12_dimOf
set_option maxRecDepth 20000 in
theorem ggX12_count_X12_thereMany : GoodIn wsX12_count wsX12_thereMany := goodIn_r _ [9, 1, 10, 11, 12, 8, 13, 86, 87, 88, 89, 90, 91, 92, 93, 94, 95, 96, 97, 98, 99, 100, 101, 102, 103, 104, 105, 106, 107, 108, 109, 110, 111, 112, 113, 114, 115, 116] (by decide +kernel) (by decide +kernel)
set_option maxRecDepth 20000 in
theorem gX12_count_X12_thereMany : GoodIn wsX12_count (wsV RX12 268 RX12 yX12_thereMany wsX12_thereMany) := goodIn_app (goodIn_of _ (by decide +kernel)) ggX12_count_X12_thereMany
set_option maxRecDepth 20000 in
theorem ggX12_count_X12_greatestDim : GoodIn wsX12_count wsX12_greatestDim := goodIn_r _ [17, 1, 18, 19, 20, 21, 22, 23, 24, 8, 25, 10, 26, 27, 28, 29, 30, 31, 32, 33, 34, 35, 36, 37, 38, 39, 40, 41, 42, 43, 44, 86, 87, 88, 89, 90, 91, 92, 93, 94, 95, 96, 97, 98, 99, 100, 101, 102, 103, 104, 105, 106, 107, 108, 109, 110, 111, 112, 113, 114, 115, 116] (by decide +kernel) (by decide +kernel)
set_option maxRecDepth 20000 in
theorem gX12_count_X12_greatestDim : GoodIn wsX12_count (wsV RX12 369 RX12 yX12_greatestDim wsX12_greatestDim) := goodIn_app (goodIn_of _ (by decide +kernel)) ggX12_count_X12_greatestDim
set_option maxRecDepth 20000 in
theorem ggX12_count_X12_pairMany : GoodIn wsX12_count wsX12_pairMany := goodIn_r _ [48, 1, 49, 50, 51, 8, 52, 53, 11, 12, 13, 86, 87, 88, 89, 90, 91, 92, 93, 94, 95, 96, 97, 98, 99, 100, 101, 102, 103, 104, 105, 106, 107, 108, 109, 110, 111, 112, 113, 114, 115, 116] (by decide +kernel) (by decide +kernel)
set_option maxRecDepth 20000 in
theorem gX12_count_X12_pairMany : GoodIn wsX12_count (wsV RX12 366 RX12 yX12_pairMany wsX12_pairMany) := goodIn_app (goodIn_of _ (by decide +kernel)) ggX12_count_X12_pairMany
set_option maxRecDepth 20000 in
theorem ggX12_count_X12_criticalMany : GoodIn wsX12_count wsX12_criticalMany := goodIn_r _ [57, 1, 58, 59, 60, 8, 61, 53, 22, 23, 24, 25, 10, 26, 27, 28, 29, 30, 31, 32, 11, 12, 13, 86, 87, 88, 89, 90, 91, 92, 93, 94, 95, 96, 97, 98, 99, 100, 101, 102, 103, 104, 105, 106, 107, 108, 109, 110, 111, 112, 113, 114, 115, 116] (by decide +kernel) (by decide +kernel)
set_option maxRecDepth 20000 in
theorem gX12_count_X12_criticalMany : GoodIn wsX12_count (wsV RX12 197 RX12 yX12_criticalMany wsX12_criticalMany) := goodIn_app (goodIn_of _ (by decide +kernel)) ggX12_count_X12_criticalMany
set_option maxRecDepth 20000 in
theorem ggX12_count_X12_euler : GoodIn wsX12_count wsX12_euler := goodIn_r _ [65, 1, 22, 23, 24, 8, 25, 10, 26, 27, 28, 29, 30, 31, 32, 66, 67, 68, 69, 33, 34, 35, 36, 37, 38, 39, 40, 41, 42, 43, 44, 86, 87, 88, 89, 90, 91, 92, 93, 94, 95, 96, 97, 98, 99, 100, 101, 102, 103, 104, 105, 106, 107, 108, 109, 110, 111, 112, 113, 114, 115, 116] (by decide +kernel) (by decide +kernel)
set_option maxRecDepth 20000 in
theorem gX12_count_X12_euler : GoodIn wsX12_count (wsV RX12 372 RX12 yX12_euler wsX12_euler) := goodIn_app (goodIn_of _ (by decide +kernel)) ggX12_count_X12_euler
set_option maxRecDepth 20000 in
theorem ggX12_count_X12_partsMany : GoodIn wsX12_count wsX12_partsMany := goodIn_r _ [73, 1, 74, 75, 76, 20, 77, 78, 79, 80, 8, 81, 10, 82, 83, 84, 85, 37, 33, 34, 35, 36, 38, 39, 40, 41, 42, 43, 44, 22, 23, 24, 25, 26, 27, 28, 29, 30, 31, 32, 11, 12, 13, 86, 87, 88, 89, 90, 91, 92, 93, 94, 95, 96, 97, 98, 99, 100, 101, 102, 103, 104, 105, 106, 107, 108, 109, 110, 111, 112, 113, 114, 115, 116] (by decide +kernel) (by decide +kernel)
set_option maxRecDepth 20000 in
theorem gX12_count_X12_partsMany : GoodIn wsX12_count (wsV RX12 375 RX12 yX12_partsMany wsX12_partsMany) := goodIn_app (goodIn_of _ (by decide +kernel)) ggX12_count_X12_partsMany
