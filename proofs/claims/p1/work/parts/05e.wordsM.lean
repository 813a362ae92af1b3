set_option maxRecDepth 20000 in
theorem ggX12_feed_X12_puts : GoodIn wsX12_feed wsX12_puts := goodIn_r _ [6, 7, 1, 8, 9, 10, 11, 12, 13, 14, 15, 16, 17, 18, 19, 20, 21, 22, 23, 24, 25, 26, 27, 28, 29, 30, 31, 32, 33, 34, 35, 36, 37, 38] (by decide +kernel) (by decide +kernel)
set_option maxRecDepth 20000 in
theorem gX12_feed_X12_puts : GoodIn wsX12_feed (wsV RX12 87 RX12 yX12_puts wsX12_puts) := goodIn_app (goodIn_of _ (by decide +kernel)) ggX12_feed_X12_puts
set_option maxRecDepth 20000 in
theorem ggX12_blanks_X12_byteNow : GoodIn wsX12_blanks wsX12_byteNow := goodIn_r _ [6, 1, 7, 8, 9, 10, 11, 12, 13, 14, 15, 16, 17, 18, 19, 20, 21, 22, 23, 24, 25, 26, 27, 28, 29, 30, 31, 32, 33, 34, 35, 36, 37, 38, 39] (by decide +kernel) (by decide +kernel)
set_option maxRecDepth 20000 in
theorem gX12_blanks_X12_byteNow : GoodIn wsX12_blanks (wsV RX12 94 RX12 yX12_byteNow wsX12_byteNow) := goodIn_app (goodIn_of _ (by decide +kernel)) ggX12_blanks_X12_byteNow
set_option maxRecDepth 20000 in
theorem ggX12_isLetter_X12_byteNow : GoodIn wsX12_isLetter wsX12_byteNow := goodIn_r _ [5, 6, 7, 8, 12, 13, 14, 15, 16, 17, 18, 19, 20, 21, 22, 23, 24, 25, 26, 27, 28, 29, 30, 31, 32, 33, 34, 35, 36, 37, 38, 39, 40, 41, 42] (by decide +kernel) (by decide +kernel)
set_option maxRecDepth 20000 in
theorem gX12_isLetter_X12_byteNow : GoodIn wsX12_isLetter (wsV RX12 94 RX12 yX12_byteNow wsX12_byteNow) := goodIn_app (goodIn_of _ (by decide +kernel)) ggX12_isLetter_X12_byteNow
set_option maxRecDepth 20000 in
theorem ggX12_isLetter_X12_in : GoodIn wsX12_isLetter wsX12_in := goodIn_r _ [11] (by decide +kernel) (by decide +kernel)
set_option maxRecDepth 20000 in
theorem gX12_isLetter_X12_in : GoodIn wsX12_isLetter (va_wsS RX12 101 yX12_in wsX12_in) := goodIn_app (goodIn_of _ (by decide +kernel)) ggX12_isLetter_X12_in
set_option maxRecDepth 20000 in
theorem ggX12_readsFacet_X12_blanks : GoodIn wsX12_readsFacet wsX12_blanks := goodIn_r _ [6, 1, 7, 8, 9, 5, 10, 11, 12, 48, 49, 50, 51, 52, 53, 54, 55, 56, 57, 58, 59, 60, 61, 62, 63, 64, 65, 66, 67, 68, 69, 70, 71, 72, 73, 74, 75, 76, 77, 78] (by decide +kernel) (by decide +kernel)
set_option maxRecDepth 20000 in
theorem gX12_readsFacet_X12_blanks : GoodIn wsX12_readsFacet (wsV RX12 109 RX12 yX12_blanks wsX12_blanks) := goodIn_app (goodIn_of _ (by decide +kernel)) ggX12_readsFacet_X12_blanks
set_option maxRecDepth 20000 in
theorem ggX12_readsFacet_X12_isLetter : GoodIn wsX12_readsFacet wsX12_isLetter := goodIn_r _ [16, 7, 8, 9, 5, 10, 1, 11, 12, 17, 18, 19, 48, 49, 50, 51, 52, 53, 54, 55, 56, 57, 58, 59, 60, 61, 62, 63, 64, 65, 66, 67, 68, 69, 70, 71, 72, 73, 74, 75, 76, 77, 78] (by decide +kernel) (by decide +kernel)
set_option maxRecDepth 20000 in
theorem gX12_readsFacet_X12_isLetter : GoodIn wsX12_readsFacet (wsV RX12 112 RX12 yX12_isLetter wsX12_isLetter) := goodIn_app (goodIn_of _ (by decide +kernel)) ggX12_readsFacet_X12_isLetter
set_option maxRecDepth 20000 in
theorem ggX12_readsFacet_X12_fails : GoodIn wsX12_readsFacet wsX12_fails := goodIn_r _ [23, 24, 48, 49, 50, 51, 52, 53, 54, 55, 56, 57, 58, 59, 60, 61, 62, 63, 64, 65, 66, 67, 68, 69, 70, 71, 72, 73, 74, 75, 76, 77, 78] (by decide +kernel) (by decide +kernel)
set_option maxRecDepth 20000 in
theorem gX12_readsFacet_X12_fails : GoodIn wsX12_readsFacet (wsV RX12 116 RX12 yX12_fails wsX12_fails) := goodIn_app (goodIn_of _ (by decide +kernel)) ggX12_readsFacet_X12_fails
set_option maxRecDepth 20000 in
theorem ggX12_readsFacet_X12_isRight : GoodIn wsX12_readsFacet wsX12_isRight := goodIn_r _ [28, 24, 48, 49, 50, 51, 52, 53, 54, 55, 56, 57, 58, 59, 60, 61, 62, 63, 64, 65, 66, 67, 68, 69, 70, 71, 72, 73, 74, 75, 76, 77, 78] (by decide +kernel) (by decide +kernel)
set_option maxRecDepth 20000 in
theorem gX12_readsFacet_X12_isRight : GoodIn wsX12_readsFacet (wsV RX12 120 RX12 yX12_isRight wsX12_isRight) := goodIn_app (goodIn_of _ (by decide +kernel)) ggX12_readsFacet_X12_isRight
set_option maxRecDepth 20000 in
theorem ggX12_complex_X12_readsFacet : GoodIn wsX12_complex wsX12_readsFacet := goodIn_r _ [10, 1, 11, 12, 13, 9, 14, 15, 16, 17, 18, 4, 19, 20, 21, 22, 23, 24, 25, 26, 27, 28, 29, 30, 2, 31, 32, 33, 34, 35, 36, 37, 38, 39, 40, 41, 42, 43, 44, 45, 3, 46, 47, 48, 49, 50, 51, 52, 63, 64, 65, 66, 67, 68, 69, 70, 71, 72, 73, 74, 75, 76, 77, 78, 79, 80, 81, 82, 83, 84, 85, 86, 87, 88, 89, 90, 91, 92, 93] (by decide +kernel) (by decide +kernel)
set_option maxRecDepth 20000 in
theorem gX12_complex_X12_readsFacet : GoodIn wsX12_complex (wsV RX12 133 RX12 yX12_readsFacet wsX12_readsFacet) := goodIn_app (goodIn_of _ (by decide +kernel)) ggX12_complex_X12_readsFacet
set_option maxRecDepth 20000 in
theorem ggX12_complex_X12_isRight : GoodIn wsX12_complex wsX12_isRight := goodIn_r _ [34, 2, 63, 64, 65, 66, 67, 68, 69, 70, 71, 72, 73, 74, 75, 76, 77, 78, 79, 80, 81, 82, 83, 84, 85, 86, 87, 88, 89, 90, 91, 92, 93] (by decide +kernel) (by decide +kernel)
set_option maxRecDepth 20000 in
theorem gX12_complex_X12_isRight : GoodIn wsX12_complex (wsV RX12 120 RX12 yX12_isRight wsX12_isRight) := goodIn_app (goodIn_of _ (by decide +kernel)) ggX12_complex_X12_isRight
set_option maxRecDepth 20000 in
theorem ggX12_complex_X12_truth : GoodIn wsX12_complex wsX12_truth := goodIn_r _ [52] (by decide +kernel) (by decide +kernel)
set_option maxRecDepth 20000 in
theorem gX12_complex_X12_truth : GoodIn wsX12_complex (va_wsS RX12 105 yX12_truth wsX12_truth) := goodIn_app (goodIn_of _ (by decide +kernel)) ggX12_complex_X12_truth
set_option maxRecDepth 20000 in
theorem ggX12_isSimplex_X12_in : GoodIn wsX12_isSimplex wsX12_in := goodIn_r _ [5] (by decide +kernel) (by decide +kernel)
set_option maxRecDepth 20000 in
theorem gX12_isSimplex_X12_in : GoodIn wsX12_isSimplex (va_wsS RX12 101 yX12_in wsX12_in) := goodIn_app (goodIn_of _ (by decide +kernel)) ggX12_isSimplex_X12_in
set_option maxRecDepth 20000 in
theorem ggX12_isThere_X12_isSimplex : GoodIn wsX12_isThere wsX12_isSimplex := goodIn_r _ [6, 7, 8, 9, 5, 10, 11, 12, 13, 14, 15, 16, 17, 18, 19, 20, 21, 22, 23, 24, 25, 26, 27, 28, 29, 30, 31, 32, 33, 34, 35, 36, 37, 38, 39, 40, 41] (by decide +kernel) (by decide +kernel)
set_option maxRecDepth 20000 in
theorem gX12_isThere_X12_isSimplex : GoodIn wsX12_isThere (wsV RX12 145 RX12 yX12_isSimplex wsX12_isSimplex) := goodIn_app (goodIn_of _ (by decide +kernel)) ggX12_isThere_X12_isSimplex
set_option maxRecDepth 20000 in
theorem ggX12_isCritical_X12_isThere : GoodIn wsX12_isCritical wsX12_isThere := goodIn_r _ [6, 7, 8, 9, 10, 5, 11, 12, 13, 14, 15, 16, 17, 18, 19, 20, 21, 22, 23, 24, 25, 26, 27, 28, 29, 30, 31, 32, 33, 34, 35, 36, 37, 38, 39, 40, 41, 42, 43, 44, 45, 46] (by decide +kernel) (by decide +kernel)
set_option maxRecDepth 20000 in
theorem gX12_isCritical_X12_isThere : GoodIn wsX12_isCritical (wsV RX12 156 RX12 yX12_isThere wsX12_isThere) := goodIn_app (goodIn_of _ (by decide +kernel)) ggX12_isCritical_X12_isThere
set_option maxRecDepth 20000 in
theorem ggX12_number_X12_in : GoodIn wsX12_number wsX12_in := goodIn_r _ [6] (by decide +kernel) (by decide +kernel)
set_option maxRecDepth 20000 in
theorem gX12_number_X12_in : GoodIn wsX12_number (va_wsS RX12 101 yX12_in wsX12_in) := goodIn_app (goodIn_of _ (by decide +kernel)) ggX12_number_X12_in
set_option maxRecDepth 20000 in
theorem ggX12_sign_X12_isSimplex : GoodIn wsX12_sign wsX12_isSimplex := goodIn_r _ [6, 7, 8, 9, 5, 10, 31, 32, 33, 34, 35, 36, 37, 38, 39, 40, 41, 42, 43, 44, 45, 46, 47, 48, 49, 50, 51, 52, 53, 54, 55, 56, 57, 58, 59, 60, 61] (by decide +kernel) (by decide +kernel)
set_option maxRecDepth 20000 in
theorem gX12_sign_X12_isSimplex : GoodIn wsX12_sign (wsV RX12 145 RX12 yX12_isSimplex wsX12_isSimplex) := goodIn_app (goodIn_of _ (by decide +kernel)) ggX12_sign_X12_isSimplex
set_option maxRecDepth 20000 in
theorem ggX12_simplex_X12_isSimplex : GoodIn wsX12_simplex wsX12_isSimplex := goodIn_r _ [9, 10, 11, 12, 8, 13, 48, 49, 50, 51, 52, 53, 54, 55, 56, 57, 58, 59, 60, 61, 62, 63, 64, 65, 66, 67, 68, 69, 70, 71, 72, 73, 74, 75, 76, 77, 78] (by decide +kernel) (by decide +kernel)
set_option maxRecDepth 20000 in
theorem gX12_simplex_X12_isSimplex : GoodIn wsX12_simplex (wsV RX12 145 RX12 yX12_isSimplex wsX12_isSimplex) := goodIn_app (goodIn_of _ (by decide +kernel)) ggX12_simplex_X12_isSimplex
set_option maxRecDepth 20000 in
theorem ggX12_pair_X12_isThere : GoodIn wsX12_pair wsX12_isThere := goodIn_r _ [6, 7, 8, 9, 10, 5, 11, 12, 13, 14, 15, 74, 75, 76, 77, 78, 79, 80, 81, 82, 83, 84, 85, 86, 87, 88, 89, 90, 91, 92, 93, 94, 95, 96, 97, 98, 99, 100, 101, 102, 103, 104] (by decide +kernel) (by decide +kernel)
set_option maxRecDepth 20000 in
theorem gX12_pair_X12_isThere : GoodIn wsX12_pair (wsV RX12 156 RX12 yX12_isThere wsX12_isThere) := goodIn_app (goodIn_of _ (by decide +kernel)) ggX12_pair_X12_isThere
set_option maxRecDepth 20000 in
theorem ggX12_part_X12_isSimplex : GoodIn wsX12_part wsX12_isSimplex := goodIn_r _ [6, 7, 8, 9, 5, 10, 37, 38, 39, 40, 41, 42, 43, 44, 45, 46, 47, 48, 49, 50, 51, 52, 53, 54, 55, 56, 57, 58, 59, 60, 61, 62, 63, 64, 65, 66, 67] (by decide +kernel) (by decide +kernel)
set_option maxRecDepth 20000 in
theorem gX12_part_X12_isSimplex : GoodIn wsX12_part (wsV RX12 145 RX12 yX12_isSimplex wsX12_isSimplex) := goodIn_app (goodIn_of _ (by decide +kernel)) ggX12_part_X12_isSimplex
set_option maxRecDepth 20000 in
theorem ggX12_areEnds_X12_isCritical : GoodIn wsX12_areEnds wsX12_isCritical := goodIn_r _ [5, 6, 7, 8, 9, 4, 10, 11, 12, 13, 14, 15, 16, 17, 18, 19, 32, 33, 34, 35, 36, 37, 38, 39, 40, 41, 42, 43, 44, 45, 46, 47, 48, 49, 50, 51, 52, 53, 54, 55, 56, 57, 58, 59, 60, 61, 62] (by decide +kernel) (by decide +kernel)
set_option maxRecDepth 20000 in
theorem gX12_areEnds_X12_isCritical : GoodIn wsX12_areEnds (wsV RX12 159 RX12 yX12_isCritical wsX12_isCritical) := goodIn_app (goodIn_of _ (by decide +kernel)) ggX12_areEnds_X12_isCritical
set_option maxRecDepth 20000 in
theorem ggX12_paths_X12_areEnds : GoodIn wsX12_paths wsX12_areEnds := goodIn_r _ [6, 7, 8, 9, 5, 10, 11, 12, 13, 14, 15, 16, 17, 18, 19, 20, 21, 22, 23, 24, 25, 26, 27, 28, 29, 30, 31, 32, 33, 34, 35, 36, 71, 72, 73, 74, 75, 76, 77, 78, 79, 80, 81, 82, 83, 84, 85, 86, 87, 88, 89, 90, 91, 92, 93, 94, 95, 96, 97, 98, 99, 100, 101] (by decide +kernel) (by decide +kernel)
set_option maxRecDepth 20000 in
theorem gX12_paths_X12_areEnds : GoodIn wsX12_paths (wsV RX12 229 RX12 yX12_areEnds wsX12_areEnds) := goodIn_app (goodIn_of _ (by decide +kernel)) ggX12_paths_X12_areEnds
set_option maxRecDepth 20000 in
theorem ggX12_incidence_X12_areEnds : GoodIn wsX12_incidence wsX12_areEnds := goodIn_r _ [6, 7, 8, 9, 5, 10, 11, 12, 13, 14, 15, 16, 17, 18, 19, 20, 21, 22, 23, 24, 25, 26, 27, 28, 29, 30, 31, 32, 33, 34, 35, 36, 71, 72, 73, 74, 75, 76, 77, 78, 79, 80, 81, 82, 83, 84, 85, 86, 87, 88, 89, 90, 91, 92, 93, 94, 95, 96, 97, 98, 99, 100, 101] (by decide +kernel) (by decide +kernel)
set_option maxRecDepth 20000 in
theorem gX12_incidence_X12_areEnds : GoodIn wsX12_incidence (wsV RX12 229 RX12 yX12_areEnds wsX12_areEnds) := goodIn_app (goodIn_of _ (by decide +kernel)) ggX12_incidence_X12_areEnds
set_option maxRecDepth 20000 in
theorem ggX12_path_X12_areEnds : GoodIn wsX12_path wsX12_areEnds := goodIn_r _ [7, 8, 9, 10, 6, 11, 12, 13, 14, 15, 16, 17, 18, 19, 20, 21, 22, 23, 24, 25, 26, 27, 28, 29, 30, 31, 32, 33, 34, 35, 36, 37, 80, 81, 82, 83, 84, 85, 86, 87, 88, 89, 90, 91, 92, 93, 94, 95, 96, 97, 98, 99, 100, 101, 102, 103, 104, 105, 106, 107, 108, 109, 110] (by decide +kernel) (by decide +kernel)
set_option maxRecDepth 20000 in
theorem gX12_path_X12_areEnds : GoodIn wsX12_path (wsV RX12 229 RX12 yX12_areEnds wsX12_areEnds) := goodIn_app (goodIn_of _ (by decide +kernel)) ggX12_path_X12_areEnds
set_option maxRecDepth 20000 in
theorem ggX12_cancel_X12_areEnds : GoodIn wsX12_cancel wsX12_areEnds := goodIn_r _ [8, 9, 10, 11, 7, 12, 2, 13, 14, 15, 16, 17, 18, 19, 20, 21, 22, 23, 24, 25, 26, 27, 28, 29, 30, 31, 32, 33, 34, 35, 36, 37, 90, 91, 92, 93, 94, 95, 96, 97, 98, 99, 100, 101, 102, 103, 104, 105, 106, 107, 108, 109, 110, 111, 112, 113, 114, 115, 116, 117, 118, 119, 120] (by decide +kernel) (by decide +kernel)
set_option maxRecDepth 20000 in
theorem gX12_cancel_X12_areEnds : GoodIn wsX12_cancel (wsV RX12 229 RX12 yX12_areEnds wsX12_areEnds) := goodIn_app (goodIn_of _ (by decide +kernel)) ggX12_cancel_X12_areEnds
set_option maxRecDepth 20000 in
theorem ggX12_through_X12_areEnds : GoodIn wsX12_through wsX12_areEnds := goodIn_r _ [11, 12, 13, 14, 10, 15, 2, 16, 17, 18, 19, 20, 21, 22, 23, 24, 3, 25, 26, 27, 28, 29, 30, 31, 32, 33, 34, 35, 36, 37, 38, 39, 76, 77, 78, 79, 80, 81, 82, 83, 84, 85, 86, 87, 88, 89, 90, 91, 92, 93, 94, 95, 96, 97, 98, 99, 100, 101, 102, 103, 104, 105, 106] (by decide +kernel) (by decide +kernel)
set_option maxRecDepth 20000 in
theorem gX12_through_X12_areEnds : GoodIn wsX12_through (wsV RX12 229 RX12 yX12_areEnds wsX12_areEnds) := goodIn_app (goodIn_of _ (by decide +kernel)) ggX12_through_X12_areEnds
set_option maxRecDepth 20000 in
theorem ggX12_chain_X12_isCritical : GoodIn wsX12_chain wsX12_isCritical := goodIn_r _ [10, 3, 11, 12, 13, 9, 14, 15, 16, 17, 18, 19, 2, 20, 21, 22, 58, 59, 60, 61, 62, 63, 64, 65, 66, 67, 68, 69, 70, 71, 72, 73, 74, 75, 76, 77, 78, 79, 80, 81, 82, 83, 84, 85, 86, 87, 88] (by decide +kernel) (by decide +kernel)
set_option maxRecDepth 20000 in
theorem gX12_chain_X12_isCritical : GoodIn wsX12_chain (wsV RX12 159 RX12 yX12_isCritical wsX12_isCritical) := goodIn_app (goodIn_of _ (by decide +kernel)) ggX12_chain_X12_isCritical
set_option maxRecDepth 20000 in
theorem ggX12_root_X12_isThere : GoodIn wsX12_root wsX12_isThere := goodIn_r _ [8, 9, 10, 11, 12, 7, 13, 14, 15, 16, 17, 29, 30, 31, 32, 33, 34, 35, 36, 37, 38, 39, 40, 41, 42, 43, 44, 45, 46, 47, 48, 49, 50, 51, 52, 53, 54, 55, 56, 57, 58, 59] (by decide +kernel) (by decide +kernel)
set_option maxRecDepth 20000 in
theorem gX12_root_X12_isThere : GoodIn wsX12_root (wsV RX12 156 RX12 yX12_isThere wsX12_isThere) := goodIn_app (goodIn_of _ (by decide +kernel)) ggX12_root_X12_isThere
set_option maxRecDepth 20000 in
theorem ggX12_collapse_X12_isThere : GoodIn wsX12_collapse wsX12_isThere := goodIn_r _ [6, 1, 7, 8, 9, 5, 10, 11, 12, 13, 14, 65, 66, 67, 68, 69, 70, 71, 72, 73, 74, 75, 76, 77, 78, 79, 80, 81, 82, 83, 84, 85, 86, 87, 88, 89, 90, 91, 92, 93, 94, 95] (by decide +kernel) (by decide +kernel)
set_option maxRecDepth 20000 in
theorem gX12_collapse_X12_isThere : GoodIn wsX12_collapse (wsV RX12 156 RX12 yX12_isThere wsX12_isThere) := goodIn_app (goodIn_of _ (by decide +kernel)) ggX12_collapse_X12_isThere
set_option maxRecDepth 20000 in
theorem ggX12_critical_X12_in : GoodIn wsX12_critical wsX12_in := goodIn_r _ [5] (by decide +kernel) (by decide +kernel)
set_option maxRecDepth 20000 in
theorem gX12_critical_X12_in : GoodIn wsX12_critical (va_wsS RX12 101 yX12_in wsX12_in) := goodIn_app (goodIn_of _ (by decide +kernel)) ggX12_critical_X12_in
set_option maxRecDepth 20000 in
theorem ggX12_laysTable_X12_takenOf : GoodIn wsX12_laysTable wsX12_takenOf := goodIn_r _ [10, 3, 4, 11, 12, 13, 9, 14, 15, 16, 17, 18, 19, 20, 21, 22, 23, 24, 25, 70, 71, 72, 73, 74, 75, 76, 77, 78, 79, 80, 81, 82, 83, 84, 85, 86, 87, 88, 89, 90, 91, 92, 93, 94, 95, 96, 97, 98, 99, 100] (by decide +kernel) (by decide +kernel)
set_option maxRecDepth 20000 in
theorem gX12_laysTable_X12_takenOf : GoodIn wsX12_laysTable (wsV RX12 271 RX12 yX12_takenOf wsX12_takenOf) := goodIn_app (goodIn_of _ (by decide +kernel)) ggX12_laysTable_X12_takenOf
set_option maxRecDepth 20000 in
theorem ggX12_rankOf_X12_in : GoodIn wsX12_rankOf wsX12_in := goodIn_r _ [4] (by decide +kernel) (by decide +kernel)
set_option maxRecDepth 20000 in
theorem gX12_rankOf_X12_in : GoodIn wsX12_rankOf (va_wsS RX12 101 yX12_in wsX12_in) := goodIn_app (goodIn_of _ (by decide +kernel)) ggX12_rankOf_X12_in
set_option maxRecDepth 20000 in
theorem ggX12_rankOf_X12_laysTable : GoodIn wsX12_rankOf wsX12_laysTable := goodIn_r _ [8, 9, 10, 11, 12, 13, 14, 15, 16, 3, 17, 18, 19, 20, 21, 22, 23, 24, 25, 26, 27, 28, 29, 30, 31, 32, 33, 34, 35, 36, 37, 38, 39, 40, 41, 42, 43, 44, 45, 46, 47, 48, 49, 50, 51, 52, 1, 2, 4, 53, 54, 55, 56, 57, 58, 59, 60, 61, 62, 63, 64, 65, 66, 67, 68, 69, 70, 71, 72, 73, 115, 116, 117, 118, 119, 120, 121, 122, 123, 124, 125, 126, 127, 128, 129, 130, 131, 132, 133, 134, 135, 136, 137, 138, 139, 140, 141, 142, 143, 144, 145] (by decide +kernel) (by decide +kernel)
set_option maxRecDepth 20000 in
theorem gX12_rankOf_X12_laysTable : GoodIn wsX12_rankOf (wsV RX12 311 RX12 yX12_laysTable wsX12_laysTable) := goodIn_app (goodIn_of _ (by decide +kernel)) ggX12_rankOf_X12_laysTable
set_option maxRecDepth 20000 in
theorem ggX12_rankOf_X12_laysSteps : GoodIn wsX12_rankOf wsX12_laysSteps := goodIn_r _ [77, 9, 10, 78, 79, 80, 81, 82, 83, 84, 85, 3, 86, 87, 88, 89, 90, 13, 91, 92, 93, 94, 95, 96, 97, 98, 99, 100, 101, 102, 103, 104, 105, 106, 107, 108, 109, 110, 111, 112, 113, 114, 115, 116, 117, 118, 119, 120, 121, 122, 123, 124, 125, 126, 127, 128, 129, 130, 131, 132, 133, 134, 135, 136, 137, 138, 139, 140, 141, 142, 143, 144, 145] (by decide +kernel) (by decide +kernel)
set_option maxRecDepth 20000 in
theorem gX12_rankOf_X12_laysSteps : GoodIn wsX12_rankOf (wsV RX12 314 RX12 yX12_laysSteps wsX12_laysSteps) := goodIn_app (goodIn_of _ (by decide +kernel)) ggX12_rankOf_X12_laysSteps
set_option maxRecDepth 20000 in
theorem ggX12_bettiTaken_X12_takenOf : GoodIn wsX12_bettiTaken wsX12_takenOf := goodIn_r _ [5, 6, 7, 8, 9, 10, 4, 11, 12, 13, 14, 15, 16, 17, 18, 19, 20, 21, 22, 119, 120, 121, 122, 123, 124, 125, 126, 127, 128, 129, 130, 131, 132, 133, 134, 135, 136, 137, 138, 139, 140, 141, 142, 143, 144, 145, 146, 147, 148, 149] (by decide +kernel) (by decide +kernel)
set_option maxRecDepth 20000 in
theorem gX12_bettiTaken_X12_takenOf : GoodIn wsX12_bettiTaken (wsV RX12 271 RX12 yX12_takenOf wsX12_takenOf) := goodIn_app (goodIn_of _ (by decide +kernel)) ggX12_bettiTaken_X12_takenOf
set_option maxRecDepth 20000 in
theorem ggX12_bettiTaken_X12_rankOf : GoodIn wsX12_bettiTaken wsX12_rankOf := goodIn_r _ [26, 27, 28, 4, 29, 30, 31, 32, 33, 34, 35, 6, 7, 36, 1, 2, 3, 5, 8, 9, 10, 11, 12, 13, 14, 15, 16, 17, 18, 19, 20, 21, 22, 37, 38, 39, 40, 41, 42, 43, 44, 45, 46, 47, 48, 49, 50, 51, 52, 53, 54, 55, 56, 57, 58, 59, 60, 61, 62, 63, 64, 65, 66, 67, 68, 69, 70, 71, 72, 73, 74, 75, 76, 77, 78, 79, 80, 81, 82, 83, 84, 85, 86, 87, 88, 89, 90, 91, 92, 93, 94, 95, 96, 97, 98, 99, 100, 101, 102, 103, 104, 105, 106, 107, 108, 109, 110, 111, 112, 113, 114, 115, 116, 117, 118, 119, 120, 121, 122, 123, 124, 125, 126, 127, 128, 129, 130, 131, 132, 133, 134, 135, 136, 137, 138, 139, 140, 141, 142, 143, 144, 145, 146, 147, 148, 149] (by decide +kernel) (by decide +kernel)
set_option maxRecDepth 20000 in
theorem gX12_bettiTaken_X12_rankOf : GoodIn wsX12_bettiTaken (wsV RX12 317 RX12 yX12_rankOf wsX12_rankOf) := goodIn_app (goodIn_of _ (by decide +kernel)) ggX12_bettiTaken_X12_rankOf
set_option maxRecDepth 20000 in
theorem ggX12_betti_X12_in : GoodIn wsX12_betti wsX12_in := goodIn_r _ [4] (by decide +kernel) (by decide +kernel)
set_option maxRecDepth 20000 in
theorem gX12_betti_X12_in : GoodIn wsX12_betti (va_wsS RX12 101 yX12_in wsX12_in) := goodIn_app (goodIn_of _ (by decide +kernel)) ggX12_betti_X12_in
set_option maxRecDepth 20000 in
theorem ggX12_betti_X12_takes : GoodIn wsX12_betti wsX12_takes := goodIn_r _ [8, 9, 10, 11, 12, 13, 14, 3, 15, 16, 17, 18, 19, 20, 21, 22, 23, 24, 1, 2, 4, 131, 132, 133, 134, 135, 136, 137, 138, 139, 140, 141, 142, 143, 144, 145, 146, 147, 148, 149, 150, 151, 152, 153, 154, 155, 156, 157, 158, 159, 160, 161] (by decide +kernel) (by decide +kernel)
set_option maxRecDepth 20000 in
theorem gX12_betti_X12_takes : GoodIn wsX12_betti (wsV RX12 320 RX12 yX12_takes wsX12_takes) := goodIn_app (goodIn_of _ (by decide +kernel)) ggX12_betti_X12_takes
set_option maxRecDepth 20000 in
theorem ggX12_betti_X12_bettiTaken : GoodIn wsX12_betti wsX12_bettiTaken := goodIn_r _ [28, 29, 30, 31, 3, 32, 9, 10, 33, 34, 35, 36, 37, 38, 39, 40, 41, 42, 43, 44, 45, 46, 47, 48, 49, 50, 51, 1, 2, 4, 52, 53, 54, 55, 56, 57, 58, 59, 60, 61, 62, 63, 64, 65, 66, 67, 68, 69, 17, 18, 19, 20, 11, 21, 22, 23, 24, 70, 71, 72, 73, 16, 74, 75, 76, 77, 78, 79, 80, 81, 82, 83, 84, 85, 86, 87, 88, 89, 90, 91, 92, 93, 94, 95, 96, 97, 98, 99, 100, 101, 102, 103, 104, 105, 106, 107, 108, 109, 110, 111, 112, 113, 114, 115, 116, 117, 118, 119, 120, 121, 122, 123, 124, 125, 126, 127, 128, 129, 130, 131, 132, 133, 134, 135, 136, 137, 138, 139, 140, 141, 142, 143, 144, 145, 146, 147, 148, 149, 150, 151, 152, 153, 154, 155, 156, 157, 158, 159, 160, 161] (by decide +kernel) (by decide +kernel)
set_option maxRecDepth 20000 in
theorem gX12_betti_X12_bettiTaken : GoodIn wsX12_betti (wsV RX12 323 RX12 yX12_bettiTaken wsX12_bettiTaken) := goodIn_app (goodIn_of _ (by decide +kernel)) ggX12_betti_X12_bettiTaken
set_option maxRecDepth 20000 in
theorem ggX12_torsion_X12_in : GoodIn wsX12_torsion wsX12_in := goodIn_r _ [7] (by decide +kernel) (by decide +kernel)
set_option maxRecDepth 20000 in
theorem gX12_torsion_X12_in : GoodIn wsX12_torsion (va_wsS RX12 101 yX12_in wsX12_in) := goodIn_app (goodIn_of _ (by decide +kernel)) ggX12_torsion_X12_in
set_option maxRecDepth 20000 in
theorem ggX12_torsion_X12_takes : GoodIn wsX12_torsion wsX12_takes := goodIn_r _ [11, 12, 13, 14, 15, 16, 17, 6, 18, 19, 20, 21, 22, 23, 24, 25, 26, 27, 4, 5, 7, 129, 130, 131, 132, 133, 134, 135, 136, 137, 138, 139, 140, 141, 142, 143, 144, 145, 146, 147, 148, 149, 150, 151, 152, 153, 154, 155, 156, 157, 158, 159] (by decide +kernel) (by decide +kernel)
set_option maxRecDepth 20000 in
theorem gX12_torsion_X12_takes : GoodIn wsX12_torsion (wsV RX12 320 RX12 yX12_takes wsX12_takes) := goodIn_app (goodIn_of _ (by decide +kernel)) ggX12_torsion_X12_takes
set_option maxRecDepth 20000 in
theorem ggX12_torsion_X12_rankOf : GoodIn wsX12_torsion wsX12_rankOf := goodIn_r _ [31, 4, 5, 6, 7, 32, 33, 34, 35, 36, 37, 12, 13, 38, 39, 40, 41, 42, 43, 44, 45, 46, 47, 48, 49, 50, 51, 52, 53, 54, 55, 56, 57, 58, 59, 60, 61, 62, 63, 64, 65, 66, 67, 68, 20, 21, 22, 23, 14, 24, 25, 26, 27, 69, 70, 71, 72, 19, 73, 74, 75, 76, 77, 78, 79, 80, 81, 82, 83, 84, 85, 86, 87, 88, 89, 90, 91, 92, 2, 93, 94, 95, 96, 97, 98, 99, 100, 101, 102, 103, 104, 105, 106, 107, 108, 109, 110, 111, 112, 113, 114, 115, 116, 117, 118, 119, 120, 121, 122, 123, 124, 125, 126, 127, 128, 129, 130, 131, 132, 133, 134, 135, 136, 137, 138, 139, 140, 141, 142, 143, 144, 145, 146, 147, 148, 149, 150, 151, 152, 153, 154, 155, 156, 157, 158, 159] (by decide +kernel) (by decide +kernel)
set_option maxRecDepth 20000 in
theorem gX12_torsion_X12_rankOf : GoodIn wsX12_torsion (wsV RX12 317 RX12 yX12_rankOf wsX12_rankOf) := goodIn_app (goodIn_of _ (by decide +kernel)) ggX12_torsion_X12_rankOf
set_option maxRecDepth 20000 in
theorem ggX12_slack_X12_in : GoodIn wsX12_slack wsX12_in := goodIn_r _ [5] (by decide +kernel) (by decide +kernel)
set_option maxRecDepth 20000 in
theorem gX12_slack_X12_in : GoodIn wsX12_slack (va_wsS RX12 101 yX12_in wsX12_in) := goodIn_app (goodIn_of _ (by decide +kernel)) ggX12_slack_X12_in
set_option maxRecDepth 20000 in
theorem ggX12_slack_X12_critical : GoodIn wsX12_slack wsX12_critical := goodIn_r _ [9, 10, 2, 3, 4, 5, 11, 12, 13, 14, 15, 16, 17, 18, 19, 20, 21, 22, 23, 24, 25, 26, 27, 28, 29, 30, 31, 32, 33, 34, 35, 36, 140, 141, 142, 143, 144, 145, 146, 147, 148, 149, 150, 151, 152, 153, 154, 155, 156, 157, 158, 159, 160, 161, 162, 163, 164, 165, 166, 167, 168, 169, 170] (by decide +kernel) (by decide +kernel)
set_option maxRecDepth 20000 in
theorem gX12_slack_X12_critical : GoodIn wsX12_slack (wsV RX12 328 RX12 yX12_critical wsX12_critical) := goodIn_app (goodIn_of _ (by decide +kernel)) ggX12_slack_X12_critical
set_option maxRecDepth 20000 in
theorem ggX12_slack_X12_betti : GoodIn wsX12_slack wsX12_betti := goodIn_r _ [40, 2, 3, 4, 5, 41, 42, 43, 44, 10, 45, 20, 11, 12, 13, 14, 15, 16, 17, 18, 19, 21, 22, 23, 24, 46, 47, 48, 49, 50, 51, 52, 53, 25, 26, 27, 28, 29, 30, 31, 32, 33, 34, 35, 36, 54, 55, 56, 57, 58, 59, 60, 61, 62, 63, 64, 65, 66, 67, 68, 69, 70, 71, 72, 73, 74, 75, 76, 77, 78, 79, 80, 81, 82, 83, 84, 85, 86, 87, 88, 89, 90, 91, 92, 93, 94, 95, 96, 97, 98, 99, 100, 101, 102, 103, 104, 105, 106, 107, 108, 109, 110, 111, 112, 113, 114, 115, 116, 117, 118, 119, 120, 121, 122, 123, 124, 125, 126, 127, 128, 129, 130, 131, 132, 133, 134, 135, 136, 137, 138, 139, 140, 141, 142, 143, 144, 145, 146, 147, 148, 149, 150, 151, 152, 153, 154, 155, 156, 157, 158, 159, 160, 161, 162, 163, 164, 165, 166, 167, 168, 169, 170] (by decide +kernel) (by decide +kernel)
set_option maxRecDepth 20000 in
theorem gX12_slack_X12_betti : GoodIn wsX12_slack (wsV RX12 331 RX12 yX12_betti wsX12_betti) := goodIn_app (goodIn_of _ (by decide +kernel)) ggX12_slack_X12_betti
set_option maxRecDepth 20000 in
theorem ggX12_level_X12_in : GoodIn wsX12_level wsX12_in := goodIn_r _ [6] (by decide +kernel) (by decide +kernel)
set_option maxRecDepth 20000 in
theorem gX12_level_X12_in : GoodIn wsX12_level (va_wsS RX12 101 yX12_in wsX12_in) := goodIn_app (goodIn_of _ (by decide +kernel)) ggX12_level_X12_in
set_option maxRecDepth 20000 in
theorem ggX12_level_X12_laysHeights : GoodIn wsX12_level wsX12_laysHeights := goodIn_r _ [10, 1, 2, 11, 12, 13, 14, 5, 15, 16, 17, 18, 19, 20, 21, 22, 23, 24, 25, 26, 27, 28, 29, 30, 31, 32, 45, 46, 47, 48, 49, 50, 51, 52, 53, 54, 55, 56, 57, 58, 59, 60, 61, 62, 63, 64, 65, 66, 67, 68, 69, 70, 71, 72, 73, 74, 75] (by decide +kernel) (by decide +kernel)
set_option maxRecDepth 20000 in
theorem gX12_level_X12_laysHeights : GoodIn wsX12_level (wsV RX12 173 RX12 yX12_laysHeights wsX12_laysHeights) := goodIn_app (goodIn_of _ (by decide +kernel)) ggX12_level_X12_laysHeights
set_option maxRecDepth 20000 in
theorem ggX12_levelBetti_X12_in : GoodIn wsX12_levelBetti wsX12_in := goodIn_r _ [8] (by decide +kernel) (by decide +kernel)
set_option maxRecDepth 20000 in
theorem gX12_levelBetti_X12_in : GoodIn wsX12_levelBetti (va_wsS RX12 101 yX12_in wsX12_in) := goodIn_app (goodIn_of _ (by decide +kernel)) ggX12_levelBetti_X12_in
set_option maxRecDepth 20000 in
theorem ggX12_levelBetti_X12_laysHeights : GoodIn wsX12_levelBetti wsX12_laysHeights := goodIn_r _ [12, 1, 3, 13, 14, 15, 16, 7, 17, 18, 19, 20, 21, 22, 4, 23, 24, 25, 26, 27, 28, 29, 30, 31, 32, 33, 128, 129, 130, 131, 132, 133, 134, 135, 136, 137, 138, 139, 140, 141, 142, 143, 144, 145, 146, 147, 148, 149, 150, 151, 152, 153, 154, 155, 156, 157, 158] (by decide +kernel) (by decide +kernel)
set_option maxRecDepth 20000 in
theorem gX12_levelBetti_X12_laysHeights : GoodIn wsX12_levelBetti (wsV RX12 173 RX12 yX12_laysHeights wsX12_laysHeights) := goodIn_app (goodIn_of _ (by decide +kernel)) ggX12_levelBetti_X12_laysHeights
set_option maxRecDepth 20000 in
theorem ggX12_levelBetti_X12_bettiTaken : GoodIn wsX12_levelBetti wsX12_bettiTaken := goodIn_r _ [45, 46, 47, 48, 7, 49, 1, 2, 23, 24, 25, 26, 4, 27, 28, 29, 30, 31, 32, 33, 50, 51, 52, 53, 54, 55, 56, 5, 6, 8, 57, 58, 59, 60, 61, 62, 63, 64, 65, 66, 67, 68, 69, 70, 71, 72, 73, 74, 34, 35, 36, 37, 18, 38, 39, 40, 41, 75, 76, 77, 78, 13, 79, 80, 81, 82, 14, 15, 16, 17, 19, 20, 21, 22, 83, 84, 85, 86, 87, 88, 89, 90, 91, 92, 93, 94, 95, 96, 97, 98, 99, 100, 101, 102, 103, 104, 105, 106, 107, 108, 109, 110, 111, 112, 113, 114, 115, 116, 117, 118, 119, 120, 121, 122, 123, 124, 125, 126, 127, 128, 129, 130, 131, 132, 133, 134, 135, 136, 137, 138, 139, 140, 141, 142, 143, 144, 145, 146, 147, 148, 149, 150, 151, 152, 153, 154, 155, 156, 157, 158] (by decide +kernel) (by decide +kernel)
set_option maxRecDepth 20000 in
theorem gX12_levelBetti_X12_bettiTaken : GoodIn wsX12_levelBetti (wsV RX12 323 RX12 yX12_bettiTaken wsX12_bettiTaken) := goodIn_app (goodIn_of _ (by decide +kernel)) ggX12_levelBetti_X12_bettiTaken
set_option maxRecDepth 20000 in
theorem ggX12_link_X12_isThere : GoodIn wsX12_link wsX12_isThere := goodIn_r _ [9, 10, 11, 12, 13, 8, 14, 2, 15, 16, 17, 33, 34, 35, 36, 37, 38, 39, 40, 41, 42, 43, 44, 45, 46, 47, 48, 49, 50, 51, 52, 53, 54, 55, 56, 57, 58, 59, 60, 61, 62, 63] (by decide +kernel) (by decide +kernel)
set_option maxRecDepth 20000 in
theorem gX12_link_X12_isThere : GoodIn wsX12_link (wsV RX12 156 RX12 yX12_isThere wsX12_isThere) := goodIn_app (goodIn_of _ (by decide +kernel)) ggX12_link_X12_isThere
set_option maxRecDepth 20000 in
theorem ggX12_room_X12_in : GoodIn wsX12_room wsX12_in := goodIn_r _ [5] (by decide +kernel) (by decide +kernel)
set_option maxRecDepth 20000 in
theorem gX12_room_X12_in : GoodIn wsX12_room (va_wsS RX12 101 yX12_in wsX12_in) := goodIn_app (goodIn_of _ (by decide +kernel)) ggX12_room_X12_in
set_option maxRecDepth 20000 in
theorem ggX12_same_X12_in : GoodIn wsX12_same wsX12_in := goodIn_r _ [8] (by decide +kernel) (by decide +kernel)
set_option maxRecDepth 20000 in
theorem gX12_same_X12_in : GoodIn wsX12_same (va_wsS RX12 101 yX12_in wsX12_in) := goodIn_app (goodIn_of _ (by decide +kernel)) ggX12_same_X12_in
set_option maxRecDepth 20000 in
theorem ggX12_count_X12_thereMany : GoodIn wsX12_count wsX12_thereMany := goodIn_r _ [9, 1, 10, 11, 12, 8, 13, 86, 87, 88, 89, 90, 91, 92, 93, 94, 95, 96, 97, 98, 99, 100, 101, 102, 103, 104, 105, 106, 107, 108, 109, 110, 111, 112, 113, 114, 115, 116] (by decide +kernel) (by decide +kernel)
set_option maxRecDepth 20000 in
theorem gX12_count_X12_thereMany : GoodIn wsX12_count (wsV RX12 268 RX12 yX12_thereMany wsX12_thereMany) := goodIn_app (goodIn_of _ (by decide +kernel)) ggX12_count_X12_thereMany
set_option maxRecDepth 20000 in
theorem ggX12_count_X12_greatestDim : GoodIn wsX12_count wsX12_greatestDim := goodIn_r _ [17, 1, 18, 19, 20, 21, 22, 23, 24, 8, 25, 10, 26, 27, 28, 29, 30, 31, 32, 33, 34, 35, 36, 37, 38, 39, 40, 41, 42, 43, 44, 86, 87, 88, 89, 90, 91, 92, 93, 94, 95, 96, 97, 98, 99, 100, 101, 102, 103, 104, 105, 106, 107, 108, 109, 110, 111, 112, 113, 114, 115, 116] (by decide +kernel) (by decide +kernel)
set_option maxRecDepth 20000 in
theorem gX12_count_X12_greatestDim : GoodIn wsX12_count (wsV RX12 369 RX12 yX12_greatestDim wsX12_greatestDim) := goodIn_app (goodIn_of _ (by decide +kernel)) ggX12_count_X12_greatestDim
set_option maxRecDepth 20000 in
theorem ggX12_count_X12_pairMany : GoodIn wsX12_count wsX12_pairMany := goodIn_r _ [48, 1, 49, 50, 51, 8, 52, 53, 11, 12, 13, 86, 87, 88, 89, 90, 91, 92, 93, 94, 95, 96, 97, 98, 99, 100, 101, 102, 103, 104, 105, 106, 107, 108, 109, 110, 111, 112, 113, 114, 115, 116] (by decide +kernel) (by decide +kernel)
set_option maxRecDepth 20000 in
theorem gX12_count_X12_pairMany : GoodIn wsX12_count (wsV RX12 366 RX12 yX12_pairMany wsX12_pairMany) := goodIn_app (goodIn_of _ (by decide +kernel)) ggX12_count_X12_pairMany
set_option maxRecDepth 20000 in
theorem ggX12_count_X12_criticalMany : GoodIn wsX12_count wsX12_criticalMany := goodIn_r _ [57, 1, 58, 59, 60, 8, 61, 53, 22, 23, 24, 25, 10, 26, 27, 28, 29, 30, 31, 32, 11, 12, 13, 86, 87, 88, 89, 90, 91, 92, 93, 94, 95, 96, 97, 98, 99, 100, 101, 102, 103, 104, 105, 106, 107, 108, 109, 110, 111, 112, 113, 114, 115, 116] (by decide +kernel) (by decide +kernel)
set_option maxRecDepth 20000 in
theorem gX12_count_X12_criticalMany : GoodIn wsX12_count (wsV RX12 197 RX12 yX12_criticalMany wsX12_criticalMany) := goodIn_app (goodIn_of _ (by decide +kernel)) ggX12_count_X12_criticalMany
set_option maxRecDepth 20000 in
theorem ggX12_count_X12_euler : GoodIn wsX12_count wsX12_euler := goodIn_r _ [65, 1, 22, 23, 24, 8, 25, 10, 26, 27, 28, 29, 30, 31, 32, 66, 67, 68, 69, 33, 34, 35, 36, 37, 38, 39, 40, 41, 42, 43, 44, 86, 87, 88, 89, 90, 91, 92, 93, 94, 95, 96, 97, 98, 99, 100, 101, 102, 103, 104, 105, 106, 107, 108, 109, 110, 111, 112, 113, 114, 115, 116] (by decide +kernel) (by decide +kernel)
set_option maxRecDepth 20000 in
theorem gX12_count_X12_euler : GoodIn wsX12_count (wsV RX12 372 RX12 yX12_euler wsX12_euler) := goodIn_app (goodIn_of _ (by decide +kernel)) ggX12_count_X12_euler
set_option maxRecDepth 20000 in
theorem ggX12_count_X12_partsMany : GoodIn wsX12_count wsX12_partsMany := goodIn_r _ [73, 1, 74, 75, 76, 20, 77, 78, 79, 80, 8, 81, 10, 82, 83, 84, 85, 37, 33, 34, 35, 36, 38, 39, 40, 41, 42, 43, 44, 22, 23, 24, 25, 26, 27, 28, 29, 30, 31, 32, 11, 12, 13, 86, 87, 88, 89, 90, 91, 92, 93, 94, 95, 96, 97, 98, 99, 100, 101, 102, 103, 104, 105, 106, 107, 108, 109, 110, 111, 112, 113, 114, 115, 116] (by decide +kernel) (by decide +kernel)
set_option maxRecDepth 20000 in
theorem gX12_count_X12_partsMany : GoodIn wsX12_count (wsV RX12 375 RX12 yX12_partsMany wsX12_partsMany) := goodIn_app (goodIn_of _ (by decide +kernel)) ggX12_count_X12_partsMany
