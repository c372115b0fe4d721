set_option maxRecDepth 20000 in
theorem ggX1_sumOf_X1_knownMoney : GoodIn wsX1_sumOf wsX1_knownMoney := goodIn_ca (goodIn_r _ [8, 9, 10, 11, 12, 13, 14, 15, 16, 17, 18, 19, 20, 21, 22, 23, 24] (by decide +kernel) (by decide +kernel)) (goodIn_sub (fun _ h => List.mem_cons_of_mem _ (List.mem_append_right _ h)) (by decide +kernel))
set_option maxRecDepth 20000 in
theorem gX1_sumOf_X1_knownMoney : GoodIn wsX1_sumOf (wsV RX1 43 RX1 yX1_knownMoney wsX1_knownMoney) := goodIn_app (goodIn_of _ (by decide +kernel)) ggX1_sumOf_X1_knownMoney
set_option maxRecDepth 20000 in
theorem ggX2_add_X2_leaveGang : GoodIn wsX2_add wsX2_leaveGang := goodIn_ca (goodIn_r _ [8, 9, 10, 11, 12, 13, 14, 15, 16, 17, 18] (by decide +kernel) (by decide +kernel)) (goodIn_sub (fun _ h => List.mem_cons_of_mem _ (List.mem_append_right _ h)) (by decide +kernel))
set_option maxRecDepth 20000 in
theorem gX2_add_X2_leaveGang : GoodIn wsX2_add (wsV RX2 37 RX2 yX2_leaveGang wsX2_leaveGang) := goodIn_app (goodIn_of _ (by decide +kernel)) ggX2_add_X2_leaveGang
set_option maxRecDepth 20000 in
theorem ggX2_mayBeAsked_X2_isBarred : GoodIn wsX2_mayBeAsked wsX2_isBarred := goodIn_ca (goodIn_r _ [7, 8, 9, 10, 11, 12, 13, 14, 15, 16] (by decide +kernel) (by decide +kernel)) (goodIn_sub (fun _ h => List.mem_cons_of_mem _ (List.mem_append_right _ h)) (by decide +kernel))
set_option maxRecDepth 20000 in
theorem gX2_mayBeAsked_X2_isBarred : GoodIn wsX2_mayBeAsked (wsV RX2 41 RX2 yX2_isBarred wsX2_isBarred) := goodIn_app (goodIn_of _ (by decide +kernel)) ggX2_mayBeAsked_X2_isBarred
set_option maxRecDepth 20000 in
theorem ggX2_leaveGangs_X2_leaveGang : GoodIn wsX2_leaveGangs wsX2_leaveGang := goodIn_ca (goodIn_r _ [6, 7, 8, 9, 10, 11, 12, 13, 14, 15, 16] (by decide +kernel) (by decide +kernel)) (goodIn_sub (fun _ h => List.mem_cons_of_mem _ (List.mem_append_right _ h)) (by decide +kernel))
set_option maxRecDepth 20000 in
theorem gX2_leaveGangs_X2_leaveGang : GoodIn wsX2_leaveGangs (wsV RX2 37 RX2 yX2_leaveGang wsX2_leaveGang) := goodIn_app (goodIn_of _ (by decide +kernel)) ggX2_leaveGangs_X2_leaveGang
set_option maxRecDepth 20000 in
theorem ggX3_init_J7_fill_53178 : GoodIn wsX3_init wsJ7_fill_53178 := goodIn_r _ [13] (by decide +kernel) (by decide +kernel)
set_option maxRecDepth 20000 in
theorem gX3_init_J7_fill_53178 : GoodIn wsX3_init (va_wsS RX3 29 yJ7_fill_53178 wsJ7_fill_53178) := goodIn_app (goodIn_of _ (by decide +kernel)) ggX3_init_J7_fill_53178
set_option maxRecDepth 20000 in
theorem ggX3_add_J7_fill_53178 : GoodIn wsX3_add wsJ7_fill_53178 := goodIn_r _ [8] (by decide +kernel) (by decide +kernel)
set_option maxRecDepth 20000 in
theorem gX3_add_J7_fill_53178 : GoodIn wsX3_add (va_wsS RX3 29 yJ7_fill_53178 wsJ7_fill_53178) := goodIn_app (goodIn_of _ (by decide +kernel)) ggX3_add_J7_fill_53178
set_option maxRecDepth 20000 in
theorem ggX3_clear_J7_fill_53178 : GoodIn wsX3_clear wsJ7_fill_53178 := goodIn_r _ [7] (by decide +kernel) (by decide +kernel)
set_option maxRecDepth 20000 in
theorem gX3_clear_J7_fill_53178 : GoodIn wsX3_clear (va_wsS RX3 29 yJ7_fill_53178 wsJ7_fill_53178) := goodIn_app (goodIn_of _ (by decide +kernel)) ggX3_clear_J7_fill_53178
set_option maxRecDepth 20000 in
theorem ggX3_leastWaiting_X3_search : GoodIn wsX3_leastWaiting wsX3_search := goodIn_ca (goodIn_r _ [6, 7, 8, 9, 10, 11, 12, 13, 14, 15, 16, 17, 18, 19, 20, 21, 22, 23, 24, 25, 5, 26, 27, 28, 29, 30, 31, 32, 33, 34, 35, 36, 37, 38, 39, 40, 41, 42, 43, 44, 45, 46, 47, 48, 49, 50, 51, 52, 53, 54, 55, 56, 57, 58, 59] (by decide +kernel) (by decide +kernel)) (goodIn_sub (fun _ h => List.mem_cons_of_mem _ (List.mem_append_right _ h)) (by decide +kernel))
set_option maxRecDepth 20000 in
theorem gX3_leastWaiting_X3_search : GoodIn wsX3_leastWaiting (wsV RX3 39 RX3 yX3_search wsX3_search) := goodIn_app (goodIn_of _ (by decide +kernel)) ggX3_leastWaiting_X3_search
set_option maxRecDepth 20000 in
theorem ggX3_search_J7_fill_fda19 : GoodIn wsX3_search wsJ7_fill_fda19 := goodIn_r _ [7, 8, 9, 6, 10, 11, 12, 13, 14, 15, 16, 45, 46, 47, 48, 49, 50, 51, 52, 53, 54] (by decide +kernel) (by decide +kernel)
set_option maxRecDepth 20000 in
theorem gX3_search_J7_fill_fda19 : GoodIn wsX3_search (va_wsS RX3 44 yJ7_fill_fda19 wsJ7_fill_fda19) := goodIn_app (goodIn_of _ (by decide +kernel)) ggX3_search_J7_fill_fda19
set_option maxRecDepth 20000 in
theorem ggX3_search_X3_sendGangs : GoodIn wsX3_search wsX3_sendGangs := goodIn_ca (goodIn_r _ [21, 2, 22, 23, 24, 25, 26, 27, 28, 29, 30, 20, 31, 32, 33, 34, 35, 36, 37, 38, 39, 40, 41, 42, 43, 44] (by decide +kernel) (by decide +kernel)) (goodIn_sub (fun _ h => List.mem_cons_of_mem _ (List.mem_append_right _ h)) (by decide +kernel))
set_option maxRecDepth 20000 in
theorem gX3_search_X3_sendGangs : GoodIn wsX3_search (wsV RX3 47 RX3 yX3_sendGangs wsX3_sendGangs) := goodIn_app (goodIn_of _ (by decide +kernel)) ggX3_search_X3_sendGangs
set_option maxRecDepth 20000 in
theorem ggX3_sendGangs_X3_spread : GoodIn wsX3_sendGangs wsX3_spread := goodIn_ca (goodIn_r _ [12, 2, 13, 14, 6, 15, 4, 5, 7, 16, 17, 18, 11, 19, 1, 20, 21, 22, 23, 24, 25] (by decide +kernel) (by decide +kernel)) (goodIn_sub (fun _ h => List.mem_cons_of_mem _ (List.mem_append_right _ h)) (by decide +kernel))
set_option maxRecDepth 20000 in
theorem gX3_sendGangs_X3_spread : GoodIn wsX3_sendGangs (wsV RX3 57 RX3 yX3_spread wsX3_spread) := goodIn_app (goodIn_of _ (by decide +kernel)) ggX3_sendGangs_X3_spread
set_option maxRecDepth 20000 in
theorem ggX3_spread_X3_reach : GoodIn wsX3_spread wsX3_reach := goodIn_ca (goodIn_r _ [13, 14, 15, 16, 17, 18, 19, 20] (by decide +kernel) (by decide +kernel)) (goodIn_sub (fun _ h => List.mem_cons_of_mem _ (List.mem_append_right _ h)) (by decide +kernel))
set_option maxRecDepth 20000 in
theorem gX3_spread_X3_reach : GoodIn wsX3_spread (wsV RX3 64 RX3 yX3_reach wsX3_reach) := goodIn_app (goodIn_of _ (by decide +kernel)) ggX3_spread_X3_reach
set_option maxRecDepth 20000 in
theorem ggX4_readText_X4_readClause : GoodIn wsX4_readText wsX4_readClause := goodIn_ca (goodIn_r _ [13, 6, 7, 14, 15, 1, 16, 17, 18, 12, 19, 8, 20, 21, 22, 23, 24, 25, 26, 27, 28, 29, 30, 31, 32, 33, 34, 35, 36, 37, 38, 39, 40, 41, 42, 43, 44, 45, 46, 47, 48, 49, 50, 51, 52, 53, 54, 55, 56, 57, 58, 59, 60, 61, 62, 63, 64, 65, 66, 67, 68, 69, 70, 71, 72, 73, 74, 75, 76, 77, 78, 79, 80, 81, 82, 83, 84, 85, 86, 87, 88, 89, 90, 91, 92, 93, 94, 95, 96, 97, 98, 99, 100, 101, 102, 103, 104, 105, 106, 107, 108, 109, 110, 111, 112, 113, 114, 115] (by decide +kernel) (by decide +kernel)) (goodIn_sub (fun _ h => List.mem_cons_of_mem _ (List.mem_append_right _ h)) (by decide +kernel))
set_option maxRecDepth 20000 in
theorem gX4_readText_X4_readClause : GoodIn wsX4_readText (wsV RX4 32 RX4 yX4_readClause wsX4_readClause) := goodIn_app (goodIn_of _ (by decide +kernel)) ggX4_readText_X4_readClause
set_option maxRecDepth 20000 in
theorem ggX4_readText_X4_skipBlanks : GoodIn wsX4_readText wsX4_skipBlanks := goodIn_ca (goodIn_r _ [19, 6, 8, 20, 21, 22, 23, 24, 25, 106, 107, 108, 109, 110, 111] (by decide +kernel) (by decide +kernel)) (goodIn_sub (fun _ h => List.mem_cons_of_mem _ (List.mem_append_right _ h)) (by decide +kernel))
set_option maxRecDepth 20000 in
theorem gX4_readText_X4_skipBlanks : GoodIn wsX4_readText (wsV RX4 36 RX4 yX4_skipBlanks wsX4_skipBlanks) := goodIn_app (goodIn_of _ (by decide +kernel)) ggX4_readText_X4_skipBlanks
set_option maxRecDepth 20000 in
theorem ggX4_readText_X7_byteAt : GoodIn wsX4_readText wsX7_byteAt := goodIn_ca (goodIn_r _ [23, 24, 25, 110, 111] (by decide +kernel) (by decide +kernel)) (goodIn_sub (fun _ h => List.mem_cons_of_mem _ (List.mem_append_right _ h)) (by decide +kernel))
set_option maxRecDepth 20000 in
theorem gX4_readText_X7_byteAt_n44 : GoodIn wsX4_readText (wsX7_byteAt) := ggX4_readText_X7_byteAt
set_option maxRecDepth 20000 in
theorem ggX4_readText_X4_wrongHere : GoodIn wsX4_readText wsX4_wrongHere := goodIn_r _ [101, 7, 106, 107, 108, 109] (by decide +kernel) (by decide +kernel)
set_option maxRecDepth 20000 in
theorem gX4_readText_X4_wrongHere : GoodIn wsX4_readText (wsV RX4 48 RX4 yX4_wrongHere wsX4_wrongHere) := goodIn_app (goodIn_of _ (by decide +kernel)) ggX4_readText_X4_wrongHere
set_option maxRecDepth 20000 in
theorem ggX4_readClause_X4_skipBlanks : GoodIn wsX4_readClause wsX4_skipBlanks := goodIn_ca (goodIn_r _ [10, 1, 11, 12, 13, 14, 15, 16, 17, 98, 99, 100, 101, 102, 103] (by decide +kernel) (by decide +kernel)) (goodIn_sub (fun _ h => List.mem_cons_of_mem _ (List.mem_append_right _ h)) (by decide +kernel))
set_option maxRecDepth 20000 in
theorem gX4_readClause_X4_skipBlanks : GoodIn wsX4_readClause (wsV RX4 36 RX4 yX4_skipBlanks wsX4_skipBlanks) := goodIn_app (goodIn_of _ (by decide +kernel)) ggX4_readClause_X4_skipBlanks
set_option maxRecDepth 20000 in
theorem ggX4_readClause_X4_wordEnd : GoodIn wsX4_readClause wsX4_wordEnd := goodIn_ca (goodIn_r _ [21, 11, 12, 13, 14, 15, 16, 17, 22, 23, 9, 24, 98, 99, 100, 101, 102, 103] (by decide +kernel) (by decide +kernel)) (goodIn_sub (fun _ h => List.mem_cons_of_mem _ (List.mem_append_right _ h)) (by decide +kernel))
set_option maxRecDepth 20000 in
theorem gX4_readClause_X4_wordEnd : GoodIn wsX4_readClause (wsV RX4 51 RX4 yX4_wordEnd wsX4_wordEnd) := goodIn_app (goodIn_of _ (by decide +kernel)) ggX4_readClause_X4_wordEnd
set_option maxRecDepth 20000 in
theorem ggX4_readClause_X4_clauseOf : GoodIn wsX4_readClause wsX4_clauseOf := goodIn_ca (goodIn_r _ [28, 29, 30, 31, 32, 9, 33, 11, 34, 35, 36, 37, 38, 39, 40, 41, 42, 43, 44, 45, 12, 13, 14, 15, 16, 17, 46, 47, 48, 49, 50, 51, 52, 53, 54, 55, 56, 57, 58, 59, 60, 61, 62, 63, 64, 65, 66, 67, 68, 69, 70, 71, 72, 73, 74, 75, 76, 77, 78, 79, 80, 81, 82, 98, 99, 100, 101, 104, 105, 106, 107, 102, 103] (by decide +kernel) (by decide +kernel)) (goodIn_sub (fun _ h => List.mem_cons_of_mem _ (List.mem_append_right _ h)) (by decide +kernel))
set_option maxRecDepth 20000 in
theorem gX4_readClause_X4_clauseOf : GoodIn wsX4_readClause (wsV RX4 54 RX4 yX4_clauseOf wsX4_clauseOf) := goodIn_app (goodIn_of _ (by decide +kernel)) ggX4_readClause_X4_clauseOf
set_option maxRecDepth 20000 in
theorem ggX4_readClause_X4_readNumber : GoodIn wsX4_readClause wsX4_readNumber := goodIn_ca (goodIn_r _ [86, 1, 11, 6, 7, 8, 9, 10, 12, 13, 14, 15, 16, 17, 87, 88, 89, 90, 91, 92, 93, 2, 98, 99, 100, 101, 102, 103] (by decide +kernel) (by decide +kernel)) (goodIn_sub (fun _ h => List.mem_cons_of_mem _ (List.mem_append_right _ h)) (by decide +kernel))
set_option maxRecDepth 20000 in
theorem gX4_readClause_X4_readNumber : GoodIn wsX4_readClause (wsV RX4 67 RX4 yX4_readNumber wsX4_readNumber) := goodIn_app (goodIn_of _ (by decide +kernel)) ggX4_readClause_X4_readNumber
set_option maxRecDepth 20000 in
theorem ggX4_readClause_X4_readOrder : GoodIn wsX4_readClause wsX4_readOrder := goodIn_ca (goodIn_r _ [97, 1, 6, 7, 8, 9, 10, 11, 12, 13, 14, 15, 16, 17, 18, 19, 20, 21, 22, 23, 24, 30, 31, 32, 33, 34, 35, 36, 37, 38, 39, 40, 41, 42, 43, 44, 45, 46, 47, 48, 49, 50, 51, 52, 53, 54, 55, 56, 57, 58, 59, 60, 61, 62, 63, 64, 65, 66, 67, 68, 69, 70, 71, 72, 73, 74, 75, 76, 77, 78, 79, 80, 81, 82, 90, 91, 92, 93, 2, 98, 99, 100, 101, 102, 103, 104, 105, 106, 107] (by decide +kernel) (by decide +kernel)) (goodIn_sub (fun _ h => List.mem_cons_of_mem _ (List.mem_append_right _ h)) (by decide +kernel))
set_option maxRecDepth 20000 in
theorem gX4_readClause_X4_readOrder : GoodIn wsX4_readClause (wsV RX4 74 RX4 yX4_readOrder wsX4_readOrder) := goodIn_app (goodIn_of _ (by decide +kernel)) ggX4_readClause_X4_readOrder
set_option maxRecDepth 20000 in
theorem ggX4_clauseOf_X4_isWord : GoodIn wsX4_clauseOf wsX4_isWord := goodIn_ca (goodIn_r _ [6, 7, 8, 9, 10, 11, 12, 13, 14, 15, 16, 17, 18, 19, 20, 21, 22, 23, 24, 25, 26, 27, 28, 29, 30, 31, 32, 33, 34, 35, 36, 37, 38, 39, 40, 41, 42, 43, 44, 45, 46, 47, 48, 49, 50, 51, 52, 53, 54, 55, 56, 57, 58, 59, 60, 61, 62, 63, 64, 65, 66, 67, 68, 69, 70, 71, 72] (by decide +kernel) (by decide +kernel)) (goodIn_sub (fun _ h => List.mem_cons_of_mem _ (List.mem_append_right _ h)) (by decide +kernel))
set_option maxRecDepth 20000 in
theorem gX4_clauseOf_X4_isWord : GoodIn wsX4_clauseOf (wsV RX4 92 RX4 yX4_isWord wsX4_isWord) := goodIn_app (goodIn_of _ (by decide +kernel)) ggX4_clauseOf_X4_isWord
set_option maxRecDepth 20000 in
theorem ggX4_readOrder_X4_skipBlanks : GoodIn wsX4_readOrder wsX4_skipBlanks := goodIn_ca (goodIn_r _ [6, 1, 7, 8, 9, 10, 11, 12, 13, 79, 80, 81, 82, 83, 84] (by decide +kernel) (by decide +kernel)) (goodIn_sub (fun _ h => List.mem_cons_of_mem _ (List.mem_append_right _ h)) (by decide +kernel))
set_option maxRecDepth 20000 in
theorem gX4_readOrder_X4_skipBlanks : GoodIn wsX4_readOrder (wsV RX4 36 RX4 yX4_skipBlanks wsX4_skipBlanks) := goodIn_app (goodIn_of _ (by decide +kernel)) ggX4_readOrder_X4_skipBlanks
set_option maxRecDepth 20000 in
theorem ggX4_readOrder_X4_wordEnd : GoodIn wsX4_readOrder wsX4_wordEnd := goodIn_ca (goodIn_r _ [17, 7, 8, 9, 10, 11, 12, 13, 18, 19, 5, 20, 79, 80, 81, 82, 83, 84] (by decide +kernel) (by decide +kernel)) (goodIn_sub (fun _ h => List.mem_cons_of_mem _ (List.mem_append_right _ h)) (by decide +kernel))
set_option maxRecDepth 20000 in
theorem gX4_readOrder_X4_wordEnd : GoodIn wsX4_readOrder (wsV RX4 51 RX4 yX4_wordEnd wsX4_wordEnd) := goodIn_app (goodIn_of _ (by decide +kernel)) ggX4_readOrder_X4_wordEnd
set_option maxRecDepth 20000 in
theorem ggX4_readOrder_X4_isWord : GoodIn wsX4_readOrder wsX4_isWord := goodIn_ca (goodIn_r _ [24, 7, 25, 26, 27, 28, 29, 30, 31, 32, 33, 34, 35, 36, 8, 9, 10, 11, 12, 13, 37, 38, 39, 40, 41, 42, 43, 44, 45, 46, 47, 48, 49, 50, 51, 52, 53, 54, 55, 56, 57, 58, 59, 60, 61, 62, 63, 64, 65, 66, 67, 68, 69, 70, 71, 72, 73, 79, 80, 81, 82, 85, 86, 87, 88, 83, 84] (by decide +kernel) (by decide +kernel)) (goodIn_sub (fun _ h => List.mem_cons_of_mem _ (List.mem_append_right _ h)) (by decide +kernel))
set_option maxRecDepth 20000 in
theorem gX4_readOrder_X4_isWord : GoodIn wsX4_readOrder (wsV RX4 92 RX4 yX4_isWord wsX4_isWord) := goodIn_app (goodIn_of _ (by decide +kernel)) ggX4_readOrder_X4_isWord
set_option maxRecDepth 20000 in
theorem ggX4_readOrder_X4_wrongHere : GoodIn wsX4_readOrder wsX4_wrongHere := goodIn_r _ [77, 78, 79, 80, 81, 82] (by decide +kernel) (by decide +kernel)
set_option maxRecDepth 20000 in
theorem gX4_readOrder_X4_wrongHere : GoodIn wsX4_readOrder (wsV RX4 48 RX4 yX4_wrongHere wsX4_wrongHere) := goodIn_app (goodIn_of _ (by decide +kernel)) ggX4_readOrder_X4_wrongHere
set_option maxRecDepth 20000 in
theorem ggX4_readNumber_X4_skipBlanks : GoodIn wsX4_readNumber wsX4_skipBlanks := goodIn_ca (goodIn_r _ [7, 1, 2, 8, 9, 10, 11, 12, 13, 22, 23, 24, 25, 26, 27] (by decide +kernel) (by decide +kernel)) (goodIn_sub (fun _ h => List.mem_cons_of_mem _ (List.mem_append_right _ h)) (by decide +kernel))
set_option maxRecDepth 20000 in
theorem gX4_readNumber_X4_skipBlanks : GoodIn wsX4_readNumber (wsV RX4 36 RX4 yX4_skipBlanks wsX4_skipBlanks) := goodIn_app (goodIn_of _ (by decide +kernel)) ggX4_readNumber_X4_skipBlanks
set_option maxRecDepth 20000 in
theorem ggX4_readNumber_X7_byteAt : GoodIn wsX4_readNumber wsX7_byteAt := goodIn_ca (goodIn_r _ [11, 12, 13, 26, 27] (by decide +kernel) (by decide +kernel)) (goodIn_sub (fun _ h => List.mem_cons_of_mem _ (List.mem_append_right _ h)) (by decide +kernel))
set_option maxRecDepth 20000 in
theorem gX4_readNumber_X7_byteAt_n44 : GoodIn wsX4_readNumber (wsX7_byteAt) := ggX4_readNumber_X7_byteAt
set_option maxRecDepth 20000 in
theorem ggX4_readNumber_X4_isDigit : GoodIn wsX4_readNumber wsX4_isDigit := goodIn_r _ [16] (by decide +kernel) (by decide +kernel)
set_option maxRecDepth 20000 in
theorem gX4_readNumber_X4_isDigit : GoodIn wsX4_readNumber (va_wsS RX4 102 yX4_isDigit wsX4_isDigit) := goodIn_app (goodIn_of _ (by decide +kernel)) ggX4_readNumber_X4_isDigit
set_option maxRecDepth 20000 in
theorem ggX4_readNumber_X4_wrongHere : GoodIn wsX4_readNumber wsX4_wrongHere := goodIn_r _ [20, 21, 22, 23, 24, 25] (by decide +kernel) (by decide +kernel)
set_option maxRecDepth 20000 in
theorem gX4_readNumber_X4_wrongHere : GoodIn wsX4_readNumber (wsV RX4 48 RX4 yX4_wrongHere wsX4_wrongHere) := goodIn_app (goodIn_of _ (by decide +kernel)) ggX4_readNumber_X4_wrongHere
set_option maxRecDepth 20000 in
theorem ggX4_skipBlanks_X7_byteAt : GoodIn wsX4_skipBlanks wsX7_byteAt := goodIn_ca (goodIn_r _ [6, 7, 8, 13, 14] (by decide +kernel) (by decide +kernel)) (goodIn_sub (fun _ h => List.mem_cons_of_mem _ (List.mem_append_right _ h)) (by decide +kernel))
set_option maxRecDepth 20000 in
theorem gX4_skipBlanks_X7_byteAt_n44 : GoodIn wsX4_skipBlanks (wsX7_byteAt) := ggX4_skipBlanks_X7_byteAt
set_option maxRecDepth 20000 in
theorem ggX4_wordEnd_X7_byteAt : GoodIn wsX4_wordEnd wsX7_byteAt := goodIn_ca (goodIn_r _ [5, 6, 7, 16, 17] (by decide +kernel) (by decide +kernel)) (goodIn_sub (fun _ h => List.mem_cons_of_mem _ (List.mem_append_right _ h)) (by decide +kernel))
set_option maxRecDepth 20000 in
theorem gX4_wordEnd_X7_byteAt_n44 : GoodIn wsX4_wordEnd (wsX7_byteAt) := ggX4_wordEnd_X7_byteAt
set_option maxRecDepth 20000 in
theorem ggX4_wordEnd_X4_isLetter : GoodIn wsX4_wordEnd wsX4_isLetter := goodIn_r _ [11] (by decide +kernel) (by decide +kernel)
set_option maxRecDepth 20000 in
theorem gX4_wordEnd_X4_isLetter : GoodIn wsX4_wordEnd (va_wsS RX4 106 yX4_isLetter wsX4_isLetter) := goodIn_app (goodIn_of _ (by decide +kernel)) ggX4_wordEnd_X4_isLetter
set_option maxRecDepth 20000 in
theorem ggX4_isWord_J0_length_8abf5 : GoodIn wsX4_isWord wsJ0_length_8abf5 := goodIn_r _ [6, 7, 8, 9, 10, 5, 11, 12, 13, 61, 62, 63, 64] (by decide +kernel) (by decide +kernel)
set_option maxRecDepth 20000 in
theorem gX4_isWord_J0_length_8abf5 : GoodIn wsX4_isWord (wsV RX4 109 RJ0 yJ0_length_8abf5 wsJ0_length_8abf5) := goodIn_app (goodIn_of _ (by decide +kernel)) ggX4_isWord_J0_length_8abf5
set_option maxRecDepth 20000 in
theorem ggX4_isWord_X7_byteAt : GoodIn wsX4_isWord wsX7_byteAt := goodIn_ca (goodIn_r _ [17, 18, 19, 65, 66] (by decide +kernel) (by decide +kernel)) (goodIn_sub (fun _ h => List.mem_cons_of_mem _ (List.mem_append_right _ h)) (by decide +kernel))
set_option maxRecDepth 20000 in
theorem gX4_isWord_X7_byteAt_n44 : GoodIn wsX4_isWord (wsX7_byteAt) := ggX4_isWord_X7_byteAt
set_option maxRecDepth 20000 in
theorem ggX4_isWord_J0_charAt_5068e : GoodIn wsX4_isWord wsJ0_charAt_5068e := goodIn_r _ [23, 7, 24, 25, 26, 5, 27, 12, 13, 28, 29, 30, 31, 32, 33, 34, 35, 36, 37, 38, 39, 40, 41, 42, 43, 44, 45, 46, 47, 48, 49, 50, 51, 52, 53, 54, 55, 56, 61, 62, 63, 64] (by decide +kernel) (by decide +kernel)
set_option maxRecDepth 20000 in
theorem gX4_isWord_J0_charAt_5068e : GoodIn wsX4_isWord (wsV RX4 113 RJ0 yJ0_charAt_5068e wsJ0_charAt_5068e) := goodIn_app (goodIn_of _ (by decide +kernel)) ggX4_isWord_J0_charAt_5068e
set_option maxRecDepth 20000 in
theorem ggX5_hold_X2_leaveGangs : GoodIn wsX5_hold wsX2_leaveGangs := goodIn_ca (goodIn_r _ [10, 11, 12, 13, 14, 8, 15, 16, 17, 133, 134, 135, 136, 137, 138, 139, 140] (by decide +kernel) (by decide +kernel)) (goodIn_sub (fun _ h => List.mem_cons_of_mem _ (List.mem_append_right _ h)) (by decide +kernel))
set_option maxRecDepth 20000 in
theorem gX5_hold_X2_leaveGangs_n30 : GoodIn wsX5_hold (wsX2_leaveGangs) := ggX5_hold_X2_leaveGangs
set_option maxRecDepth 20000 in
theorem ggX5_hold_X2_lineUp : GoodIn wsX5_hold wsX2_lineUp := goodIn_ca (goodIn_r _ [20, 11, 21, 22, 133, 134, 135, 136, 137, 138, 139, 140] (by decide +kernel) (by decide +kernel)) (goodIn_sub (fun _ h => List.mem_cons_of_mem _ (List.mem_append_right _ h)) (by decide +kernel))
set_option maxRecDepth 20000 in
theorem gX5_hold_X2_lineUp_n35 : GoodIn wsX5_hold (wsX2_lineUp) := ggX5_hold_X2_lineUp
set_option maxRecDepth 20000 in
theorem ggX5_hold_X6_lineUp : GoodIn wsX5_hold wsX6_lineUp := goodIn_ca (goodIn_r _ [26, 27, 28, 29, 30, 31, 32, 33, 24, 34, 35, 36, 37, 38, 39, 40, 41, 42, 43, 44, 123, 124, 125, 126, 127, 128, 129, 130, 131, 132] (by decide +kernel) (by decide +kernel)) (goodIn_sub (fun _ h => List.mem_cons_of_mem _ (List.mem_append_right _ h)) (by decide +kernel))
set_option maxRecDepth 20000 in
theorem gX5_hold_X6_lineUp_n38 : GoodIn wsX5_hold (wsX6_lineUp) := ggX5_hold_X6_lineUp
set_option maxRecDepth 20000 in
theorem ggX5_hold_X5_serveShip : GoodIn wsX5_hold wsX5_serveShip := goodIn_ca (goodIn_r _ [49, 2, 4, 38, 24, 39, 50, 51, 52, 48, 53, 3, 54, 55, 56, 57, 1, 6, 58, 59, 8, 60, 61, 62, 16, 63, 64, 65, 66, 67, 68, 69, 70, 71, 72, 73, 74, 75, 76, 77, 78, 79, 80, 81, 82, 83, 84, 85, 86, 87, 88, 89, 90, 91, 92, 93, 17, 21, 94, 95, 96, 97, 98, 99, 100, 101, 102, 103, 112, 113, 114, 115, 116, 117, 118, 119, 120, 121, 122, 123, 124, 125, 126, 127, 128, 129, 130, 131, 132, 133, 134, 135, 136, 137, 138, 139, 140, 141, 142, 143, 144, 145, 146, 147, 148, 149, 150] (by decide +kernel) (by decide +kernel)) (goodIn_sub (fun _ h => List.mem_cons_of_mem _ (List.mem_append_right _ h)) (by decide +kernel))
set_option maxRecDepth 20000 in
theorem gX5_hold_X5_serveShip : GoodIn wsX5_hold (wsV RX5 53 RX5 yX5_serveShip wsX5_serveShip) := goodIn_app (goodIn_of _ (by decide +kernel)) ggX5_hold_X5_serveShip
set_option maxRecDepth 20000 in
theorem ggX5_hold_X6_countWaiting : GoodIn wsX5_hold wsX6_countWaiting := goodIn_ca (goodIn_r _ [106, 28, 107, 108, 109, 110, 24, 111, 31, 32, 33, 34, 35, 36, 37, 38, 39, 123, 124, 125, 126, 127, 128, 129, 130, 131, 132] (by decide +kernel) (by decide +kernel)) (goodIn_sub (fun _ h => List.mem_cons_of_mem _ (List.mem_append_right _ h)) (by decide +kernel))
set_option maxRecDepth 20000 in
theorem gX5_hold_X6_countWaiting_n57 : GoodIn wsX5_hold (wsX6_countWaiting) := ggX5_hold_X6_countWaiting
set_option maxRecDepth 20000 in
theorem ggX5_serveShip_X6_place : GoodIn wsX5_serveShip wsX6_place := goodIn_r _ [5] (by decide +kernel) (by decide +kernel)
set_option maxRecDepth 20000 in
theorem gX5_serveShip_X6_place_n69 : GoodIn wsX5_serveShip (wsX6_place) := ggX5_serveShip_X6_place
set_option maxRecDepth 20000 in
theorem ggX5_serveShip_X5_musterGang : GoodIn wsX5_serveShip wsX5_musterGang := goodIn_ca (goodIn_r _ [10, 11, 12, 13, 14, 15, 16, 17, 18, 19, 20, 21, 22, 23, 24, 25, 26, 27, 28, 29, 30, 31, 32, 33, 68, 69, 70, 71, 72, 73, 74, 75, 76, 77, 78, 89, 90, 91, 92, 93, 94, 95, 96] (by decide +kernel) (by decide +kernel)) (goodIn_sub (fun _ h => List.mem_cons_of_mem _ (List.mem_append_right _ h)) (by decide +kernel))
set_option maxRecDepth 20000 in
theorem gX5_serveShip_X5_musterGang : GoodIn wsX5_serveShip (wsV RX5 79 RX5 yX5_musterGang wsX5_musterGang) := goodIn_app (goodIn_of _ (by decide +kernel)) ggX5_serveShip_X5_musterGang
set_option maxRecDepth 20000 in
theorem ggX5_serveShip_X5_workHatch : GoodIn wsX5_serveShip wsX5_workHatch := goodIn_ca (goodIn_r _ [37, 38, 39, 11, 1, 12, 13, 14, 15, 40, 68, 69, 70, 71, 72, 73, 74, 75, 76, 77, 78, 79, 80, 81, 82, 83, 84, 85, 86, 87, 88] (by decide +kernel) (by decide +kernel)) (goodIn_sub (fun _ h => List.mem_cons_of_mem _ (List.mem_append_right _ h)) (by decide +kernel))
set_option maxRecDepth 20000 in
theorem gX5_serveShip_X5_workHatch : GoodIn wsX5_serveShip (wsV RX5 83 RX5 yX5_workHatch wsX5_workHatch) := goodIn_app (goodIn_of _ (by decide +kernel)) ggX5_serveShip_X5_workHatch
set_option maxRecDepth 20000 in
theorem ggX5_serveShip_X5_payGang : GoodIn wsX5_serveShip wsX5_payGang := goodIn_ca (goodIn_r _ [44, 11, 16, 18, 45, 17, 46, 47, 48, 9, 49, 38, 39, 50, 51, 14, 52, 53, 20, 54, 55, 24, 56, 57, 58, 59, 60, 61, 62, 63, 64, 65, 66, 67, 68, 69, 70, 71, 72, 73, 74, 75, 76, 77, 78, 89, 90, 91, 92, 93, 94, 95, 96, 97, 98, 99, 100, 101, 102, 103, 104, 105, 106] (by decide +kernel) (by decide +kernel)) (goodIn_sub (fun _ h => List.mem_cons_of_mem _ (List.mem_append_right _ h)) (by decide +kernel))
set_option maxRecDepth 20000 in
theorem gX5_serveShip_X5_payGang : GoodIn wsX5_serveShip (wsV RX5 87 RX5 yX5_payGang wsX5_payGang) := goodIn_app (goodIn_of _ (by decide +kernel)) ggX5_serveShip_X5_payGang
set_option maxRecDepth 20000 in
theorem ggX5_musterGang_X2_mayBeAsked : GoodIn wsX5_musterGang wsX2_mayBeAsked := goodIn_ca (goodIn_r _ [12, 13, 14, 15, 16, 17, 10, 18, 19, 35, 36, 37, 38, 39, 40, 41, 42] (by decide +kernel) (by decide +kernel)) (goodIn_sub (fun _ h => List.mem_cons_of_mem _ (List.mem_append_right _ h)) (by decide +kernel))
set_option maxRecDepth 20000 in
theorem gX5_musterGang_X2_mayBeAsked_n99 : GoodIn wsX5_musterGang (wsX2_mayBeAsked) := ggX5_musterGang_X2_mayBeAsked
set_option maxRecDepth 20000 in
theorem ggX5_musterGang_X2_refuse : GoodIn wsX5_musterGang wsX2_refuse := goodIn_ca (goodIn_r _ [22, 19, 23, 35, 36, 37, 38, 39, 40, 41, 42] (by decide +kernel) (by decide +kernel)) (goodIn_sub (fun _ h => List.mem_cons_of_mem _ (List.mem_append_right _ h)) (by decide +kernel))
set_option maxRecDepth 20000 in
theorem gX5_musterGang_X2_refuse_n103 : GoodIn wsX5_musterGang (wsX2_refuse) := ggX5_musterGang_X2_refuse
set_option maxRecDepth 20000 in
theorem ggX5_payGang_X5_payOfMan : GoodIn wsX5_payGang wsX5_payOfMan := goodIn_ca (goodIn_r _ [10, 1, 11, 12, 13, 14, 15, 16, 34, 35, 36, 37, 38, 39, 40, 41, 42, 43, 44] (by decide +kernel) (by decide +kernel)) (goodIn_sub (fun _ h => List.mem_cons_of_mem _ (List.mem_append_right _ h)) (by decide +kernel))
set_option maxRecDepth 20000 in
theorem gX5_payGang_X5_payOfMan : GoodIn wsX5_payGang (wsV RX5 119 RX5 yX5_payOfMan wsX5_payOfMan) := goodIn_app (goodIn_of _ (by decide +kernel)) ggX5_payGang_X5_payOfMan
set_option maxRecDepth 20000 in
theorem ggX5_payGang_X2_joinGang : GoodIn wsX5_payGang wsX2_joinGang := goodIn_ca (goodIn_r _ [20, 21, 22, 23, 45, 46, 47, 48, 49, 50, 51, 52] (by decide +kernel) (by decide +kernel)) (goodIn_sub (fun _ h => List.mem_cons_of_mem _ (List.mem_append_right _ h)) (by decide +kernel))
set_option maxRecDepth 20000 in
theorem gX5_payGang_X2_joinGang_n123 : GoodIn wsX5_payGang (wsX2_joinGang) := ggX5_payGang_X2_joinGang
set_option maxRecDepth 20000 in
theorem ggX5_payGang_X1_add : GoodIn wsX5_payGang wsX1_add := goodIn_ca (goodIn_r _ [27, 28, 29, 30, 31, 32, 33, 53, 54, 55, 56, 57, 58, 59, 60, 61, 62] (by decide +kernel) (by decide +kernel)) (goodIn_sub (fun _ h => List.mem_cons_of_mem _ (List.mem_append_right _ h)) (by decide +kernel))
set_option maxRecDepth 20000 in
theorem gX5_payGang_X1_add_n127 : GoodIn wsX5_payGang (wsX1_add) := ggX5_payGang_X1_add
set_option maxRecDepth 20000 in
theorem ggX6_addHatch_X6_place : GoodIn wsX6_addHatch wsX6_place := goodIn_r _ [8] (by decide +kernel) (by decide +kernel)
set_option maxRecDepth 20000 in
theorem gX6_addHatch_X6_place : GoodIn wsX6_addHatch (va_wsS RX6 41 yX6_place wsX6_place) := goodIn_app (goodIn_of _ (by decide +kernel)) ggX6_addHatch_X6_place
set_option maxRecDepth 20000 in
theorem ggX6_tonsOf_X6_place : GoodIn wsX6_tonsOf wsX6_place := goodIn_r _ [6] (by decide +kernel) (by decide +kernel)
set_option maxRecDepth 20000 in
theorem gX6_tonsOf_X6_place : GoodIn wsX6_tonsOf (va_wsS RX6 41 yX6_place wsX6_place) := goodIn_app (goodIn_of _ (by decide +kernel)) ggX6_tonsOf_X6_place
set_option maxRecDepth 20000 in
theorem ggX6_tonsLeft_X6_tonsOf : GoodIn wsX6_tonsLeft wsX6_tonsOf := goodIn_ca (goodIn_r _ [6, 7, 8, 9, 10, 5, 11, 12, 13, 14, 15, 16, 17, 18, 19, 20, 21] (by decide +kernel) (by decide +kernel)) (goodIn_sub (fun _ h => List.mem_cons_of_mem _ (List.mem_append_right _ h)) (by decide +kernel))
set_option maxRecDepth 20000 in
theorem gX6_tonsLeft_X6_tonsOf : GoodIn wsX6_tonsLeft (wsV RX6 45 RX6 yX6_tonsOf wsX6_tonsOf) := goodIn_app (goodIn_of _ (by decide +kernel)) ggX6_tonsLeft_X6_tonsOf
set_option maxRecDepth 20000 in
theorem ggX6_isDone_X6_tonsOf : GoodIn wsX6_isDone wsX6_tonsOf := goodIn_ca (goodIn_r _ [5, 6, 7, 8, 9, 4, 10, 11, 12, 13, 14, 15, 16, 17, 18, 19, 20] (by decide +kernel) (by decide +kernel)) (goodIn_sub (fun _ h => List.mem_cons_of_mem _ (List.mem_append_right _ h)) (by decide +kernel))
set_option maxRecDepth 20000 in
theorem gX6_isDone_X6_tonsOf : GoodIn wsX6_isDone (wsV RX6 45 RX6 yX6_tonsOf wsX6_tonsOf) := goodIn_app (goodIn_of _ (by decide +kernel)) ggX6_isDone_X6_tonsOf
set_option maxRecDepth 20000 in
theorem ggX6_lineUp_X6_tonsOf : GoodIn wsX6_lineUp wsX6_tonsOf := goodIn_ca (goodIn_r _ [9, 10, 11, 12, 13, 8, 14, 20, 21, 22, 23, 24, 25, 26, 27, 28, 29] (by decide +kernel) (by decide +kernel)) (goodIn_sub (fun _ h => List.mem_cons_of_mem _ (List.mem_append_right _ h)) (by decide +kernel))
set_option maxRecDepth 20000 in
theorem gX6_lineUp_X6_tonsOf : GoodIn wsX6_lineUp (wsV RX6 45 RX6 yX6_tonsOf wsX6_tonsOf) := goodIn_app (goodIn_of _ (by decide +kernel)) ggX6_lineUp_X6_tonsOf
set_option maxRecDepth 20000 in
theorem ggX6_lineUp_X6_rankOf : GoodIn wsX6_lineUp wsX6_rankOf := goodIn_ca (goodIn_r _ [18, 19, 20, 21, 22, 23, 24, 25, 26, 27, 28, 29] (by decide +kernel) (by decide +kernel)) (goodIn_sub (fun _ h => List.mem_cons_of_mem _ (List.mem_append_right _ h)) (by decide +kernel))
set_option maxRecDepth 20000 in
theorem gX6_lineUp_X6_rankOf : GoodIn wsX6_lineUp (wsV RX6 52 RX6 yX6_rankOf wsX6_rankOf) := goodIn_app (goodIn_of _ (by decide +kernel)) ggX6_lineUp_X6_rankOf
set_option maxRecDepth 20000 in
theorem ggX6_countWaiting_X6_isDone : GoodIn wsX6_countWaiting wsX6_isDone := goodIn_ca (goodIn_r _ [7, 8, 9, 10, 6, 11, 12, 13, 14, 15, 16, 17, 18, 19, 20, 21, 22, 23, 24, 25, 26] (by decide +kernel) (by decide +kernel)) (goodIn_sub (fun _ h => List.mem_cons_of_mem _ (List.mem_append_right _ h)) (by decide +kernel))
set_option maxRecDepth 20000 in
theorem gX6_countWaiting_X6_isDone : GoodIn wsX6_countWaiting (wsV RX6 56 RX6 yX6_isDone wsX6_isDone) := goodIn_app (goodIn_of _ (by decide +kernel)) ggX6_countWaiting_X6_isDone
set_option maxRecDepth 20000 in
theorem ggX7_putNumber_X7_putByte : GoodIn wsX7_putNumber wsX7_putByte := goodIn_ca (goodIn_r _ [5, 6, 7, 8, 9] (by decide +kernel) (by decide +kernel)) (goodIn_sub (fun _ h => List.mem_cons_of_mem _ (List.mem_append_right _ h)) (by decide +kernel))
set_option maxRecDepth 20000 in
theorem gX7_putNumber_X7_putByte : GoodIn wsX7_putNumber (wsV RX7 15 RX7 yX7_putByte wsX7_putByte) := goodIn_app (goodIn_of _ (by decide +kernel)) ggX7_putNumber_X7_putByte
set_option maxRecDepth 20000 in
theorem ggX8_init_X7_init : GoodIn wsX8_init wsX7_init := goodIn_r _ [35, 36, 2, 3, 37, 38, 97, 98] (by decide +kernel) (by decide +kernel)
set_option maxRecDepth 20000 in
theorem gX8_init_X7_init_n9 : GoodIn wsX8_init (wsX7_init) := ggX8_init_X7_init
set_option maxRecDepth 20000 in
theorem ggX8_init_X4_init : GoodIn wsX8_init wsX4_init := goodIn_r _ [40, 41, 2, 3, 8, 42, 43, 44, 107, 108, 109, 110] (by decide +kernel) (by decide +kernel)
set_option maxRecDepth 20000 in
theorem gX8_init_X4_init_n22 : GoodIn wsX8_init (wsX4_init) := ggX8_init_X4_init
set_option maxRecDepth 20000 in
theorem ggX8_init_X2_init : GoodIn wsX8_init wsX2_init := goodIn_r _ [46, 47, 2, 3, 8, 48, 49, 50, 51, 52, 53, 54, 111, 112, 113, 114, 115, 116, 117, 118] (by decide +kernel) (by decide +kernel)
set_option maxRecDepth 20000 in
theorem gX8_init_X2_init_n31 : GoodIn wsX8_init (wsX2_init) := ggX8_init_X2_init
set_option maxRecDepth 20000 in
theorem ggX8_init_X6_init : GoodIn wsX8_init wsX6_init := goodIn_r _ [56, 57, 2, 3, 8, 58, 59, 60, 61, 62, 63, 64, 65, 66, 119, 120, 121, 122, 123, 124, 125, 126, 127, 128] (by decide +kernel) (by decide +kernel)
set_option maxRecDepth 20000 in
theorem gX8_init_X6_init_n38 : GoodIn wsX8_init (wsX6_init) := ggX8_init_X6_init
set_option maxRecDepth 20000 in
theorem ggX8_init_X1_init : GoodIn wsX8_init wsX1_init := goodIn_r _ [68, 69, 2, 3, 8, 70, 71, 72, 73, 74, 75, 76, 129, 130, 131, 132, 133, 134, 135, 136, 137, 138] (by decide +kernel) (by decide +kernel)
set_option maxRecDepth 20000 in
theorem gX8_init_X1_init_n45 : GoodIn wsX8_init (wsX1_init) := ggX8_init_X1_init
set_option maxRecDepth 20000 in
theorem ggX8_init_X5_init : GoodIn wsX8_init wsX5_init := goodIn_r _ [78, 79, 2, 3, 8, 80, 81, 82, 83, 84, 139, 140, 141, 142, 143, 144, 145, 146, 147, 148, 149] (by decide +kernel) (by decide +kernel)
set_option maxRecDepth 20000 in
theorem gX8_init_X5_init_n52 : GoodIn wsX8_init (wsX5_init) := ggX8_init_X5_init
set_option maxRecDepth 20000 in
theorem ggX8_init_X3_init : GoodIn wsX8_init wsX3_init := goodIn_r _ [86, 87, 2, 3, 8, 88, 89, 90, 91, 92, 93, 94, 95, 96, 150, 151, 152, 153, 154, 155] (by decide +kernel) (by decide +kernel)
set_option maxRecDepth 20000 in
theorem gX8_init_X3_init_n61 : GoodIn wsX8_init (wsX3_init) := ggX8_init_X3_init
set_option maxRecDepth 20000 in
theorem ggX8_feed_X7_putNumber : GoodIn wsX8_feed wsX7_putNumber := goodIn_ca (goodIn_r _ [5, 6, 7, 8, 3, 9, 10, 11, 20, 21] (by decide +kernel) (by decide +kernel)) (goodIn_sub (fun _ h => List.mem_cons_of_mem _ (List.mem_append_right _ h)) (by decide +kernel))
set_option maxRecDepth 20000 in
theorem gX8_feed_X7_putNumber_n70 : GoodIn wsX8_feed (wsX7_putNumber) := ggX8_feed_X7_putNumber
set_option maxRecDepth 20000 in
theorem ggX8_man_X2_add : GoodIn wsX8_man wsX2_add := goodIn_ca (goodIn_r _ [9, 10, 11, 12, 13, 14, 15, 7, 16, 17, 18, 27, 28, 29, 30, 31, 32, 33, 34] (by decide +kernel) (by decide +kernel)) (goodIn_sub (fun _ h => List.mem_cons_of_mem _ (List.mem_append_right _ h)) (by decide +kernel))
set_option maxRecDepth 20000 in
theorem gX8_man_X2_add_n89 : GoodIn wsX8_man (wsX2_add) := ggX8_man_X2_add
set_option maxRecDepth 20000 in
theorem ggX8_ship_X6_add : GoodIn wsX8_ship wsX6_add := goodIn_ca (goodIn_r _ [8, 9, 10, 19, 20, 21, 22, 23, 24, 25, 26, 27, 28] (by decide +kernel) (by decide +kernel)) (goodIn_sub (fun _ h => List.mem_cons_of_mem _ (List.mem_append_right _ h)) (by decide +kernel))
set_option maxRecDepth 20000 in
theorem gX8_ship_X6_add_n99 : GoodIn wsX8_ship (wsX6_add) := ggX8_ship_X6_add
set_option maxRecDepth 20000 in
theorem ggX8_hatch_X6_has : GoodIn wsX8_hatch wsX6_has := goodIn_r _ [11, 12, 31, 32, 33, 34, 35, 36, 37, 38, 39, 40] (by decide +kernel) (by decide +kernel)
set_option maxRecDepth 20000 in
theorem gX8_hatch_X6_has_n100 : GoodIn wsX8_hatch (wsX6_has) := ggX8_hatch_X6_has
set_option maxRecDepth 20000 in
theorem ggX8_hatch_X6_addHatch : GoodIn wsX8_hatch wsX6_addHatch := goodIn_ca (goodIn_r _ [15, 16, 17, 18, 19, 20, 21, 9, 22, 31, 32, 33, 34, 35, 36, 37, 38, 39, 40] (by decide +kernel) (by decide +kernel)) (goodIn_sub (fun _ h => List.mem_cons_of_mem _ (List.mem_append_left _ (List.mem_append_right _ h))) (by decide +kernel))
set_option maxRecDepth 20000 in
theorem gX8_hatch_X6_addHatch_n116 : GoodIn wsX8_hatch (wsX6_addHatch) := ggX8_hatch_X6_addHatch
set_option maxRecDepth 20000 in
theorem ggX8_agree_X4_readText : GoodIn wsX8_agree wsX4_readText := goodIn_ca (goodIn_r _ [13, 14, 15, 7, 8, 9, 16, 17, 18, 19, 20, 21, 11, 22, 23, 24, 25, 26, 27, 28, 29, 30, 31, 32, 33, 34, 35, 36, 37, 38, 39, 40, 41, 42, 43, 44, 45, 46, 47, 48, 49, 50, 51, 52, 53, 54, 55, 56, 57, 58, 59, 60, 61, 62, 63, 64, 65, 66, 67, 68, 69, 70, 71, 72, 73, 74, 75, 76, 77, 78, 79, 80, 81, 82, 83, 84, 85, 86, 87, 88, 89, 90, 91, 92, 93, 94, 95, 96, 97, 98, 99, 100, 101, 102, 103, 104, 105, 106, 107, 108, 109, 110, 111, 112, 113, 114, 125, 126, 127, 128, 123, 124, 129, 130, 131, 132] (by decide +kernel) (by decide +kernel)) (goodIn_sub (fun _ h => List.mem_cons_of_mem _ (List.mem_append_right _ h)) (by decide +kernel))
set_option maxRecDepth 20000 in
theorem gX8_agree_X4_readText_n120 : GoodIn wsX8_agree (wsX4_readText) := ggX8_agree_X4_readText
set_option maxRecDepth 20000 in
theorem ggX8_call_X5_hold : GoodIn wsX8_call wsX5_hold := goodIn_ca (goodIn_r _ [7, 8, 9, 10, 11, 12, 13, 14, 15, 16, 17, 18, 19, 20, 21, 22, 23, 24, 25, 26, 27, 28, 29, 30, 31, 32, 33, 34, 35, 36, 37, 38, 39, 40, 41, 42, 43, 44, 45, 46, 47, 48, 49, 50, 51, 52, 53, 54, 5, 55, 56, 57, 58, 59, 60, 61, 62, 63, 64, 65, 66, 67, 68, 69, 70, 71, 72, 73, 74, 75, 76, 77, 78, 79, 80, 81, 82, 83, 84, 85, 86, 87, 88, 89, 90, 91, 92, 93, 94, 95, 96, 97, 98, 99, 100, 101, 102, 103, 104, 105, 106, 107, 108, 109, 110, 111, 112, 113, 114, 115, 116, 117, 126, 127, 128, 129, 130, 131, 132, 133, 134, 135, 136, 137, 138, 139, 140, 141, 142, 143, 144, 145, 146, 147, 148, 149, 150, 151, 152, 153, 154, 155, 156, 157, 158, 159, 160, 161, 162, 163, 164] (by decide +kernel) (by decide +kernel)) (goodIn_sub (fun _ h => List.mem_cons_of_mem _ (List.mem_append_right _ h)) (by decide +kernel))
set_option maxRecDepth 20000 in
theorem gX8_call_X5_hold_n145 : GoodIn wsX8_call (wsX5_hold) := ggX8_call_X5_hold
set_option maxRecDepth 20000 in
theorem ggX8_look_X2_has : GoodIn wsX8_look wsX2_has := goodIn_r _ [10, 11, 24, 25, 26, 27, 28, 29, 30, 31] (by decide +kernel) (by decide +kernel)
set_option maxRecDepth 20000 in
theorem gX8_look_X2_has_n149 : GoodIn wsX8_look (wsX2_has) := ggX8_look_X2_has
set_option maxRecDepth 20000 in
theorem ggX8_look_X2_isBarred : GoodIn wsX8_look wsX2_isBarred := goodIn_ca (goodIn_r _ [14, 15, 24, 25, 26, 27, 28, 29, 30, 31] (by decide +kernel) (by decide +kernel)) (goodIn_sub (fun _ h => List.mem_cons_of_mem _ (List.mem_append_left _ (List.mem_append_right _ h))) (by decide +kernel))
set_option maxRecDepth 20000 in
theorem gX8_look_X2_isBarred_n158 : GoodIn wsX8_look (wsX2_isBarred) := ggX8_look_X2_isBarred
set_option maxRecDepth 20000 in
theorem ggX8_tons_X6_has : GoodIn wsX8_tons wsX6_has := goodIn_r _ [7, 8, 19, 20, 21, 22, 23, 24, 25, 26, 27, 28] (by decide +kernel) (by decide +kernel)
set_option maxRecDepth 20000 in
theorem gX8_tons_X6_has_n100 : GoodIn wsX8_tons (wsX6_has) := ggX8_tons_X6_has
set_option maxRecDepth 20000 in
theorem ggX8_tons_X6_place : GoodIn wsX8_tons wsX6_place := goodIn_r _ [10] (by decide +kernel) (by decide +kernel)
set_option maxRecDepth 20000 in
theorem gX8_tons_X6_place_n178 : GoodIn wsX8_tons (wsX6_place) := ggX8_tons_X6_place
set_option maxRecDepth 20000 in
theorem ggX8_state_X6_has : GoodIn wsX8_state wsX6_has := goodIn_r _ [9, 10, 31, 32, 33, 34, 35, 36, 37, 38, 39, 40] (by decide +kernel) (by decide +kernel)
set_option maxRecDepth 20000 in
theorem gX8_state_X6_has_n100 : GoodIn wsX8_state (wsX6_has) := ggX8_state_X6_has
set_option maxRecDepth 20000 in
theorem ggX8_state_X6_isDone : GoodIn wsX8_state wsX6_isDone := goodIn_ca (goodIn_r _ [13, 14, 15, 16, 7, 17, 18, 19, 20, 21, 22, 31, 32, 33, 34, 35, 36, 37, 38, 39, 40] (by decide +kernel) (by decide +kernel)) (goodIn_sub (fun _ h => List.mem_cons_of_mem _ (List.mem_append_left _ (List.mem_append_right _ h))) (by decide +kernel))
set_option maxRecDepth 20000 in
theorem gX8_state_X6_isDone_n184 : GoodIn wsX8_state (wsX6_isDone) := ggX8_state_X6_isDone
set_option maxRecDepth 20000 in
theorem ggX8_entry_X1_has : GoodIn wsX8_entry wsX1_has := goodIn_r _ [10, 11, 29, 30, 31, 32, 33, 34, 35, 36, 37, 38] (by decide +kernel) (by decide +kernel)
set_option maxRecDepth 20000 in
theorem gX8_entry_X1_has_n192 : GoodIn wsX8_entry (wsX1_has) := ggX8_entry_X1_has
set_option maxRecDepth 20000 in
theorem ggX8_entry_X1_knownMoney : GoodIn wsX8_entry wsX1_knownMoney := goodIn_ca (goodIn_r _ [14, 15, 16, 17, 18, 19, 20, 29, 30, 31, 32, 33, 34, 35, 36, 37, 38] (by decide +kernel) (by decide +kernel)) (goodIn_sub (fun _ h => List.mem_cons_of_mem _ (List.mem_append_left _ (List.mem_append_right _ h))) (by decide +kernel))
set_option maxRecDepth 20000 in
theorem gX8_entry_X1_knownMoney_n204 : GoodIn wsX8_entry (wsX1_knownMoney) := ggX8_entry_X1_knownMoney
set_option maxRecDepth 20000 in
theorem ggX8_rule_X1_has : GoodIn wsX8_rule wsX1_has := goodIn_r _ [11, 12, 40, 41, 42, 43, 44, 45, 46, 47, 48, 49] (by decide +kernel) (by decide +kernel)
set_option maxRecDepth 20000 in
theorem gX8_rule_X1_has_n192 : GoodIn wsX8_rule (wsX1_has) := ggX8_rule_X1_has
set_option maxRecDepth 20000 in
theorem ggX8_rule_X1_addRuling : GoodIn wsX8_rule wsX1_addRuling := goodIn_ca (goodIn_r _ [15, 16, 17, 18, 19, 20, 40, 41, 42, 43, 44, 45, 46, 47, 48, 49] (by decide +kernel) (by decide +kernel)) (goodIn_sub (fun _ h => List.mem_cons_of_mem _ (List.mem_append_right _ h)) (by decide +kernel))
set_option maxRecDepth 20000 in
theorem gX8_rule_X1_addRuling_n212 : GoodIn wsX8_rule (wsX1_addRuling) := ggX8_rule_X1_addRuling
set_option maxRecDepth 20000 in
theorem ggX8_earned_X2_has : GoodIn wsX8_earned wsX2_has := goodIn_r _ [8, 9, 35, 36, 37, 38, 39, 40, 41, 42] (by decide +kernel) (by decide +kernel)
set_option maxRecDepth 20000 in
theorem gX8_earned_X2_has_n149 : GoodIn wsX8_earned (wsX2_has) := ggX8_earned_X2_has
set_option maxRecDepth 20000 in
theorem ggX8_earned_X1_sumOf : GoodIn wsX8_earned wsX1_sumOf := goodIn_ca (goodIn_r _ [13, 14, 15, 16, 17, 18, 19, 11, 20, 21, 22, 23, 24, 25, 26, 43, 44, 45, 46, 47, 48, 49, 50, 51, 52] (by decide +kernel) (by decide +kernel)) (goodIn_sub (fun _ h => List.mem_cons_of_mem _ (List.mem_append_right _ h)) (by decide +kernel))
set_option maxRecDepth 20000 in
theorem gX8_earned_X1_sumOf_n216 : GoodIn wsX8_earned (wsX1_sumOf) := ggX8_earned_X1_sumOf
set_option maxRecDepth 20000 in
theorem ggX8_want_X3_add : GoodIn wsX8_want wsX3_add := goodIn_ca (goodIn_r _ [7, 8, 9, 10, 11, 12, 13, 14, 15, 24, 25, 26, 27, 28, 29] (by decide +kernel) (by decide +kernel)) (goodIn_sub (fun _ h => List.mem_cons_of_mem _ (List.mem_append_right _ h)) (by decide +kernel))
set_option maxRecDepth 20000 in
theorem gX8_want_X3_add_n222 : GoodIn wsX8_want (wsX3_add) := ggX8_want_X3_add
set_option maxRecDepth 20000 in
theorem ggX8_unwant_X3_clear : GoodIn wsX8_unwant wsX3_clear := goodIn_r _ [5, 6, 7, 8, 9, 10, 11, 12, 21, 22, 23, 24, 25, 26] (by decide +kernel) (by decide +kernel)
set_option maxRecDepth 20000 in
theorem gX8_unwant_X3_clear_n224 : GoodIn wsX8_unwant (wsX3_clear) := ggX8_unwant_X3_clear
set_option maxRecDepth 20000 in
theorem ggX8_plan_X3_leastWaiting : GoodIn wsX8_plan wsX3_leastWaiting := goodIn_ca (goodIn_r _ [7, 8, 9, 10, 11, 5, 12, 13, 14, 15, 16, 17, 18, 19, 20, 21, 22, 23, 24, 25, 26, 27, 28, 29, 30, 31, 32, 33, 34, 35, 36, 37, 38, 39, 40, 41, 42, 43, 44, 45, 46, 47, 48, 49, 58, 59, 60, 61, 62, 63, 64, 65, 66, 67, 68, 69, 70, 71, 72, 73] (by decide +kernel) (by decide +kernel)) (goodIn_sub (fun _ h => List.mem_cons_of_mem _ (List.mem_append_right _ h)) (by decide +kernel))
set_option maxRecDepth 20000 in
theorem gX8_plan_X3_leastWaiting_n230 : GoodIn wsX8_plan (wsX3_leastWaiting) := ggX8_plan_X3_leastWaiting
set_option maxRecDepth 20000 in
theorem ggX8_count_X6_tonsLeft : GoodIn wsX8_count wsX6_tonsLeft := goodIn_ca (goodIn_r _ [8, 9, 10, 11, 12, 6, 13, 14, 15, 16, 17, 18, 35, 36, 37, 38, 39, 40, 41, 42, 43, 44] (by decide +kernel) (by decide +kernel)) (goodIn_sub (fun _ h => List.mem_cons_of_mem _ (List.mem_append_right _ h)) (by decide +kernel))
set_option maxRecDepth 20000 in
theorem gX8_count_X6_tonsLeft_n234 : GoodIn wsX8_count (wsX6_tonsLeft) := ggX8_count_X6_tonsLeft
set_option maxRecDepth 20000 in
theorem ggX9_noMan_X9_in : GoodIn wsX9_noMan wsX9_in := goodIn_r _ [5] (by decide +kernel) (by decide +kernel)
set_option maxRecDepth 20000 in
theorem gX9_noMan_X9_in : GoodIn wsX9_noMan (va_wsS RX9 115 yX9_in wsX9_in) := goodIn_app (goodIn_of _ (by decide +kernel)) ggX9_noMan_X9_in
set_option maxRecDepth 20000 in
theorem ggX9_noShip_X9_in : GoodIn wsX9_noShip wsX9_in := goodIn_r _ [5] (by decide +kernel) (by decide +kernel)
set_option maxRecDepth 20000 in
theorem gX9_noShip_X9_in : GoodIn wsX9_noShip (va_wsS RX9 115 yX9_in wsX9_in) := goodIn_app (goodIn_of _ (by decide +kernel)) ggX9_noShip_X9_in
set_option maxRecDepth 20000 in
theorem ggX9_man_X9_in : GoodIn wsX9_man wsX9_in := goodIn_r _ [11] (by decide +kernel) (by decide +kernel)
set_option maxRecDepth 20000 in
theorem gX9_man_X9_in : GoodIn wsX9_man (va_wsS RX9 115 yX9_in wsX9_in) := goodIn_app (goodIn_of _ (by decide +kernel)) ggX9_man_X9_in
set_option maxRecDepth 20000 in
theorem ggX9_man_X9_throwsIf : GoodIn wsX9_man wsX9_throwsIf := goodIn_r _ [15, 1, 16, 17, 18, 19, 20, 21, 22, 23, 24, 25, 26, 27, 28, 29, 30, 31, 32, 33, 34, 35, 36, 37, 38, 39, 40, 41, 42, 43, 44, 45, 46, 47, 48, 49, 50, 51, 52, 53, 54, 55, 56, 57, 58, 59, 60, 61, 62] (by decide +kernel) (by decide +kernel)
set_option maxRecDepth 20000 in
theorem gX9_man_X9_throwsIf : GoodIn wsX9_man (wsV RX9 124 RX9 yX9_throwsIf wsX9_throwsIf) := goodIn_app (goodIn_of _ (by decide +kernel)) ggX9_man_X9_throwsIf
set_option maxRecDepth 20000 in
theorem ggX9_ship_X9_throwsIf : GoodIn wsX9_ship wsX9_throwsIf := goodIn_r _ [9, 1, 10, 11, 12, 13, 14, 15, 16, 17, 18, 19, 20, 21, 22, 23, 24, 25, 26, 27, 28, 29, 30, 31, 32, 33, 34, 35, 36, 37, 38, 39, 40, 41, 42, 43, 44, 45, 46, 47, 48, 49, 50, 51, 52, 53, 54, 55, 56] (by decide +kernel) (by decide +kernel)
set_option maxRecDepth 20000 in
theorem gX9_ship_X9_throwsIf : GoodIn wsX9_ship (wsV RX9 124 RX9 yX9_throwsIf wsX9_throwsIf) := goodIn_app (goodIn_of _ (by decide +kernel)) ggX9_ship_X9_throwsIf
set_option maxRecDepth 20000 in
theorem ggX9_hatch_X9_noShip : GoodIn wsX9_hatch wsX9_noShip := goodIn_r _ [12, 13, 14, 15, 11, 16, 21, 22, 23, 24, 25, 26, 27, 28, 29, 30, 31, 32, 33, 34, 35, 36, 37, 38, 39, 40, 41, 42, 43, 44, 45, 46, 47, 48, 49, 50, 51, 52, 53, 54, 55, 56, 57, 58, 59, 60, 61, 62, 63, 64, 65, 66, 67] (by decide +kernel) (by decide +kernel)
set_option maxRecDepth 20000 in
theorem gX9_hatch_X9_noShip : GoodIn wsX9_hatch (wsV RX9 131 RX9 yX9_noShip wsX9_noShip) := goodIn_app (goodIn_of _ (by decide +kernel)) ggX9_hatch_X9_noShip
set_option maxRecDepth 20000 in
theorem ggX9_hatch_X9_throwsIf : GoodIn wsX9_hatch wsX9_throwsIf := goodIn_r _ [20, 1, 21, 22, 23, 24, 25, 26, 27, 28, 29, 30, 31, 32, 33, 34, 35, 36, 37, 38, 39, 40, 41, 42, 43, 44, 45, 46, 47, 48, 49, 50, 51, 52, 53, 54, 55, 56, 57, 58, 59, 60, 61, 62, 63, 64, 65, 66, 67] (by decide +kernel) (by decide +kernel)
set_option maxRecDepth 20000 in
theorem gX9_hatch_X9_throwsIf : GoodIn wsX9_hatch (wsV RX9 124 RX9 yX9_throwsIf wsX9_throwsIf) := goodIn_app (goodIn_of _ (by decide +kernel)) ggX9_hatch_X9_throwsIf
set_option maxRecDepth 20000 in
theorem ggX9_hatch_X9_in : GoodIn wsX9_hatch wsX9_in := goodIn_r _ [16] (by decide +kernel) (by decide +kernel)
set_option maxRecDepth 20000 in
theorem gX9_hatch_X9_in : GoodIn wsX9_hatch (va_wsS RX9 115 yX9_in wsX9_in) := goodIn_app (goodIn_of _ (by decide +kernel)) ggX9_hatch_X9_in
set_option maxRecDepth 20000 in
theorem ggX9_blanks_X9_isAt : GoodIn wsX9_blanks wsX9_isAt := goodIn_ca (goodIn_r _ [7, 1, 8, 9, 10, 11, 12, 13, 14, 15, 16, 17, 18, 19, 20, 21, 22, 23, 24, 25, 26, 27, 28, 29, 30, 31, 32, 33, 34, 35, 36, 37, 38, 39, 40, 41, 42, 43, 44, 45, 46, 47, 48, 49, 50, 51, 52, 53, 54, 55, 56] (by decide +kernel) (by decide +kernel)) (goodIn_sub (fun _ h => List.mem_cons_of_mem _ (List.mem_append_right _ h)) (by decide +kernel))
set_option maxRecDepth 20000 in
theorem gX9_blanks_X9_isAt : GoodIn wsX9_blanks (wsV RX9 148 RX9 yX9_isAt wsX9_isAt) := goodIn_app (goodIn_of _ (by decide +kernel)) ggX9_blanks_X9_isAt
set_option maxRecDepth 20000 in
theorem ggX9_isWord_J0_length_8abf5 : GoodIn wsX9_isWord wsJ0_length_8abf5 := goodIn_r _ [8, 9, 10, 11, 12, 7, 13, 14, 15, 100, 101, 102, 103] (by decide +kernel) (by decide +kernel)
set_option maxRecDepth 20000 in
theorem gX9_isWord_J0_length_8abf5 : GoodIn wsX9_isWord (wsV RX9 155 RJ0 yJ0_length_8abf5 wsJ0_length_8abf5) := goodIn_app (goodIn_of _ (by decide +kernel)) ggX9_isWord_J0_length_8abf5
set_option maxRecDepth 20000 in
theorem ggX9_isWord_J0_charAt_5068e : GoodIn wsX9_isWord wsJ0_charAt_5068e := goodIn_r _ [19, 9, 20, 21, 22, 7, 23, 14, 15, 24, 25, 26, 27, 28, 29, 30, 31, 32, 33, 34, 35, 36, 37, 38, 39, 40, 41, 42, 43, 44, 45, 46, 47, 48, 49, 50, 51, 52, 100, 101, 102, 103] (by decide +kernel) (by decide +kernel)
set_option maxRecDepth 20000 in
theorem gX9_isWord_J0_charAt_5068e : GoodIn wsX9_isWord (wsV RX9 161 RJ0 yJ0_charAt_5068e wsJ0_charAt_5068e) := goodIn_app (goodIn_of _ (by decide +kernel)) ggX9_isWord_J0_charAt_5068e
set_option maxRecDepth 20000 in
theorem ggX9_readWord_X9_blanks : GoodIn wsX9_readWord wsX9_blanks := goodIn_ca (goodIn_r _ [6, 1, 7, 8, 9, 10, 5, 11, 12, 13, 70, 71, 72, 73, 74, 75, 76, 77, 78, 79, 80, 81, 82, 83, 84, 85, 86, 87, 88, 89, 90, 91, 92, 93, 94, 95, 96, 97, 98, 99, 100, 101, 102, 103, 104, 105, 106, 107, 108, 109, 110, 111, 112, 113, 114, 115, 116] (by decide +kernel) (by decide +kernel)) (goodIn_sub (fun _ h => List.mem_cons_of_mem _ (List.mem_append_right _ h)) (by decide +kernel))
set_option maxRecDepth 20000 in
theorem gX9_readWord_X9_blanks : GoodIn wsX9_readWord (wsV RX9 185 RX9 yX9_blanks wsX9_blanks) := goodIn_app (goodIn_of _ (by decide +kernel)) ggX9_readWord_X9_blanks
set_option maxRecDepth 20000 in
theorem ggX9_readWord_X9_isAt : GoodIn wsX9_readWord wsX9_isAt := goodIn_ca (goodIn_r _ [11, 1, 12, 13, 70, 71, 72, 73, 74, 75, 76, 77, 78, 79, 80, 81, 82, 83, 84, 85, 86, 87, 88, 89, 90, 91, 92, 93, 94, 95, 96, 97, 98, 99, 100, 101, 102, 103, 104, 105, 106, 107, 108, 109, 110, 111, 112, 113, 114, 115, 116] (by decide +kernel) (by decide +kernel)) (goodIn_sub (fun _ h => List.mem_cons_of_mem _ (List.mem_append_right _ h)) (by decide +kernel))
set_option maxRecDepth 20000 in
theorem gX9_readWord_X9_isAt : GoodIn wsX9_readWord (wsV RX9 148 RX9 yX9_isAt wsX9_isAt) := goodIn_app (goodIn_of _ (by decide +kernel)) ggX9_readWord_X9_isAt
set_option maxRecDepth 20000 in
theorem ggX9_readWord_X9_word : GoodIn wsX9_readWord wsX9_word := goodIn_r _ [16] (by decide +kernel) (by decide +kernel)
set_option maxRecDepth 20000 in
theorem gX9_readWord_X9_word : GoodIn wsX9_readWord (va_wsS RX9 188 yX9_word wsX9_word) := goodIn_app (goodIn_of _ (by decide +kernel)) ggX9_readWord_X9_word
set_option maxRecDepth 20000 in
theorem ggX9_readWord_X9_isWord : GoodIn wsX9_readWord wsX9_isWord := goodIn_ca (goodIn_r _ [20, 1, 7, 13, 21, 22, 23, 24, 25, 26, 27, 28, 29, 30, 31, 32, 33, 34, 35, 36, 37, 38, 39, 40, 41, 42, 43, 44, 45, 46, 47, 48, 49, 50, 51, 52, 53, 54, 55, 56, 57, 58, 59, 60, 61, 62, 63, 64, 65, 66, 67, 68, 69, 70, 71, 72, 73, 74, 75, 76, 77, 78, 79, 80, 81, 82, 83, 84, 85, 86, 87, 88, 89, 90, 91, 92, 93, 94, 95, 96, 97, 98, 99, 100, 101, 102, 103, 104, 105, 106, 107, 108, 109, 110, 111, 112, 113, 114, 115, 116, 117, 118, 119, 120] (by decide +kernel) (by decide +kernel)) (goodIn_sub (fun _ h => List.mem_cons_of_mem _ (List.mem_append_right _ h)) (by decide +kernel))
set_option maxRecDepth 20000 in
theorem gX9_readWord_X9_isWord : GoodIn wsX9_readWord (wsV RX9 192 RX9 yX9_isWord wsX9_isWord) := goodIn_app (goodIn_of _ (by decide +kernel)) ggX9_readWord_X9_isWord
set_option maxRecDepth 20000 in
theorem ggX9_readNumber_X9_blanks : GoodIn wsX9_readNumber wsX9_blanks := goodIn_ca (goodIn_r _ [8, 1, 2, 9, 10, 11, 7, 12, 13, 3, 14, 15, 16, 17, 18, 19, 20, 21, 22, 23, 24, 25, 26, 27, 28, 29, 30, 31, 32, 33, 34, 35, 36, 37, 38, 39, 40, 41, 42, 43, 44, 45, 46, 47, 48, 49, 50, 51, 52, 53, 54, 55, 56, 57, 58, 59, 60] (by decide +kernel) (by decide +kernel)) (goodIn_sub (fun _ h => List.mem_cons_of_mem _ (List.mem_append_right _ h)) (by decide +kernel))
set_option maxRecDepth 20000 in
theorem gX9_readNumber_X9_blanks : GoodIn wsX9_readNumber (wsV RX9 185 RX9 yX9_blanks wsX9_blanks) := goodIn_app (goodIn_of _ (by decide +kernel)) ggX9_readNumber_X9_blanks
set_option maxRecDepth 20000 in
theorem ggX9_readNumber_X9_isAt : GoodIn wsX9_readNumber wsX9_isAt := goodIn_ca (goodIn_r _ [12, 1, 13, 3, 14, 15, 16, 17, 18, 19, 20, 21, 22, 23, 24, 25, 26, 27, 28, 29, 30, 31, 32, 33, 34, 35, 36, 37, 38, 39, 40, 41, 42, 43, 44, 45, 46, 47, 48, 49, 50, 51, 52, 53, 54, 55, 56, 57, 58, 59, 60] (by decide +kernel) (by decide +kernel)) (goodIn_sub (fun _ h => List.mem_cons_of_mem _ (List.mem_append_right _ h)) (by decide +kernel))
set_option maxRecDepth 20000 in
theorem gX9_readNumber_X9_isAt : GoodIn wsX9_readNumber (wsV RX9 148 RX9 yX9_isAt wsX9_isAt) := goodIn_app (goodIn_of _ (by decide +kernel)) ggX9_readNumber_X9_isAt
set_option maxRecDepth 20000 in
theorem ggX9_sets_X9_readNumber : GoodIn wsX9_sets wsX9_readNumber := goodIn_ca (goodIn_r _ [6, 7, 8, 9, 10, 11, 12, 5, 13, 14, 15, 16, 17, 18, 19, 20, 21, 22, 23, 24, 25, 26, 27, 28, 29, 30, 31, 32, 33, 34, 35, 36, 37, 38, 39, 40, 41, 42, 43, 44, 45, 46, 47, 48, 49, 50, 51, 52, 53, 54, 55, 56, 57, 58, 59, 60, 61, 62, 63, 64, 65] (by decide +kernel) (by decide +kernel)) (goodIn_sub (fun _ h => List.mem_cons_of_mem _ (List.mem_append_right _ h)) (by decide +kernel))
set_option maxRecDepth 20000 in
theorem gX9_sets_X9_readNumber : GoodIn wsX9_sets (wsV RX9 196 RX9 yX9_readNumber wsX9_readNumber) := goodIn_app (goodIn_of _ (by decide +kernel)) ggX9_sets_X9_readNumber
set_option maxRecDepth 20000 in
theorem ggX9_readClause_X9_readWord : GoodIn wsX9_readClause wsX9_readWord := goodIn_ca (goodIn_r _ [6, 7, 8, 9, 10, 5, 11, 12, 13, 14, 15, 16, 17, 18, 19, 20, 21, 22, 23, 24, 25, 26, 27, 28, 29, 30, 31, 32, 33, 34, 35, 36, 37, 38, 39, 40, 41, 42, 43, 44, 45, 46, 47, 48, 49, 50, 51, 52, 53, 54, 55, 56, 57, 58, 59, 60, 61, 62, 63, 64, 65, 66, 67, 68, 69, 70, 71, 72, 73, 74, 83, 84, 85, 86, 87, 88, 89, 90, 91, 92, 93, 94, 95, 96, 97, 98, 99, 100, 101, 102, 103, 104, 105, 106, 107, 108, 109, 110, 111, 112, 113, 114, 115, 116, 117, 118, 119, 120, 121, 122, 123, 124, 125, 126, 127, 128, 129, 130, 131, 132, 133] (by decide +kernel) (by decide +kernel)) (goodIn_sub (fun _ h => List.mem_cons_of_mem _ (List.mem_append_right _ h)) (by decide +kernel))
set_option maxRecDepth 20000 in
theorem gX9_readClause_X9_readWord : GoodIn wsX9_readClause (wsV RX9 200 RX9 yX9_readWord wsX9_readWord) := goodIn_app (goodIn_of _ (by decide +kernel)) ggX9_readClause_X9_readWord
set_option maxRecDepth 20000 in
theorem ggX9_readClause_X9_sets : GoodIn wsX9_readClause wsX9_sets := goodIn_ca (goodIn_r _ [78, 1, 79, 80, 81, 5, 82, 7, 12, 18, 8, 9, 10, 11, 13, 14, 15, 16, 17, 83, 84, 85, 86, 87, 88, 89, 90, 91, 92, 93, 94, 95, 96, 97, 98, 99, 100, 101, 102, 103, 104, 105, 106, 107, 108, 109, 110, 111, 112, 113, 114, 115, 116, 117, 118, 119, 120, 121, 122, 123, 124, 125, 126, 127, 128, 129] (by decide +kernel) (by decide +kernel)) (goodIn_sub (fun _ h => List.mem_cons_of_mem _ (List.mem_append_right _ h)) (by decide +kernel))
set_option maxRecDepth 20000 in
theorem gX9_readClause_X9_sets : GoodIn wsX9_readClause (wsV RX9 203 RX9 yX9_sets wsX9_sets) := goodIn_app (goodIn_of _ (by decide +kernel)) ggX9_readClause_X9_sets
set_option maxRecDepth 20000 in
theorem ggX9_readClause_X9_readNumber : GoodIn wsX9_readClause wsX9_readNumber := goodIn_ca (goodIn_r _ [82, 7, 12, 18, 8, 9, 10, 5, 11, 13, 14, 15, 16, 17, 83, 84, 85, 86, 87, 88, 89, 90, 91, 92, 93, 94, 95, 96, 97, 98, 99, 100, 101, 102, 103, 104, 105, 106, 107, 108, 109, 110, 111, 112, 113, 114, 115, 116, 117, 118, 119, 120, 121, 122, 123, 124, 125, 126, 127, 128, 129] (by decide +kernel) (by decide +kernel)) (goodIn_sub (fun _ h => List.mem_cons_of_mem _ (List.mem_append_right _ h)) (by decide +kernel))
set_option maxRecDepth 20000 in
theorem gX9_readClause_X9_readNumber : GoodIn wsX9_readClause (wsV RX9 196 RX9 yX9_readNumber wsX9_readNumber) := goodIn_app (goodIn_of _ (by decide +kernel)) ggX9_readClause_X9_readNumber
set_option maxRecDepth 20000 in
theorem ggX9_agree_X9_readClause : GoodIn wsX9_agree wsX9_readClause := goodIn_ca (goodIn_r _ [13, 5, 14, 15, 16, 12, 17, 4, 18, 19, 20, 21, 7, 22, 23, 24, 25, 3, 26, 27, 28, 29, 30, 31, 32, 33, 34, 35, 36, 37, 38, 39, 40, 41, 42, 43, 44, 45, 46, 47, 48, 49, 50, 51, 52, 53, 54, 55, 56, 57, 58, 59, 60, 61, 62, 63, 64, 65, 66, 67, 68, 69, 70, 71, 72, 73, 74, 75, 76, 77, 78, 79, 80, 81, 82, 83, 84, 85, 86, 87, 88, 89, 90, 95, 96, 97, 98, 99, 100, 101, 102, 103, 104, 105, 106, 107, 108, 109, 110, 111, 112, 113, 114, 115, 116, 117, 118, 119, 120, 121, 122, 123, 124, 125, 126, 127, 128, 129, 130, 131, 132, 133, 134, 135, 136, 137, 138, 139, 140, 141, 142, 143, 144, 145] (by decide +kernel) (by decide +kernel)) (goodIn_sub (fun _ h => List.mem_cons_of_mem _ (List.mem_append_right _ h)) (by decide +kernel))
set_option maxRecDepth 20000 in
theorem gX9_agree_X9_readClause : GoodIn wsX9_agree (wsV RX9 207 RX9 yX9_readClause wsX9_readClause) := goodIn_app (goodIn_of _ (by decide +kernel)) ggX9_agree_X9_readClause
set_option maxRecDepth 20000 in
theorem ggX9_agree_X9_blanks : GoodIn wsX9_agree wsX9_blanks := goodIn_ca (goodIn_r _ [21, 4, 7, 22, 23, 24, 12, 25, 3, 26, 95, 96, 97, 98, 99, 100, 101, 102, 103, 104, 105, 106, 107, 108, 109, 110, 111, 112, 113, 114, 115, 116, 117, 118, 119, 120, 121, 122, 123, 124, 125, 126, 127, 128, 129, 130, 131, 132, 133, 134, 135, 136, 137, 138, 139, 140, 141] (by decide +kernel) (by decide +kernel)) (goodIn_sub (fun _ h => List.mem_cons_of_mem _ (List.mem_append_right _ h)) (by decide +kernel))
set_option maxRecDepth 20000 in
theorem gX9_agree_X9_blanks : GoodIn wsX9_agree (wsV RX9 185 RX9 yX9_blanks wsX9_blanks) := goodIn_app (goodIn_of _ (by decide +kernel)) ggX9_agree_X9_blanks
set_option maxRecDepth 20000 in
theorem ggX9_agree_X9_isAt : GoodIn wsX9_agree wsX9_isAt := goodIn_ca (goodIn_r _ [25, 4, 3, 26, 95, 96, 97, 98, 99, 100, 101, 102, 103, 104, 105, 106, 107, 108, 109, 110, 111, 112, 113, 114, 115, 116, 117, 118, 119, 120, 121, 122, 123, 124, 125, 126, 127, 128, 129, 130, 131, 132, 133, 134, 135, 136, 137, 138, 139, 140, 141] (by decide +kernel) (by decide +kernel)) (goodIn_sub (fun _ h => List.mem_cons_of_mem _ (List.mem_append_right _ h)) (by decide +kernel))
set_option maxRecDepth 20000 in
theorem gX9_agree_X9_isAt : GoodIn wsX9_agree (wsV RX9 148 RX9 yX9_isAt wsX9_isAt) := goodIn_app (goodIn_of _ (by decide +kernel)) ggX9_agree_X9_isAt
set_option maxRecDepth 20000 in
theorem ggX9_agree_X9_throwsIf : GoodIn wsX9_agree wsX9_throwsIf := goodIn_r _ [94, 1, 95, 96, 97, 98, 99, 100, 101, 102, 103, 104, 105, 106, 107, 108, 109, 110, 111, 112, 113, 114, 115, 116, 117, 118, 119, 120, 121, 122, 123, 124, 125, 126, 127, 128, 129, 130, 131, 132, 133, 134, 135, 136, 137, 138, 139, 140, 141] (by decide +kernel) (by decide +kernel)
set_option maxRecDepth 20000 in
theorem gX9_agree_X9_throwsIf : GoodIn wsX9_agree (wsV RX9 124 RX9 yX9_throwsIf wsX9_throwsIf) := goodIn_app (goodIn_of _ (by decide +kernel)) ggX9_agree_X9_throwsIf
set_option maxRecDepth 20000 in
theorem ggX9_says_X9_in : GoodIn wsX9_says wsX9_in := goodIn_r _ [7] (by decide +kernel) (by decide +kernel)
set_option maxRecDepth 20000 in
theorem gX9_says_X9_in : GoodIn wsX9_says (va_wsS RX9 115 yX9_in wsX9_in) := goodIn_app (goodIn_of _ (by decide +kernel)) ggX9_says_X9_in
set_option maxRecDepth 20000 in
theorem ggX9_says_X9_throwsIf : GoodIn wsX9_says wsX9_throwsIf := goodIn_r _ [11, 1, 12, 13, 14, 15, 16, 17, 18, 19, 20, 21, 22, 23, 24, 25, 26, 27, 28, 29, 30, 31, 32, 33, 34, 35, 36, 37, 38, 39, 40, 41, 42, 43, 44, 45, 46, 47, 48, 49, 50, 51, 52, 53, 54, 55, 56, 57, 58] (by decide +kernel) (by decide +kernel)
set_option maxRecDepth 20000 in
theorem gX9_says_X9_throwsIf : GoodIn wsX9_says (wsV RX9 124 RX9 yX9_throwsIf wsX9_throwsIf) := goodIn_app (goodIn_of _ (by decide +kernel)) ggX9_says_X9_throwsIf
set_option maxRecDepth 20000 in
theorem ggX9_nextShip_X9_isAhead : GoodIn wsX9_nextShip wsX9_isAhead := goodIn_ca (goodIn_r _ [8, 9, 10, 3, 11, 12, 13, 14, 15, 16, 17, 18, 19, 20, 21, 22, 23, 24, 25, 26, 27, 28, 29, 30, 31, 32, 33, 34, 35, 36, 37, 38, 39, 40, 41, 42, 43, 44, 45, 46, 47, 48, 49, 50, 51, 52, 53, 54, 55, 56, 57] (by decide +kernel) (by decide +kernel)) (goodIn_sub (fun _ h => List.mem_cons_of_mem _ (List.mem_append_right _ h)) (by decide +kernel))
set_option maxRecDepth 20000 in
theorem gX9_nextShip_X9_isAhead : GoodIn wsX9_nextShip (wsV RX9 213 RX9 yX9_isAhead wsX9_isAhead) := goodIn_app (goodIn_of _ (by decide +kernel)) ggX9_nextShip_X9_isAhead
set_option maxRecDepth 20000 in
theorem ggX9_gathers_X9_nextMan : GoodIn wsX9_gathers wsX9_nextMan := goodIn_ca (goodIn_r _ [12, 1, 13, 4, 5, 14, 2, 15, 16, 17, 18, 19, 20, 21, 22, 23, 24, 25, 26, 27, 28, 29, 30, 31, 32, 33, 34, 35, 36, 37, 38, 39, 40, 41, 42, 43, 44, 45, 46, 47, 48, 49, 50, 51, 52, 53, 54, 55, 56, 57, 58, 59, 60, 61, 62] (by decide +kernel) (by decide +kernel)) (goodIn_sub (fun _ h => List.mem_cons_of_mem _ (List.mem_append_right _ h)) (by decide +kernel))
set_option maxRecDepth 20000 in
theorem gX9_gathers_X9_nextMan : GoodIn wsX9_gathers (wsV RX9 216 RX9 yX9_nextMan wsX9_nextMan) := goodIn_app (goodIn_of _ (by decide +kernel)) ggX9_gathers_X9_nextMan
set_option maxRecDepth 20000 in
theorem ggX9_works_X9_writes : GoodIn wsX9_works wsX9_writes := goodIn_ca (goodIn_r _ [22, 23, 24, 25, 26, 27, 28, 29, 30, 31, 32, 33, 34, 35, 36, 37, 38, 39, 40, 41, 42, 43, 44, 45, 46, 47, 48, 49, 50, 51, 52, 53, 54, 55, 56, 57, 58, 59, 60, 61, 62, 63, 64, 65, 66, 67, 68, 69, 70, 71, 72, 73, 74, 75] (by decide +kernel) (by decide +kernel)) (goodIn_sub (fun _ h => List.mem_cons_of_mem _ (List.mem_append_right _ h)) (by decide +kernel))
set_option maxRecDepth 20000 in
theorem gX9_works_X9_writes : GoodIn wsX9_works (wsV RX9 238 RX9 yX9_writes wsX9_writes) := goodIn_app (goodIn_of _ (by decide +kernel)) ggX9_works_X9_writes
set_option maxRecDepth 20000 in
theorem ggX9_call_X9_in : GoodIn wsX9_call wsX9_in := goodIn_r _ [23] (by decide +kernel) (by decide +kernel)
set_option maxRecDepth 20000 in
theorem gX9_call_X9_in : GoodIn wsX9_call (va_wsS RX9 115 yX9_in wsX9_in) := goodIn_app (goodIn_of _ (by decide +kernel)) ggX9_call_X9_in
set_option maxRecDepth 20000 in
theorem ggX9_call_X9_throwsIf : GoodIn wsX9_call wsX9_throwsIf := goodIn_r _ [27, 1, 76, 77, 78, 79, 80, 81, 82, 83, 84, 85, 86, 87, 88, 89, 90, 91, 92, 93, 94, 95, 96, 97, 98, 99, 100, 101, 102, 103, 104, 105, 106, 107, 108, 109, 110, 111, 112, 113, 114, 115, 116, 117, 118, 119, 120, 121, 122] (by decide +kernel) (by decide +kernel)
set_option maxRecDepth 20000 in
theorem gX9_call_X9_throwsIf : GoodIn wsX9_call (wsV RX9 124 RX9 yX9_throwsIf wsX9_throwsIf) := goodIn_app (goodIn_of _ (by decide +kernel)) ggX9_call_X9_throwsIf
set_option maxRecDepth 20000 in
theorem ggX9_call_X9_tonsOf : GoodIn wsX9_call wsX9_tonsOf := goodIn_ca (goodIn_r _ [31, 13, 15, 76, 77, 78, 79, 80, 81, 82, 83, 84, 85, 86, 87, 88, 89, 90, 91, 92, 93, 94, 95, 96, 97, 98, 99, 100, 101, 102, 103, 104, 105, 106, 107, 108, 109, 110, 111, 112, 113, 114, 115, 116, 117, 118, 119, 120, 121, 122] (by decide +kernel) (by decide +kernel)) (goodIn_sub (fun _ h => List.mem_cons_of_mem _ (List.mem_append_right _ h)) (by decide +kernel))
set_option maxRecDepth 20000 in
theorem gX9_call_X9_tonsOf : GoodIn wsX9_call (wsV RX9 242 RX9 yX9_tonsOf wsX9_tonsOf) := goodIn_app (goodIn_of _ (by decide +kernel)) ggX9_call_X9_tonsOf
set_option maxRecDepth 20000 in
theorem ggX9_call_X9_nextShip : GoodIn wsX9_call wsX9_nextShip := goodIn_ca (goodIn_r _ [35, 9, 10, 11, 36, 37, 38, 22, 39, 14, 40, 76, 77, 78, 79, 80, 81, 82, 83, 84, 85, 86, 87, 88, 89, 90, 91, 92, 93, 94, 95, 96, 97, 98, 99, 100, 101, 102, 103, 104, 105, 106, 107, 108, 109, 110, 111, 112, 113, 114, 115, 116, 117, 118, 119, 120, 121, 122] (by decide +kernel) (by decide +kernel)) (goodIn_sub (fun _ h => List.mem_cons_of_mem _ (List.mem_append_right _ h)) (by decide +kernel))
set_option maxRecDepth 20000 in
theorem gX9_call_X9_nextShip : GoodIn wsX9_call (wsV RX9 248 RX9 yX9_nextShip wsX9_nextShip) := goodIn_app (goodIn_of _ (by decide +kernel)) ggX9_call_X9_nextShip
set_option maxRecDepth 20000 in
theorem ggX9_call_X9_gathers : GoodIn wsX9_call wsX9_gathers := goodIn_ca (goodIn_r _ [44, 3, 45, 14, 46, 19, 47, 48, 49, 50, 51, 22, 52, 53, 4, 7, 76, 77, 78, 79, 80, 81, 82, 83, 84, 85, 86, 87, 88, 89, 90, 91, 92, 93, 94, 95, 96, 97, 98, 99, 100, 101, 102, 103, 104, 105, 106, 107, 108, 109, 110, 111, 112, 113, 114, 115, 116, 117, 118, 119, 120, 121, 122] (by decide +kernel) (by decide +kernel)) (goodIn_sub (fun _ h => List.mem_cons_of_mem _ (List.mem_append_right _ h)) (by decide +kernel))
set_option maxRecDepth 20000 in
theorem gX9_call_X9_gathers : GoodIn wsX9_call (wsV RX9 251 RX9 yX9_gathers wsX9_gathers) := goodIn_app (goodIn_of _ (by decide +kernel)) ggX9_call_X9_gathers
set_option maxRecDepth 20000 in
theorem ggX9_call_X9_works : GoodIn wsX9_call wsX9_works := goodIn_ca (goodIn_r _ [57, 15, 58, 14, 16, 59, 60, 61, 62, 63, 64, 65, 66, 48, 4, 5, 6, 8, 67, 68, 69, 22, 70, 71, 72, 73, 19, 74, 75, 76, 77, 78, 79, 80, 81, 82, 83, 84, 85, 86, 87, 88, 89, 90, 91, 92, 93, 94, 95, 96, 97, 98, 99, 100, 101, 102, 103, 104, 105, 106, 107, 108, 109, 110, 111, 112, 113, 114, 115, 116, 117, 118, 119, 120, 121, 122] (by decide +kernel) (by decide +kernel)) (goodIn_sub (fun _ h => List.mem_cons_of_mem _ (List.mem_append_right _ h)) (by decide +kernel))
set_option maxRecDepth 20000 in
theorem gX9_call_X9_works : GoodIn wsX9_call (wsV RX9 254 RX9 yX9_works wsX9_works) := goodIn_app (goodIn_of _ (by decide +kernel)) ggX9_call_X9_works
set_option maxRecDepth 20000 in
theorem ggX9_look_X9_noMan : GoodIn wsX9_look wsX9_noMan := goodIn_r _ [13, 14, 15, 16, 12, 17, 22, 23, 24, 25, 26, 27, 28, 29, 30, 31, 32, 33, 34, 35, 36, 37, 38, 39, 40, 41, 42, 43, 44, 45, 46, 47, 48, 49, 50, 51, 52, 53, 54, 55, 56, 57, 58, 59, 60, 61, 62, 63, 64, 65, 66, 67, 68] (by decide +kernel) (by decide +kernel)
set_option maxRecDepth 20000 in
theorem gX9_look_X9_noMan : GoodIn wsX9_look (wsV RX9 261 RX9 yX9_noMan wsX9_noMan) := goodIn_app (goodIn_of _ (by decide +kernel)) ggX9_look_X9_noMan
set_option maxRecDepth 20000 in
theorem ggX9_look_X9_throwsIf : GoodIn wsX9_look wsX9_throwsIf := goodIn_r _ [21, 1, 22, 23, 24, 25, 26, 27, 28, 29, 30, 31, 32, 33, 34, 35, 36, 37, 38, 39, 40, 41, 42, 43, 44, 45, 46, 47, 48, 49, 50, 51, 52, 53, 54, 55, 56, 57, 58, 59, 60, 61, 62, 63, 64, 65, 66, 67, 68] (by decide +kernel) (by decide +kernel)
set_option maxRecDepth 20000 in
theorem gX9_look_X9_throwsIf : GoodIn wsX9_look (wsV RX9 124 RX9 yX9_throwsIf wsX9_throwsIf) := goodIn_app (goodIn_of _ (by decide +kernel)) ggX9_look_X9_throwsIf
set_option maxRecDepth 20000 in
theorem ggX9_tons_X9_noShip : GoodIn wsX9_tons wsX9_noShip := goodIn_r _ [8, 9, 10, 11, 7, 12, 17, 18, 19, 20, 21, 22, 23, 24, 25, 26, 27, 28, 29, 30, 31, 32, 33, 34, 35, 36, 37, 38, 39, 40, 41, 42, 43, 44, 45, 46, 47, 48, 49, 50, 51, 52, 53, 54, 55, 56, 57, 58, 59, 60, 61, 62, 63] (by decide +kernel) (by decide +kernel)
set_option maxRecDepth 20000 in
theorem gX9_tons_X9_noShip : GoodIn wsX9_tons (wsV RX9 131 RX9 yX9_noShip wsX9_noShip) := goodIn_app (goodIn_of _ (by decide +kernel)) ggX9_tons_X9_noShip
set_option maxRecDepth 20000 in
theorem ggX9_tons_X9_in : GoodIn wsX9_tons wsX9_in := goodIn_r _ [12] (by decide +kernel) (by decide +kernel)
set_option maxRecDepth 20000 in
theorem gX9_tons_X9_in : GoodIn wsX9_tons (va_wsS RX9 115 yX9_in wsX9_in) := goodIn_app (goodIn_of _ (by decide +kernel)) ggX9_tons_X9_in
set_option maxRecDepth 20000 in
theorem ggX9_tons_X9_throwsIf : GoodIn wsX9_tons wsX9_throwsIf := goodIn_r _ [16, 1, 17, 18, 19, 20, 21, 22, 23, 24, 25, 26, 27, 28, 29, 30, 31, 32, 33, 34, 35, 36, 37, 38, 39, 40, 41, 42, 43, 44, 45, 46, 47, 48, 49, 50, 51, 52, 53, 54, 55, 56, 57, 58, 59, 60, 61, 62, 63] (by decide +kernel) (by decide +kernel)
set_option maxRecDepth 20000 in
theorem gX9_tons_X9_throwsIf : GoodIn wsX9_tons (wsV RX9 124 RX9 yX9_throwsIf wsX9_throwsIf) := goodIn_app (goodIn_of _ (by decide +kernel)) ggX9_tons_X9_throwsIf
set_option maxRecDepth 20000 in
theorem ggX9_state_X9_noShip : GoodIn wsX9_state wsX9_noShip := goodIn_r _ [9, 10, 11, 12, 8, 13, 23, 24, 25, 26, 27, 28, 29, 30, 31, 32, 33, 34, 35, 36, 37, 38, 39, 40, 41, 42, 43, 44, 45, 46, 47, 48, 49, 50, 51, 52, 53, 54, 55, 56, 57, 58, 59, 60, 61, 62, 63, 64, 65, 66, 67, 68, 69] (by decide +kernel) (by decide +kernel)
set_option maxRecDepth 20000 in
theorem gX9_state_X9_noShip : GoodIn wsX9_state (wsV RX9 131 RX9 yX9_noShip wsX9_noShip) := goodIn_app (goodIn_of _ (by decide +kernel)) ggX9_state_X9_noShip
set_option maxRecDepth 20000 in
theorem ggX9_state_X9_throwsIf : GoodIn wsX9_state wsX9_throwsIf := goodIn_r _ [17, 1, 23, 24, 25, 26, 27, 28, 29, 30, 31, 32, 33, 34, 35, 36, 37, 38, 39, 40, 41, 42, 43, 44, 45, 46, 47, 48, 49, 50, 51, 52, 53, 54, 55, 56, 57, 58, 59, 60, 61, 62, 63, 64, 65, 66, 67, 68, 69] (by decide +kernel) (by decide +kernel)
set_option maxRecDepth 20000 in
theorem gX9_state_X9_throwsIf : GoodIn wsX9_state (wsV RX9 124 RX9 yX9_throwsIf wsX9_throwsIf) := goodIn_app (goodIn_of _ (by decide +kernel)) ggX9_state_X9_throwsIf
set_option maxRecDepth 20000 in
theorem ggX9_state_X9_tonsOf : GoodIn wsX9_state wsX9_tonsOf := goodIn_ca (goodIn_r _ [21, 3, 22, 23, 24, 25, 26, 27, 28, 29, 30, 31, 32, 33, 34, 35, 36, 37, 38, 39, 40, 41, 42, 43, 44, 45, 46, 47, 48, 49, 50, 51, 52, 53, 54, 55, 56, 57, 58, 59, 60, 61, 62, 63, 64, 65, 66, 67, 68, 69] (by decide +kernel) (by decide +kernel)) (goodIn_sub (fun _ h => List.mem_cons_of_mem _ (List.mem_append_right _ h)) (by decide +kernel))
set_option maxRecDepth 20000 in
theorem gX9_state_X9_tonsOf : GoodIn wsX9_state (wsV RX9 242 RX9 yX9_tonsOf wsX9_tonsOf) := goodIn_app (goodIn_of _ (by decide +kernel)) ggX9_state_X9_tonsOf
set_option maxRecDepth 20000 in
theorem ggX9_entry_X9_in : GoodIn wsX9_entry wsX9_in := goodIn_r _ [10] (by decide +kernel) (by decide +kernel)
set_option maxRecDepth 20000 in
theorem gX9_entry_X9_in : GoodIn wsX9_entry (va_wsS RX9 115 yX9_in wsX9_in) := goodIn_app (goodIn_of _ (by decide +kernel)) ggX9_entry_X9_in
set_option maxRecDepth 20000 in
theorem ggX9_entry_X9_throwsIf : GoodIn wsX9_entry wsX9_throwsIf := goodIn_r _ [14, 1, 23, 24, 25, 26, 27, 28, 29, 30, 31, 32, 33, 34, 35, 36, 37, 38, 39, 40, 41, 42, 43, 44, 45, 46, 47, 48, 49, 50, 51, 52, 53, 54, 55, 56, 57, 58, 59, 60, 61, 62, 63, 64, 65, 66, 67, 68, 69] (by decide +kernel) (by decide +kernel)
set_option maxRecDepth 20000 in
theorem gX9_entry_X9_throwsIf : GoodIn wsX9_entry (wsV RX9 124 RX9 yX9_throwsIf wsX9_throwsIf) := goodIn_app (goodIn_of _ (by decide +kernel)) ggX9_entry_X9_throwsIf
set_option maxRecDepth 20000 in
theorem ggX9_entry_X9_moneyOf : GoodIn wsX9_entry wsX9_moneyOf := goodIn_ca (goodIn_r _ [18, 5, 19, 20, 21, 22, 23, 24, 25, 26, 27, 28, 29, 30, 31, 32, 33, 34, 35, 36, 37, 38, 39, 40, 41, 42, 43, 44, 45, 46, 47, 48, 49, 50, 51, 52, 53, 54, 55, 56, 57, 58, 59, 60, 61, 62, 63, 64, 65, 66, 67, 68, 69] (by decide +kernel) (by decide +kernel)) (goodIn_sub (fun _ h => List.mem_cons_of_mem _ (List.mem_append_right _ h)) (by decide +kernel))
set_option maxRecDepth 20000 in
theorem gX9_entry_X9_moneyOf : GoodIn wsX9_entry (wsV RX9 267 RX9 yX9_moneyOf wsX9_moneyOf) := goodIn_app (goodIn_of _ (by decide +kernel)) ggX9_entry_X9_moneyOf
set_option maxRecDepth 20000 in
theorem ggX9_rule_X9_in : GoodIn wsX9_rule wsX9_in := goodIn_r _ [12] (by decide +kernel) (by decide +kernel)
set_option maxRecDepth 20000 in
theorem gX9_rule_X9_in : GoodIn wsX9_rule (va_wsS RX9 115 yX9_in wsX9_in) := goodIn_app (goodIn_of _ (by decide +kernel)) ggX9_rule_X9_in
set_option maxRecDepth 20000 in
theorem ggX9_rule_X9_throwsIf : GoodIn wsX9_rule wsX9_throwsIf := goodIn_r _ [16, 1, 17, 18, 19, 20, 21, 22, 23, 24, 25, 26, 27, 28, 29, 30, 31, 32, 33, 34, 35, 36, 37, 38, 39, 40, 41, 42, 43, 44, 45, 46, 47, 48, 49, 50, 51, 52, 53, 54, 55, 56, 57, 58, 59, 60, 61, 62, 63] (by decide +kernel) (by decide +kernel)
set_option maxRecDepth 20000 in
theorem gX9_rule_X9_throwsIf : GoodIn wsX9_rule (wsV RX9 124 RX9 yX9_throwsIf wsX9_throwsIf) := goodIn_app (goodIn_of _ (by decide +kernel)) ggX9_rule_X9_throwsIf
set_option maxRecDepth 20000 in
theorem ggX9_earned_X9_noMan : GoodIn wsX9_earned wsX9_noMan := goodIn_r _ [9, 10, 11, 12, 8, 13, 27, 28, 29, 30, 31, 32, 33, 34, 35, 36, 37, 38, 39, 40, 41, 42, 43, 44, 45, 46, 47, 48, 49, 50, 51, 52, 53, 54, 55, 56, 57, 58, 59, 60, 61, 62, 63, 64, 65, 66, 67, 68, 69, 70, 71, 72, 73] (by decide +kernel) (by decide +kernel)
set_option maxRecDepth 20000 in
theorem gX9_earned_X9_noMan : GoodIn wsX9_earned (wsV RX9 261 RX9 yX9_noMan wsX9_noMan) := goodIn_app (goodIn_of _ (by decide +kernel)) ggX9_earned_X9_noMan
set_option maxRecDepth 20000 in
theorem ggX9_earned_X9_throwsIf : GoodIn wsX9_earned wsX9_throwsIf := goodIn_r _ [17, 1, 27, 28, 29, 30, 31, 32, 33, 34, 35, 36, 37, 38, 39, 40, 41, 42, 43, 44, 45, 46, 47, 48, 49, 50, 51, 52, 53, 54, 55, 56, 57, 58, 59, 60, 61, 62, 63, 64, 65, 66, 67, 68, 69, 70, 71, 72, 73] (by decide +kernel) (by decide +kernel)
set_option maxRecDepth 20000 in
theorem gX9_earned_X9_throwsIf : GoodIn wsX9_earned (wsV RX9 124 RX9 yX9_throwsIf wsX9_throwsIf) := goodIn_app (goodIn_of _ (by decide +kernel)) ggX9_earned_X9_throwsIf
set_option maxRecDepth 20000 in
theorem ggX9_earned_X9_moneyOf : GoodIn wsX9_earned wsX9_moneyOf := goodIn_ca (goodIn_r _ [21, 22, 23, 24, 25, 26, 27, 28, 29, 30, 31, 32, 33, 34, 35, 36, 37, 38, 39, 40, 41, 42, 43, 44, 45, 46, 47, 48, 49, 50, 51, 52, 53, 54, 55, 56, 57, 58, 59, 60, 61, 62, 63, 64, 65, 66, 67, 68, 69, 70, 71, 72, 73] (by decide +kernel) (by decide +kernel)) (goodIn_sub (fun _ h => List.mem_cons_of_mem _ (List.mem_append_right _ h)) (by decide +kernel))
set_option maxRecDepth 20000 in
theorem gX9_earned_X9_moneyOf : GoodIn wsX9_earned (wsV RX9 267 RX9 yX9_moneyOf wsX9_moneyOf) := goodIn_app (goodIn_of _ (by decide +kernel)) ggX9_earned_X9_moneyOf
set_option maxRecDepth 20000 in
theorem ggX9_want_X9_in : GoodIn wsX9_want wsX9_in := goodIn_r _ [10] (by decide +kernel) (by decide +kernel)
set_option maxRecDepth 20000 in
theorem gX9_want_X9_in : GoodIn wsX9_want (va_wsS RX9 115 yX9_in wsX9_in) := goodIn_app (goodIn_of _ (by decide +kernel)) ggX9_want_X9_in
set_option maxRecDepth 20000 in
theorem ggX9_want_X9_throwsIf : GoodIn wsX9_want wsX9_throwsIf := goodIn_r _ [14, 1, 15, 16, 17, 18, 19, 20, 21, 22, 23, 24, 25, 26, 27, 28, 29, 30, 31, 32, 33, 34, 35, 36, 37, 38, 39, 40, 41, 42, 43, 44, 45, 46, 47, 48, 49, 50, 51, 52, 53, 54, 55, 56, 57, 58, 59, 60, 61] (by decide +kernel) (by decide +kernel)
set_option maxRecDepth 20000 in
theorem gX9_want_X9_throwsIf : GoodIn wsX9_want (wsV RX9 124 RX9 yX9_throwsIf wsX9_throwsIf) := goodIn_app (goodIn_of _ (by decide +kernel)) ggX9_want_X9_throwsIf
set_option maxRecDepth 20000 in
theorem ggX9_best_X9_power : GoodIn wsX9_best wsX9_power := goodIn_r _ [12] (by decide +kernel) (by decide +kernel)
set_option maxRecDepth 20000 in
theorem gX9_best_X9_power : GoodIn wsX9_best (va_wsS RX9 282 yX9_power wsX9_power) := goodIn_app (goodIn_of _ (by decide +kernel)) ggX9_best_X9_power
set_option maxRecDepth 20000 in
theorem ggX9_best_X9_best : GoodIn wsX9_best wsX9_best := goodIn_ca (goodIn_r _ [0, 1, 2, 3, 4, 5, 6, 7, 8, 9, 10, 11, 12, 13, 14, 15, 16, 17, 18, 19, 20, 21, 22, 23, 24, 25, 26, 27, 28, 29, 30, 31, 32, 33, 34, 35, 36, 37, 38, 39, 40, 41, 42, 43, 44, 45, 46, 47, 48, 49, 50, 51, 52, 53, 54, 55, 56, 57, 58, 59, 60, 61, 62] (by decide +kernel) (by decide +kernel)) (goodIn_sub (fun _ h => List.mem_cons_of_mem _ (List.mem_append_right _ h)) (by decide +kernel))
set_option maxRecDepth 20000 in
theorem gX9_best_X9_best : GoodIn wsX9_best (wsV RX9 285 RX9 yX9_best wsX9_best) := goodIn_app (goodIn_of _ (by decide +kernel)) ggX9_best_X9_best
set_option maxRecDepth 20000 in
theorem ggX9_plan_X9_in : GoodIn wsX9_plan wsX9_in := goodIn_r _ [9] (by decide +kernel) (by decide +kernel)
set_option maxRecDepth 20000 in
theorem gX9_plan_X9_in : GoodIn wsX9_plan (va_wsS RX9 115 yX9_in wsX9_in) := goodIn_app (goodIn_of _ (by decide +kernel)) ggX9_plan_X9_in
set_option maxRecDepth 20000 in
theorem ggX9_plan_X9_throwsIf : GoodIn wsX9_plan wsX9_throwsIf := goodIn_r _ [13, 1, 27, 28, 29, 30, 31, 32, 33, 34, 35, 36, 37, 38, 39, 40, 41, 42, 43, 44, 45, 46, 47, 48, 49, 50, 51, 52, 53, 54, 55, 56, 57, 58, 59, 60, 61, 62, 63, 64, 65, 66, 67, 68, 69, 70, 71, 72, 73] (by decide +kernel) (by decide +kernel)
set_option maxRecDepth 20000 in
theorem gX9_plan_X9_throwsIf : GoodIn wsX9_plan (wsV RX9 124 RX9 yX9_throwsIf wsX9_throwsIf) := goodIn_app (goodIn_of _ (by decide +kernel)) ggX9_plan_X9_throwsIf
set_option maxRecDepth 20000 in
theorem ggX9_plan_X9_power : GoodIn wsX9_plan wsX9_power := goodIn_r _ [16] (by decide +kernel) (by decide +kernel)
set_option maxRecDepth 20000 in
theorem gX9_plan_X9_power : GoodIn wsX9_plan (va_wsS RX9 282 yX9_power wsX9_power) := goodIn_app (goodIn_of _ (by decide +kernel)) ggX9_plan_X9_power
set_option maxRecDepth 20000 in
theorem ggX9_plan_X9_best : GoodIn wsX9_plan wsX9_best := goodIn_ca (goodIn_r _ [20, 21, 5, 3, 22, 23, 24, 25, 26, 14, 15, 8, 16, 17, 18, 19, 27, 28, 29, 30, 31, 32, 33, 34, 35, 36, 37, 38, 39, 40, 41, 42, 43, 44, 45, 46, 47, 48, 49, 50, 51, 52, 53, 54, 55, 56, 57, 58, 59, 60, 61, 62, 63, 64, 65, 66, 67, 68, 69, 70, 71, 72, 73] (by decide +kernel) (by decide +kernel)) (goodIn_sub (fun _ h => List.mem_cons_of_mem _ (List.mem_append_right _ h)) (by decide +kernel))
set_option maxRecDepth 20000 in
theorem gX9_plan_X9_best : GoodIn wsX9_plan (wsV RX9 285 RX9 yX9_best wsX9_best) := goodIn_app (goodIn_of _ (by decide +kernel)) ggX9_plan_X9_best
set_option maxRecDepth 20000 in
theorem ggX9_count_X9_tonsOf : GoodIn wsX9_count wsX9_tonsOf := goodIn_ca (goodIn_r _ [15, 16, 17, 18, 19, 20, 21, 22, 23, 24, 25, 26, 27, 28, 29, 30, 31, 32, 33, 34, 35, 36, 37, 38, 39, 40, 41, 42, 43, 44, 45, 46, 47, 48, 49, 50, 51, 52, 53, 54, 55, 56, 57, 58, 59, 60, 61, 62, 63, 64] (by decide +kernel) (by decide +kernel)) (goodIn_sub (fun _ h => List.mem_cons_of_mem _ (List.mem_append_right _ h)) (by decide +kernel))
set_option maxRecDepth 20000 in
theorem gX9_count_X9_tonsOf : GoodIn wsX9_count (wsV RX9 242 RX9 yX9_tonsOf wsX9_tonsOf) := goodIn_app (goodIn_of _ (by decide +kernel)) ggX9_count_X9_tonsOf
set_option maxRecDepth 20000 in
theorem ggJ0_length_8abf5_J0_coder_7d493 : GoodIn wsJ0_length_8abf5 wsJ0_coder_7d493 := goodIn_r _ [6, 7, 8, 9, 10, 11, 12] (by decide +kernel) (by decide +kernel)
set_option maxRecDepth 20000 in
theorem gJ0_length_8abf5_J0_coder_7d493 : GoodIn wsJ0_length_8abf5 (wsV RJ0 335 RJ0 yJ0_coder_7d493 wsJ0_coder_7d493) := goodIn_app (goodIn_of _ (by decide +kernel)) ggJ0_length_8abf5_J0_coder_7d493
set_option maxRecDepth 20000 in
theorem ggJ0_charAt_5068e_J0_isLatin1_aae02 : GoodIn wsJ0_charAt_5068e wsJ0_isLatin1_aae02 := goodIn_r _ [6, 7, 8, 38, 39, 40, 41] (by decide +kernel) (by decide +kernel)
set_option maxRecDepth 20000 in
theorem gJ0_charAt_5068e_J0_isLatin1_aae02 : GoodIn wsJ0_charAt_5068e (wsV RJ0 492 RJ0 yJ0_isLatin1_aae02 wsJ0_isLatin1_aae02) := goodIn_app (goodIn_of _ (by decide +kernel)) ggJ0_charAt_5068e_J0_isLatin1_aae02
set_option maxRecDepth 20000 in
theorem ggJ0_charAt_5068e_J1_charAt_3b067 : GoodIn wsJ0_charAt_5068e wsJ1_charAt_3b067 := goodIn_r _ [12, 13, 14, 5, 15, 16, 17, 18, 19, 20] (by decide +kernel) (by decide +kernel)
set_option maxRecDepth 20000 in
theorem gJ0_charAt_5068e_J1_charAt_3b067 : GoodIn wsJ0_charAt_5068e (va_wsS RJ0 495 yJ1_charAt_3b067 wsJ1_charAt_3b067) := goodIn_app (goodIn_of _ (by decide +kernel)) ggJ0_charAt_5068e_J1_charAt_3b067
set_option maxRecDepth 20000 in
theorem ggJ0_charAt_5068e_J2_charAt_3b067 : GoodIn wsJ0_charAt_5068e wsJ2_charAt_3b067 := goodIn_r _ [24, 25, 26, 23, 27, 28, 29, 30, 31, 14, 5, 15, 16, 17, 18, 19, 20, 32, 33, 34, 35, 36, 37] (by decide +kernel) (by decide +kernel)
set_option maxRecDepth 20000 in
theorem gJ0_charAt_5068e_J2_charAt_3b067 : GoodIn wsJ0_charAt_5068e (va_wsS RJ0 498 yJ2_charAt_3b067 wsJ2_charAt_3b067) := goodIn_app (goodIn_of _ (by decide +kernel)) ggJ0_charAt_5068e_J2_charAt_3b067
set_option maxRecDepth 20000 in
theorem ggJ0_checkIndex_df160_J3_checkIndex_8e157 : GoodIn wsJ0_checkIndex_df160 wsJ3_checkIndex_8e157 := goodIn_r _ [5] (by decide +kernel) (by decide +kernel)
set_option maxRecDepth 20000 in
theorem gJ0_checkIndex_df160_J3_checkIndex_8e157 : GoodIn wsJ0_checkIndex_df160 (va_wsS RJ0 1059 yJ3_checkIndex_8e157 wsJ3_checkIndex_8e157) := goodIn_app (goodIn_of _ (by decide +kernel)) ggJ0_checkIndex_df160_J3_checkIndex_8e157
set_option maxRecDepth 20000 in
theorem ggJ1_charAt_3b067_J0_checkIndex_df160 : GoodIn wsJ1_charAt_3b067 wsJ0_checkIndex_df160 := goodIn_r _ [4, 5, 6, 7, 8, 9] (by decide +kernel) (by decide +kernel)
set_option maxRecDepth 20000 in
theorem gJ1_charAt_3b067_J0_checkIndex_df160 : GoodIn wsJ1_charAt_3b067 (va_wsS RJ1 9 yJ0_checkIndex_df160 wsJ0_checkIndex_df160) := goodIn_app (goodIn_of _ (by decide +kernel)) ggJ1_charAt_3b067_J0_checkIndex_df160
set_option maxRecDepth 20000 in
theorem ggJ7_fill_fda19_J7_rangeCheck_23922 : GoodIn wsJ7_fill_fda19 wsJ7_rangeCheck_23922 := goodIn_r _ [4, 5, 6, 7, 8, 9, 10, 11, 12, 13, 14, 15, 16, 17, 18, 19, 20] (by decide +kernel) (by decide +kernel)
set_option maxRecDepth 20000 in
theorem gJ7_fill_fda19_J7_rangeCheck_23922 : GoodIn wsJ7_fill_fda19 (va_wsS RJ7 13 yJ7_rangeCheck_23922 wsJ7_rangeCheck_23922) := goodIn_app (goodIn_of _ (by decide +kernel)) ggJ7_fill_fda19_J7_rangeCheck_23922
set_option maxRecDepth 20000 in
theorem ggL_man_X8_man : GoodIn wsL_man wsX8_man := goodIn_ca (goodIn_ca (goodIn_ca (goodIn_r _ [7, 8, 9, 10, 11, 12, 13, 14, 15, 16, 17, 18, 19, 20, 21, 22, 23, 24, 25, 26, 27, 28, 29, 30, 31, 32, 33, 34, 35, 36, 37, 38, 39, 40, 41] (by decide +kernel) (by decide +kernel)) (goodIn_sub (fun _ h => List.mem_cons_of_mem _ (List.mem_append_left _ (List.mem_append_right _ h))) (by decide +kernel))) (goodIn_sub (fun _ h => List.mem_cons_of_mem _ (List.mem_append_right _ h)) (by decide +kernel))) (goodIn_sub (fun _ h => List.mem_cons_of_mem _ (List.mem_append_left _ (List.mem_append_left _ (List.mem_append_right _ h)))) (by decide +kernel))
set_option maxRecDepth 20000 in
theorem gL_man_X8_man : GoodIn wsL_man (wsV RL 7 RX8 yX8_man wsX8_man) := goodIn_app (goodIn_of _ (by decide +kernel)) ggL_man_X8_man
set_option maxRecDepth 20000 in
theorem ggL_ship_X8_ship : GoodIn wsL_ship wsX8_ship := goodIn_ca (goodIn_ca (goodIn_r _ [6, 7, 8, 9, 10, 11, 12, 13, 14, 15, 16, 17, 18, 19, 20, 21, 22, 23, 24, 25, 26, 27, 28, 29, 30, 31, 32, 33, 34, 35, 36, 37, 38, 39, 40, 41, 42, 43, 44, 45] (by decide +kernel) (by decide +kernel)) (goodIn_sub (fun _ h => List.mem_cons_of_mem _ (List.mem_append_right _ h)) (by decide +kernel))) (goodIn_sub (fun _ h => List.mem_cons_of_mem _ (List.mem_append_left _ (List.mem_append_right _ h))) (by decide +kernel))
set_option maxRecDepth 20000 in
theorem gL_ship_X8_ship : GoodIn wsL_ship (wsV RL 17 RX8 yX8_ship wsX8_ship) := goodIn_app (goodIn_of _ (by decide +kernel)) ggL_ship_X8_ship
set_option maxRecDepth 20000 in
theorem ggL_hatch_X8_hatch : GoodIn wsL_hatch wsX8_hatch := goodIn_ca (goodIn_ca (goodIn_ca (goodIn_ca (goodIn_r _ [8, 9, 10, 11, 12, 13, 14, 15, 16, 17, 18, 19, 20, 21, 22, 23, 24, 25, 26, 27, 28, 29, 30, 31, 32, 33, 34, 35, 36, 37, 38, 39, 40, 41, 42, 43, 44, 45, 46, 47, 48] (by decide +kernel) (by decide +kernel)) (goodIn_sub (fun _ h => List.mem_cons_of_mem _ (List.mem_append_left _ (List.mem_append_left _ (List.mem_append_right _ h)))) (by decide +kernel))) (goodIn_sub (fun _ h => List.mem_cons_of_mem _ (List.mem_append_left _ (List.mem_append_right _ h))) (by decide +kernel))) (goodIn_sub (fun _ h => List.mem_cons_of_mem _ (List.mem_append_left _ (List.mem_append_left _ (List.mem_append_left _ (List.mem_append_right _ h))))) (by decide +kernel))) (goodIn_sub (fun _ h => List.mem_cons_of_mem _ (List.mem_append_right _ h)) (by decide +kernel))
set_option maxRecDepth 20000 in
theorem gL_hatch_X8_hatch : GoodIn wsL_hatch (wsV RL 21 RX8 yX8_hatch wsX8_hatch) := goodIn_app (goodIn_of _ (by decide +kernel)) ggL_hatch_X8_hatch
set_option maxRecDepth 20000 in
theorem ggL_agree_X8_agree : GoodIn wsL_agree wsX8_agree := goodIn_ca (goodIn_ca (goodIn_r _ [6, 7, 8, 9, 10, 11, 12, 13, 14, 15, 16, 17, 18, 19, 20, 21, 22, 23, 24, 25, 26, 27, 28, 29, 30, 31, 32, 33, 34, 35, 36, 37, 38, 39, 40, 41, 42, 43, 44, 45, 46, 47, 48, 49, 50, 51, 52, 53, 54, 55, 56, 57, 58, 59, 60, 61, 62, 63, 64, 65, 66, 67, 68, 69, 70, 71, 72, 73, 74, 75, 76, 77, 78, 79, 80, 81, 82, 83, 84, 85, 86, 87, 88, 89, 90, 91, 92, 93, 94, 95, 96, 97, 98, 99, 100, 101, 102, 103, 104, 105, 106, 107, 108, 109, 110, 111, 112, 113, 114, 115, 116, 117, 118, 119, 120, 121, 122, 123, 124, 125, 126, 127, 128, 129, 130, 131, 132, 133, 134, 135, 136, 137, 138] (by decide +kernel) (by decide +kernel)) (goodIn_sub (fun _ h => List.mem_cons_of_mem _ (List.mem_append_right _ h)) (by decide +kernel))) (goodIn_sub (fun _ h => List.mem_cons_of_mem _ (List.mem_append_left _ (List.mem_append_right _ h))) (by decide +kernel))
set_option maxRecDepth 20000 in
theorem gL_agree_X8_agree : GoodIn wsL_agree (wsV RL 27 RX8 yX8_agree wsX8_agree) := goodIn_app (goodIn_of _ (by decide +kernel)) ggL_agree_X8_agree
set_option maxRecDepth 20000 in
theorem ggL_says_X8_says : GoodIn wsL_says wsX8_says := goodIn_ca (goodIn_ca (goodIn_r _ [6, 7, 8, 9, 10, 11, 12, 13, 14, 15, 16, 17] (by decide +kernel) (by decide +kernel)) (goodIn_sub (fun _ h => List.mem_cons_of_mem _ (List.mem_append_right _ h)) (by decide +kernel))) (goodIn_sub (fun _ h => List.mem_cons_of_mem _ (List.mem_append_left _ (List.mem_append_right _ h))) (by decide +kernel))
set_option maxRecDepth 20000 in
theorem gL_says_X8_says : GoodIn wsL_says (wsV RL 30 RX8 yX8_says wsX8_says) := goodIn_app (goodIn_of _ (by decide +kernel)) ggL_says_X8_says
set_option maxRecDepth 20000 in
theorem ggL_call_X8_call : GoodIn wsL_call wsX8_call := goodIn_ca (goodIn_ca (goodIn_r _ [6, 7, 8, 9, 10, 11, 12, 13, 14, 15, 16, 17, 18, 19, 20, 21, 22, 23, 24, 25, 26, 27, 28, 29, 30, 31, 32, 33, 34, 35, 36, 37, 38, 39, 40, 41, 42, 43, 44, 45, 46, 47, 48, 49, 50, 51, 52, 53, 54, 55, 56, 57, 58, 59, 60, 61, 62, 63, 64, 65, 66, 67, 68, 69, 70, 71, 72, 73, 74, 75, 76, 77, 78, 79, 80, 81, 82, 83, 84, 85, 86, 87, 88, 89, 90, 91, 92, 93, 94, 95, 96, 97, 98, 99, 100, 101, 102, 103, 104, 105, 106, 107, 108, 109, 110, 111, 112, 113, 114, 115, 116, 117, 118, 119, 120, 121, 122, 123, 124, 125, 126, 127, 128, 129, 130, 131, 132, 133, 134, 135, 136, 137, 138, 139, 140, 141, 142, 143, 144, 145, 146, 147, 148, 149, 150, 151, 152, 153, 154, 155, 156, 157, 158, 159, 160, 161, 162, 163, 164, 165, 166, 167, 168, 169, 170] (by decide +kernel) (by decide +kernel)) (goodIn_sub (fun _ h => List.mem_cons_of_mem _ (List.mem_append_right _ h)) (by decide +kernel))) (goodIn_sub (fun _ h => List.mem_cons_of_mem _ (List.mem_append_left _ (List.mem_append_right _ h))) (by decide +kernel))
set_option maxRecDepth 20000 in
theorem gL_call_X8_call : GoodIn wsL_call (wsV RL 35 RX8 yX8_call wsX8_call) := goodIn_app (goodIn_of _ (by decide +kernel)) ggL_call_X8_call
set_option maxRecDepth 20000 in
theorem ggL_look_X8_look : GoodIn wsL_look wsX8_look := goodIn_ca (goodIn_ca (goodIn_ca (goodIn_r _ [7, 8, 9, 10, 11, 12, 13, 14, 15, 16, 17, 18, 19, 20, 21, 22, 23, 24, 25, 26, 27, 28, 29, 30, 31, 32, 33, 34, 35, 36, 37, 38, 39, 40, 41, 42, 43, 44, 45, 46, 47, 48, 49] (by decide +kernel) (by decide +kernel)) (goodIn_sub (fun _ h => List.mem_cons_of_mem _ (List.mem_append_left _ (List.mem_append_right _ h))) (by decide +kernel))) (goodIn_sub (fun _ h => List.mem_cons_of_mem _ (List.mem_append_left _ (List.mem_append_left _ (List.mem_append_right _ h)))) (by decide +kernel))) (goodIn_sub (fun _ h => List.mem_cons_of_mem _ (List.mem_append_right _ h)) (by decide +kernel))
set_option maxRecDepth 20000 in
theorem gL_look_X8_look : GoodIn wsL_look (wsV RL 39 RX8 yX8_look wsX8_look) := goodIn_app (goodIn_of _ (by decide +kernel)) ggL_look_X8_look
set_option maxRecDepth 20000 in
theorem ggL_tons_X8_tons : GoodIn wsL_tons wsX8_tons := goodIn_ca (goodIn_ca (goodIn_r _ [6, 7, 8, 9, 10, 11, 12, 13, 14, 15, 16, 17, 18, 19, 20, 21, 22, 23, 24, 25, 26, 27, 28, 29, 30, 31, 32, 33, 34] (by decide +kernel) (by decide +kernel)) (goodIn_sub (fun _ h => List.mem_cons_of_mem _ (List.mem_append_left _ (List.mem_append_right _ h))) (by decide +kernel))) (goodIn_sub (fun _ h => List.mem_cons_of_mem _ (List.mem_append_right _ h)) (by decide +kernel))
set_option maxRecDepth 20000 in
theorem gL_tons_X8_tons : GoodIn wsL_tons (wsV RL 42 RX8 yX8_tons wsX8_tons) := goodIn_app (goodIn_of _ (by decide +kernel)) ggL_tons_X8_tons
set_option maxRecDepth 20000 in
theorem ggL_state_X8_state : GoodIn wsL_state wsX8_state := goodIn_ca (goodIn_ca (goodIn_ca (goodIn_r _ [7, 8, 9, 10, 11, 12, 13, 14, 15, 16, 17, 18, 19, 20, 21, 22, 23, 24, 25, 26, 27, 28, 29, 30, 31, 32, 33, 34, 35, 36, 37, 38, 39, 40, 41, 42, 43, 44, 45, 46, 47] (by decide +kernel) (by decide +kernel)) (goodIn_sub (fun _ h => List.mem_cons_of_mem _ (List.mem_append_left _ (List.mem_append_right _ h))) (by decide +kernel))) (goodIn_sub (fun _ h => List.mem_cons_of_mem _ (List.mem_append_left _ (List.mem_append_left _ (List.mem_append_right _ h)))) (by decide +kernel))) (goodIn_sub (fun _ h => List.mem_cons_of_mem _ (List.mem_append_right _ h)) (by decide +kernel))
set_option maxRecDepth 20000 in
theorem gL_state_X8_state : GoodIn wsL_state (wsV RL 45 RX8 yX8_state wsX8_state) := goodIn_app (goodIn_of _ (by decide +kernel)) ggL_state_X8_state
set_option maxRecDepth 20000 in
theorem ggL_entry_X8_entry : GoodIn wsL_entry wsX8_entry := goodIn_ca (goodIn_ca (goodIn_ca (goodIn_r _ [7, 8, 9, 10, 11, 12, 13, 14, 15, 16, 17, 18, 19, 20, 21, 22, 23, 24, 25, 26, 27, 28, 29, 30, 31, 32, 33, 34, 35, 36, 37, 38, 39, 40, 41, 42, 43, 44, 45, 46, 47, 48, 49, 50, 51, 52, 53, 54, 55, 56] (by decide +kernel) (by decide +kernel)) (goodIn_sub (fun _ h => List.mem_cons_of_mem _ (List.mem_append_left _ (List.mem_append_right _ h))) (by decide +kernel))) (goodIn_sub (fun _ h => List.mem_cons_of_mem _ (List.mem_append_left _ (List.mem_append_left _ (List.mem_append_right _ h)))) (by decide +kernel))) (goodIn_sub (fun _ h => List.mem_cons_of_mem _ (List.mem_append_right _ h)) (by decide +kernel))
set_option maxRecDepth 20000 in
theorem gL_entry_X8_entry : GoodIn wsL_entry (wsV RL 48 RX8 yX8_entry wsX8_entry) := goodIn_app (goodIn_of _ (by decide +kernel)) ggL_entry_X8_entry
set_option maxRecDepth 20000 in
theorem ggL_rule_X8_rule : GoodIn wsL_rule wsX8_rule := goodIn_ca (goodIn_ca (goodIn_ca (goodIn_r _ [7, 8, 9, 10, 11, 12, 13, 14, 15, 16, 17, 18, 19, 20, 21, 22, 23, 24, 25, 26, 27, 28, 29, 30, 31, 32, 33, 34, 35, 36, 37, 38, 39, 40, 41, 42, 43, 44, 45, 46, 47, 48, 49, 50, 51, 52, 53, 54, 55, 56] (by decide +kernel) (by decide +kernel)) (goodIn_sub (fun _ h => List.mem_cons_of_mem _ (List.mem_append_left _ (List.mem_append_right _ h))) (by decide +kernel))) (goodIn_sub (fun _ h => List.mem_cons_of_mem _ (List.mem_append_right _ h)) (by decide +kernel))) (goodIn_sub (fun _ h => List.mem_cons_of_mem _ (List.mem_append_left _ (List.mem_append_left _ (List.mem_append_right _ h)))) (by decide +kernel))
set_option maxRecDepth 20000 in
theorem gL_rule_X8_rule : GoodIn wsL_rule (wsV RL 51 RX8 yX8_rule wsX8_rule) := goodIn_app (goodIn_of _ (by decide +kernel)) ggL_rule_X8_rule
set_option maxRecDepth 20000 in
theorem ggL_earned_X8_earned : GoodIn wsL_earned wsX8_earned := goodIn_ca (goodIn_ca (goodIn_r _ [6, 7, 8, 9, 10, 11, 12, 13, 14, 15, 16, 17, 18, 19, 20, 21, 22, 23, 24, 25, 26, 27, 28, 29, 30, 31, 32, 33, 34, 35, 36, 37, 38, 39, 40, 41, 42, 43, 44, 45, 46, 47, 48, 49, 50, 51, 52, 53, 54, 55, 56, 57, 58] (by decide +kernel) (by decide +kernel)) (goodIn_sub (fun _ h => List.mem_cons_of_mem _ (List.mem_append_right _ h)) (by decide +kernel))) (goodIn_sub (fun _ h => List.mem_cons_of_mem _ (List.mem_append_left _ (List.mem_append_right _ h))) (by decide +kernel))
set_option maxRecDepth 20000 in
theorem gL_earned_X8_earned : GoodIn wsL_earned (wsV RL 55 RX8 yX8_earned wsX8_earned) := goodIn_app (goodIn_of _ (by decide +kernel)) ggL_earned_X8_earned
set_option maxRecDepth 20000 in
theorem ggL_want_X8_want : GoodIn wsL_want wsX8_want := goodIn_ca (goodIn_ca (goodIn_r _ [6, 7, 8, 9, 10, 11, 12, 13, 14, 15, 16, 17, 18, 19, 20, 21, 22, 23, 24, 25, 26, 27, 28, 29, 30, 31, 32, 33, 34, 35] (by decide +kernel) (by decide +kernel)) (goodIn_sub (fun _ h => List.mem_cons_of_mem _ (List.mem_append_right _ h)) (by decide +kernel))) (goodIn_sub (fun _ h => List.mem_cons_of_mem _ (List.mem_append_left _ (List.mem_append_right _ h))) (by decide +kernel))
set_option maxRecDepth 20000 in
theorem gL_want_X8_want : GoodIn wsL_want (wsV RL 59 RX8 yX8_want wsX8_want) := goodIn_app (goodIn_of _ (by decide +kernel)) ggL_want_X8_want
set_option maxRecDepth 20000 in
theorem ggL_plan_X8_plan : GoodIn wsL_plan wsX8_plan := goodIn_ca (goodIn_ca (goodIn_r _ [6, 7, 8, 9, 10, 11, 12, 13, 14, 15, 16, 17, 18, 19, 20, 21, 22, 23, 24, 25, 26, 27, 28, 29, 30, 31, 32, 33, 34, 35, 36, 37, 38, 39, 40, 41, 42, 43, 44, 45, 46, 47, 48, 49, 50, 51, 52, 53, 54, 55, 56, 57, 58, 59, 60, 61, 62, 63, 64, 65, 66, 67, 68, 69, 70, 71, 72, 73, 74, 75, 76, 77, 78, 79] (by decide +kernel) (by decide +kernel)) (goodIn_sub (fun _ h => List.mem_cons_of_mem _ (List.mem_append_right _ h)) (by decide +kernel))) (goodIn_sub (fun _ h => List.mem_cons_of_mem _ (List.mem_append_left _ (List.mem_append_right _ h))) (by decide +kernel))
set_option maxRecDepth 20000 in
theorem gL_plan_X8_plan : GoodIn wsL_plan (wsV RL 62 RX8 yX8_plan wsX8_plan) := goodIn_app (goodIn_of _ (by decide +kernel)) ggL_plan_X8_plan

