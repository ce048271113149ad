set_option maxRecDepth 20000 in
theorem ggX0_size_X0_relaysNear : GoodIn wsX0_size wsX0_relaysNear := goodIn_r _ [10, 1, 11, 12, 13, 14, 15, 16, 17, 18, 19, 20, 21, 22, 23, 24, 25, 26, 27, 28, 29, 30, 31, 32, 33, 34, 35, 36, 37, 38, 39, 40, 41, 82, 83, 84, 85, 86, 87, 88, 89, 90, 91, 92, 93, 94, 95, 96, 97, 98, 99, 100] (by decide +kernel) (by decide +kernel)
set_option maxRecDepth 20000 in
theorem gX0_size_X0_relaysNear : GoodIn wsX0_size (wsV RX0 35 RX0 yX0_relaysNear wsX0_relaysNear) := goodIn_app (goodIn_of _ (by decide +kernel)) ggX0_size_X0_relaysNear
set_option maxRecDepth 20000 in
theorem ggX0_size_X0_search : GoodIn wsX0_size wsX0_search := goodIn_r _ [45, 46, 47, 1, 2, 48, 49, 50, 51, 52, 39, 40, 41, 53, 54, 9, 55, 56, 57, 58, 59, 60, 61, 62, 63, 64, 65, 66, 67, 68, 69, 5, 3, 70, 71, 72, 73, 4, 74, 75, 76, 82, 83, 84, 85, 86, 87, 88, 89, 90, 91, 92, 93, 94, 95, 96, 97, 98, 99, 100] (by decide +kernel) (by decide +kernel)
set_option maxRecDepth 20000 in
theorem gX0_size_X0_search : GoodIn wsX0_size (wsV RX0 43 RX0 yX0_search wsX0_search) := goodIn_app (goodIn_of _ (by decide +kernel)) ggX0_size_X0_search
set_option maxRecDepth 20000 in
theorem ggX0_size_X0_addWay : GoodIn wsX0_size wsX0_addWay := goodIn_r _ [80, 46, 5, 4, 81, 63, 64, 9, 65, 39, 40, 41, 60, 61, 62, 82, 83, 84, 85, 86, 87, 88] (by decide +kernel) (by decide +kernel)
set_option maxRecDepth 20000 in
theorem gX0_size_X0_addWay : GoodIn wsX0_size (wsV RX0 47 RX0 yX0_addWay wsX0_addWay) := goodIn_app (goodIn_of _ (by decide +kernel)) ggX0_size_X0_addWay
set_option maxRecDepth 20000 in
theorem ggX0_relaysNear_X3_nearTo : GoodIn wsX0_relaysNear wsX3_nearTo := goodIn_r _ [6, 7, 8, 9, 10, 11, 12, 40, 41, 42, 43, 44, 45, 46, 47, 48, 49, 50, 51] (by decide +kernel) (by decide +kernel)
set_option maxRecDepth 20000 in
theorem gX0_relaysNear_X3_nearTo : GoodIn wsX0_relaysNear (wsV RX0 51 RX3 yX3_nearTo wsX3_nearTo) := goodIn_app (goodIn_of _ (by decide +kernel)) ggX0_relaysNear_X3_nearTo
set_option maxRecDepth 20000 in
theorem ggX0_relaysNear_X3_nearFrom : GoodIn wsX0_relaysNear wsX3_nearFrom := goodIn_r _ [16, 7, 8, 17, 18, 11, 19, 40, 41, 42, 43, 44, 45, 46, 47, 48, 49, 50, 51] (by decide +kernel) (by decide +kernel)
set_option maxRecDepth 20000 in
theorem gX0_relaysNear_X3_nearFrom : GoodIn wsX0_relaysNear (wsV RX0 55 RX3 yX3_nearFrom wsX3_nearFrom) := goodIn_app (goodIn_of _ (by decide +kernel)) ggX0_relaysNear_X3_nearFrom
set_option maxRecDepth 20000 in
theorem ggX0_relaysNear_X3_isThere : GoodIn wsX0_relaysNear wsX3_isThere := goodIn_r _ [23, 24, 25, 26, 5, 27, 28, 29, 40, 41, 42, 43, 44, 45, 46, 47, 48, 49, 50, 51] (by decide +kernel) (by decide +kernel)
set_option maxRecDepth 20000 in
theorem gX0_relaysNear_X3_isThere : GoodIn wsX0_relaysNear (wsV RX0 58 RX3 yX3_isThere wsX3_isThere) := goodIn_app (goodIn_of _ (by decide +kernel)) ggX0_relaysNear_X3_isThere
set_option maxRecDepth 20000 in
theorem ggX0_relaysNear_X5_bit : GoodIn wsX0_relaysNear wsX5_bit := goodIn_r _ [32] (by decide +kernel) (by decide +kernel)
set_option maxRecDepth 20000 in
theorem gX0_relaysNear_X5_bit_n62 : GoodIn wsX0_relaysNear (wsX5_bit) := ggX0_relaysNear_X5_bit
set_option maxRecDepth 20000 in
theorem ggX0_search_J7_fill_53178 : GoodIn wsX0_search wsJ7_fill_53178 := goodIn_r _ [9] (by decide +kernel) (by decide +kernel)
set_option maxRecDepth 20000 in
theorem gX0_search_J7_fill_53178 : GoodIn wsX0_search (va_wsS RX0 66 yJ7_fill_53178 wsJ7_fill_53178) := goodIn_app (goodIn_of _ (by decide +kernel)) ggX0_search_J7_fill_53178
set_option maxRecDepth 20000 in
theorem ggX0_search_X5_bit : GoodIn wsX0_search wsX5_bit := goodIn_r _ [12] (by decide +kernel) (by decide +kernel)
set_option maxRecDepth 20000 in
theorem gX0_search_X5_bit_n62 : GoodIn wsX0_search (wsX5_bit) := ggX0_search_X5_bit
set_option maxRecDepth 20000 in
theorem ggX0_search_X0_doorIn : GoodIn wsX0_search wsX0_doorIn := goodIn_r _ [16] (by decide +kernel) (by decide +kernel)
set_option maxRecDepth 20000 in
theorem gX0_search_X0_doorIn : GoodIn wsX0_search (va_wsS RX0 75 yX0_doorIn wsX0_doorIn) := goodIn_app (goodIn_of _ (by decide +kernel)) ggX0_search_X0_doorIn
set_option maxRecDepth 20000 in
theorem ggX0_search_X0_enter : GoodIn wsX0_search wsX0_enter := goodIn_r _ [20, 1, 2, 5, 41, 42, 43, 44, 45, 46, 47] (by decide +kernel) (by decide +kernel)
set_option maxRecDepth 20000 in
theorem gX0_search_X0_enter : GoodIn wsX0_search (wsV RX0 78 RX0 yX0_enter wsX0_enter) := goodIn_app (goodIn_of _ (by decide +kernel)) ggX0_search_X0_enter
set_option maxRecDepth 20000 in
theorem ggX0_search_X0_isOut : GoodIn wsX0_search wsX0_isOut := goodIn_r _ [23] (by decide +kernel) (by decide +kernel)
set_option maxRecDepth 20000 in
theorem gX0_search_X0_isOut : GoodIn wsX0_search (va_wsS RX0 82 yX0_isOut wsX0_isOut) := goodIn_app (goodIn_of _ (by decide +kernel)) ggX0_search_X0_isOut
set_option maxRecDepth 20000 in
theorem ggX0_search_X0_relayOf : GoodIn wsX0_search wsX0_relayOf := goodIn_r _ [26] (by decide +kernel) (by decide +kernel)
set_option maxRecDepth 20000 in
theorem gX0_search_X0_relayOf : GoodIn wsX0_search (va_wsS RX0 86 yX0_relayOf wsX0_relayOf) := goodIn_app (goodIn_of _ (by decide +kernel)) ggX0_search_X0_relayOf
set_option maxRecDepth 20000 in
theorem ggX0_search_X0_goOnFromOut : GoodIn wsX0_search wsX0_goOnFromOut := goodIn_r _ [30, 31, 3, 4, 32, 24, 25, 15, 26, 10, 11, 12, 13, 14, 16, 17, 18, 19, 20, 1, 2, 5, 41, 42, 43, 44, 45, 46, 47, 48, 49, 50, 51, 52, 53, 54, 55, 56, 57, 58, 59] (by decide +kernel) (by decide +kernel)
set_option maxRecDepth 20000 in
theorem gX0_search_X0_goOnFromOut : GoodIn wsX0_search (wsV RX0 89 RX0 yX0_goOnFromOut wsX0_goOnFromOut) := goodIn_app (goodIn_of _ (by decide +kernel)) ggX0_search_X0_goOnFromOut
set_option maxRecDepth 20000 in
theorem ggX0_search_X0_goOnFromIn : GoodIn wsX0_search wsX0_goOnFromIn := goodIn_r _ [36, 31, 3, 4, 37, 24, 25, 15, 26, 10, 11, 12, 38, 39, 40, 17, 18, 19, 20, 1, 2, 5, 41, 42, 43, 44, 45, 46, 47, 48, 49, 50, 51, 52, 53, 54, 55, 56, 57, 58, 59] (by decide +kernel) (by decide +kernel)
set_option maxRecDepth 20000 in
theorem gX0_search_X0_goOnFromIn : GoodIn wsX0_search (wsV RX0 92 RX0 yX0_goOnFromIn wsX0_goOnFromIn) := goodIn_app (goodIn_of _ (by decide +kernel)) ggX0_search_X0_goOnFromIn
set_option maxRecDepth 20000 in
theorem ggX0_goOnFromIn_X0_relayOf : GoodIn wsX0_goOnFromIn wsX0_relayOf := goodIn_r _ [8] (by decide +kernel) (by decide +kernel)
set_option maxRecDepth 20000 in
theorem gX0_goOnFromIn_X0_relayOf : GoodIn wsX0_goOnFromIn (va_wsS RX0 86 yX0_relayOf wsX0_relayOf) := goodIn_app (goodIn_of _ (by decide +kernel)) ggX0_goOnFromIn_X0_relayOf
set_option maxRecDepth 20000 in
theorem ggX0_goOnFromIn_X5_bit : GoodIn wsX0_goOnFromIn wsX5_bit := goodIn_r _ [11] (by decide +kernel) (by decide +kernel)
set_option maxRecDepth 20000 in
theorem gX0_goOnFromIn_X5_bit_n62 : GoodIn wsX0_goOnFromIn (wsX5_bit) := ggX0_goOnFromIn_X5_bit
set_option maxRecDepth 20000 in
theorem ggX0_goOnFromIn_X0_doorOut : GoodIn wsX0_goOnFromIn wsX0_doorOut := goodIn_r _ [14] (by decide +kernel) (by decide +kernel)
set_option maxRecDepth 20000 in
theorem gX0_goOnFromIn_X0_doorOut : GoodIn wsX0_goOnFromIn (va_wsS RX0 95 yX0_doorOut wsX0_doorOut) := goodIn_app (goodIn_of _ (by decide +kernel)) ggX0_goOnFromIn_X0_doorOut
set_option maxRecDepth 20000 in
theorem ggX0_goOnFromIn_X0_enter : GoodIn wsX0_goOnFromIn wsX0_enter := goodIn_r _ [18, 19, 20, 21, 22, 23, 24, 25, 26, 27, 28] (by decide +kernel) (by decide +kernel)
set_option maxRecDepth 20000 in
theorem gX0_goOnFromIn_X0_enter : GoodIn wsX0_goOnFromIn (wsV RX0 78 RX0 yX0_enter wsX0_enter) := goodIn_app (goodIn_of _ (by decide +kernel)) ggX0_goOnFromIn_X0_enter
set_option maxRecDepth 20000 in
theorem ggX0_goOnFromOut_X0_relayOf : GoodIn wsX0_goOnFromOut wsX0_relayOf := goodIn_r _ [8] (by decide +kernel) (by decide +kernel)
set_option maxRecDepth 20000 in
theorem gX0_goOnFromOut_X0_relayOf : GoodIn wsX0_goOnFromOut (va_wsS RX0 86 yX0_relayOf wsX0_relayOf) := goodIn_app (goodIn_of _ (by decide +kernel)) ggX0_goOnFromOut_X0_relayOf
set_option maxRecDepth 20000 in
theorem ggX0_goOnFromOut_X5_bit : GoodIn wsX0_goOnFromOut wsX5_bit := goodIn_r _ [11] (by decide +kernel) (by decide +kernel)
set_option maxRecDepth 20000 in
theorem gX0_goOnFromOut_X5_bit_n62 : GoodIn wsX0_goOnFromOut (wsX5_bit) := ggX0_goOnFromOut_X5_bit
set_option maxRecDepth 20000 in
theorem ggX0_goOnFromOut_X0_doorIn : GoodIn wsX0_goOnFromOut wsX0_doorIn := goodIn_r _ [14] (by decide +kernel) (by decide +kernel)
set_option maxRecDepth 20000 in
theorem gX0_goOnFromOut_X0_doorIn : GoodIn wsX0_goOnFromOut (va_wsS RX0 75 yX0_doorIn wsX0_doorIn) := goodIn_app (goodIn_of _ (by decide +kernel)) ggX0_goOnFromOut_X0_doorIn
set_option maxRecDepth 20000 in
theorem ggX0_goOnFromOut_X0_enter : GoodIn wsX0_goOnFromOut wsX0_enter := goodIn_r _ [18, 19, 20, 21, 22, 23, 24, 25, 26, 27, 28] (by decide +kernel) (by decide +kernel)
set_option maxRecDepth 20000 in
theorem gX0_goOnFromOut_X0_enter : GoodIn wsX0_goOnFromOut (wsV RX0 78 RX0 yX0_enter wsX0_enter) := goodIn_app (goodIn_of _ (by decide +kernel)) ggX0_goOnFromOut_X0_enter
set_option maxRecDepth 20000 in
theorem ggX0_addWay_X0_relayOf : GoodIn wsX0_addWay wsX0_relayOf := goodIn_r _ [8] (by decide +kernel) (by decide +kernel)
set_option maxRecDepth 20000 in
theorem gX0_addWay_X0_relayOf : GoodIn wsX0_addWay (va_wsS RX0 86 yX0_relayOf wsX0_relayOf) := goodIn_app (goodIn_of _ (by decide +kernel)) ggX0_addWay_X0_relayOf
set_option maxRecDepth 20000 in
theorem ggX0_addWay_X5_bit : GoodIn wsX0_addWay wsX5_bit := goodIn_r _ [11] (by decide +kernel) (by decide +kernel)
set_option maxRecDepth 20000 in
theorem gX0_addWay_X5_bit_n62 : GoodIn wsX0_addWay (wsX5_bit) := ggX0_addWay_X5_bit
set_option maxRecDepth 20000 in
theorem ggX0_addWay_X0_isOut : GoodIn wsX0_addWay wsX0_isOut := goodIn_r _ [14] (by decide +kernel) (by decide +kernel)
set_option maxRecDepth 20000 in
theorem gX0_addWay_X0_isOut : GoodIn wsX0_addWay (va_wsS RX0 82 yX0_isOut wsX0_isOut) := goodIn_app (goodIn_of _ (by decide +kernel)) ggX0_addWay_X0_isOut
set_option maxRecDepth 20000 in
theorem ggX1_init_X5_nodeOf : GoodIn wsX1_init wsX5_nodeOf := goodIn_r _ [15] (by decide +kernel) (by decide +kernel)
set_option maxRecDepth 20000 in
theorem gX1_init_X5_nodeOf_n36 : GoodIn wsX1_init (wsX5_nodeOf) := ggX1_init_X5_nodeOf
set_option maxRecDepth 20000 in
theorem ggX1_relay_X5_isRelay : GoodIn wsX1_relay wsX5_isRelay := goodIn_r _ [6] (by decide +kernel) (by decide +kernel)
set_option maxRecDepth 20000 in
theorem gX1_relay_X5_isRelay_n43 : GoodIn wsX1_relay (wsX5_isRelay) := ggX1_relay_X5_isRelay
set_option maxRecDepth 20000 in
theorem ggX1_arrive_X5_isRelay : GoodIn wsX1_arrive wsX5_isRelay := goodIn_r _ [7] (by decide +kernel) (by decide +kernel)
set_option maxRecDepth 20000 in
theorem gX1_arrive_X5_isRelay_n43 : GoodIn wsX1_arrive (wsX5_isRelay) := ggX1_arrive_X5_isRelay
set_option maxRecDepth 20000 in
theorem ggX2_accept_X1_init : GoodIn wsX2_accept wsX1_init := goodIn_r _ [9, 10, 11, 12, 13, 14, 15, 16, 17, 18, 19, 20, 21, 22, 23, 24, 32, 33, 34, 35, 36, 37, 38, 39, 40, 41] (by decide +kernel) (by decide +kernel)
set_option maxRecDepth 20000 in
theorem gX2_accept_X1_init : GoodIn wsX2_accept (wsX1_init) := ggX2_accept_X1_init
set_option maxRecDepth 20000 in
theorem ggX2_run_X1_isSettled : GoodIn wsX2_run wsX1_isSettled := goodIn_r _ [9, 10, 147, 148, 149, 150, 151, 152, 153, 154, 155, 156] (by decide +kernel) (by decide +kernel)
set_option maxRecDepth 20000 in
theorem gX2_run_X1_isSettled : GoodIn wsX2_run (wsV RX2 43 RX1 yX1_isSettled wsX1_isSettled) := goodIn_app (goodIn_of _ (by decide +kernel)) ggX2_run_X1_isSettled
set_option maxRecDepth 20000 in
theorem ggX2_run_X4_refresh : GoodIn wsX2_run wsX4_refresh := goodIn_r _ [15, 16, 17, 18, 19, 20, 21, 22, 23, 24, 25, 26, 27, 28, 14, 29, 30, 31, 32, 33, 34, 35, 36, 37, 38, 39, 40, 41, 42, 43, 44, 45, 46, 47, 48, 49, 50, 51, 52, 53, 54, 55, 56, 57, 58, 59, 60, 61, 62, 63, 64, 65, 66, 67, 68, 69, 70, 71, 72, 73, 74, 75, 76, 157, 158, 159, 160, 161, 162, 163, 164, 165, 166, 167, 168, 169, 170, 171, 172, 173, 174, 175] (by decide +kernel) (by decide +kernel)
set_option maxRecDepth 20000 in
theorem gX2_run_X4_refresh : GoodIn wsX2_run (wsV RX2 50 RX4 yX4_refresh wsX4_refresh) := goodIn_app (goodIn_of _ (by decide +kernel)) ggX2_run_X4_refresh
set_option maxRecDepth 20000 in
theorem ggX2_run_X2_step : GoodIn wsX2_run wsX2_step := goodIn_r _ [81, 82, 1, 2, 83, 84, 85, 86, 87, 24, 88, 89, 90, 91, 8, 92, 10, 93, 94, 95, 80, 96, 97, 98, 99, 100, 101, 102, 3, 4, 103, 104, 105, 14, 106, 19, 45, 39, 46, 107, 108, 109, 48, 49, 35, 50, 37, 51, 110, 111, 112, 113, 114, 53, 54, 55, 56, 57, 58, 59, 60, 61, 115, 63, 64, 65, 66, 67, 68, 116, 70, 71, 72, 117, 118, 119, 120, 121, 122, 123, 124, 125, 126, 127, 128, 129, 130, 131, 132, 133, 134, 135, 136, 137, 138, 139, 23, 25, 5, 6, 7, 9, 140, 141, 142, 143, 144, 145, 146, 147, 148, 149, 150, 151, 152, 153, 154, 155, 156, 157, 158, 159, 160, 161, 162, 163, 164, 165, 166, 167, 168, 169, 170, 171, 172, 173, 174, 175] (by decide +kernel) (by decide +kernel)
set_option maxRecDepth 20000 in
theorem gX2_run_X2_step : GoodIn wsX2_run (wsV RX2 55 RX2 yX2_step wsX2_step) := goodIn_app (goodIn_of _ (by decide +kernel)) ggX2_run_X2_step
set_option maxRecDepth 20000 in
theorem ggX2_step_J7_fill_d0a16 : GoodIn wsX2_step wsJ7_fill_d0a16 := goodIn_r _ [10] (by decide +kernel) (by decide +kernel)
set_option maxRecDepth 20000 in
theorem gX2_step_J7_fill_d0a16 : GoodIn wsX2_step (va_wsS RX2 58 yJ7_fill_d0a16 wsJ7_fill_d0a16) := goodIn_app (goodIn_of _ (by decide +kernel)) ggX2_step_J7_fill_d0a16
set_option maxRecDepth 20000 in
theorem ggX2_step_X1_mayGo : GoodIn wsX2_step wsX1_mayGo := goodIn_r _ [15, 16, 109, 110, 111, 112, 113, 114, 115, 116, 117, 118] (by decide +kernel) (by decide +kernel)
set_option maxRecDepth 20000 in
theorem gX2_step_X1_mayGo : GoodIn wsX2_step (wsV RX2 64 RX1 yX1_mayGo wsX1_mayGo) := goodIn_app (goodIn_of _ (by decide +kernel)) ggX2_step_X1_mayGo
set_option maxRecDepth 20000 in
theorem ggX2_step_X2_setOut : GoodIn wsX2_step wsX2_setOut := goodIn_r _ [21, 1, 22, 4, 23, 24, 25, 26, 20, 27, 28, 29, 30, 31, 32, 33, 34, 35, 36, 37, 38, 39, 40, 41, 42, 43, 44, 45, 46, 47, 48, 49, 50, 51, 52, 53, 54, 55, 56, 57, 58, 59, 60, 61, 62, 63, 64, 65, 66, 67, 68, 69, 70, 71, 72, 73, 74, 75, 76, 77, 14, 78, 16, 79, 80, 81, 102, 103, 104, 105, 106, 107, 108, 109, 110, 111, 112, 113, 114, 115, 116, 117, 118, 119, 120, 121, 122, 123, 124, 125, 126, 127, 128, 129, 130, 131, 132, 133, 134, 135, 136, 137] (by decide +kernel) (by decide +kernel)
set_option maxRecDepth 20000 in
theorem gX2_step_X2_setOut : GoodIn wsX2_step (wsV RX2 67 RX2 yX2_setOut wsX2_setOut) := goodIn_app (goodIn_of _ (by decide +kernel)) ggX2_step_X2_setOut
set_option maxRecDepth 20000 in
theorem ggX2_step_X1_arrive : GoodIn wsX2_step wsX1_arrive := goodIn_r _ [85, 79, 86, 16, 87, 36, 37, 38, 109, 110, 111, 112, 113, 114, 115, 116, 117, 118] (by decide +kernel) (by decide +kernel)
set_option maxRecDepth 20000 in
theorem gX2_step_X1_arrive : GoodIn wsX2_step (wsV RX2 77 RX1 yX1_arrive wsX1_arrive) := goodIn_app (goodIn_of _ (by decide +kernel)) ggX2_step_X1_arrive
set_option maxRecDepth 20000 in
theorem ggX2_step_X2_handOut : GoodIn wsX2_step wsX2_handOut := goodIn_r _ [91, 92, 2, 3, 93, 29, 5, 4, 94, 95, 96, 9, 97, 98, 99, 100, 14, 101, 16, 102, 103, 104, 105, 106, 107, 108, 109, 110, 111, 112, 113, 114, 115, 116, 117, 118] (by decide +kernel) (by decide +kernel)
set_option maxRecDepth 20000 in
theorem gX2_step_X2_handOut : GoodIn wsX2_step (wsV RX2 81 RX2 yX2_handOut wsX2_handOut) := goodIn_app (goodIn_of _ (by decide +kernel)) ggX2_step_X2_handOut
set_option maxRecDepth 20000 in
theorem ggX2_setOut_X2_choose : GoodIn wsX2_setOut wsX2_choose := goodIn_r _ [9, 10, 11, 2, 3, 4, 12, 13, 14, 15, 16, 17, 18, 19, 20, 21, 22, 23, 24, 25, 26, 27, 28, 29, 30, 31, 32, 8, 33, 34, 35, 36, 37, 38, 39, 40, 41, 42, 43, 44, 45, 46, 47, 48, 49, 50, 51, 52, 53, 54, 66, 67, 68, 69, 70, 71, 72, 73, 74, 75, 76, 77, 78, 79, 80, 81, 82, 83, 84, 85, 86, 87, 88, 89, 90, 91, 92, 93, 94, 95, 96, 97, 98, 99, 100, 101] (by decide +kernel) (by decide +kernel)
set_option maxRecDepth 20000 in
theorem gX2_setOut_X2_choose : GoodIn wsX2_setOut (wsV RX2 84 RX2 yX2_choose wsX2_choose) := goodIn_app (goodIn_of _ (by decide +kernel)) ggX2_setOut_X2_choose
set_option maxRecDepth 20000 in
theorem ggX2_setOut_X5_bit : GoodIn wsX2_setOut wsX5_bit := goodIn_r _ [56] (by decide +kernel) (by decide +kernel)
set_option maxRecDepth 20000 in
theorem gX2_setOut_X5_bit_n91 : GoodIn wsX2_setOut (wsX5_bit) := ggX2_setOut_X5_bit
set_option maxRecDepth 20000 in
theorem ggX2_setOut_X3_lengthOf : GoodIn wsX2_setOut wsX3_lengthOf := goodIn_r _ [54, 39, 18, 19, 20, 90, 91, 92, 93, 94, 95, 96, 97, 98, 99, 100, 101] (by decide +kernel) (by decide +kernel)
set_option maxRecDepth 20000 in
theorem gX2_setOut_X3_lengthOf : GoodIn wsX2_setOut (wsV RX2 95 RX3 yX3_lengthOf wsX3_lengthOf) := goodIn_app (goodIn_of _ (by decide +kernel)) ggX2_setOut_X3_lengthOf
set_option maxRecDepth 20000 in
theorem ggX2_setOut_X1_take : GoodIn wsX2_setOut wsX1_take := goodIn_r _ [61, 62, 63, 64, 65, 73, 74, 75, 76, 77, 78, 79, 80, 81, 82] (by decide +kernel) (by decide +kernel)
set_option maxRecDepth 20000 in
theorem gX2_setOut_X1_take : GoodIn wsX2_setOut (wsV RX2 101 RX1 yX1_take wsX1_take) := goodIn_app (goodIn_of _ (by decide +kernel)) ggX2_setOut_X1_take
set_option maxRecDepth 20000 in
theorem ggX2_choose_X4_lateness : GoodIn wsX2_choose wsX4_lateness := goodIn_r _ [10, 11, 67, 68, 69, 70, 71, 72, 73] (by decide +kernel) (by decide +kernel)
set_option maxRecDepth 20000 in
theorem gX2_choose_X4_lateness : GoodIn wsX2_choose (wsV RX2 105 RX4 yX4_lateness wsX4_lateness) := goodIn_app (goodIn_of _ (by decide +kernel)) ggX2_choose_X4_lateness
set_option maxRecDepth 20000 in
theorem ggX2_choose_X5_isRelay : GoodIn wsX2_choose wsX5_isRelay := goodIn_r _ [14] (by decide +kernel) (by decide +kernel)
set_option maxRecDepth 20000 in
theorem gX2_choose_X5_isRelay_n108 : GoodIn wsX2_choose (wsX5_isRelay) := ggX2_choose_X5_isRelay
set_option maxRecDepth 20000 in
theorem ggX2_choose_X5_nodeOf : GoodIn wsX2_choose wsX5_nodeOf := goodIn_r _ [16] (by decide +kernel) (by decide +kernel)
set_option maxRecDepth 20000 in
theorem gX2_choose_X5_nodeOf_n112 : GoodIn wsX2_choose (wsX5_nodeOf) := ggX2_choose_X5_nodeOf
set_option maxRecDepth 20000 in
theorem ggX2_choose_X3_ticksToTake : GoodIn wsX2_choose wsX3_ticksToTake := goodIn_r _ [21, 22, 23, 74, 75, 76, 77, 78, 79, 80, 81, 82, 83, 84, 85] (by decide +kernel) (by decide +kernel)
set_option maxRecDepth 20000 in
theorem gX2_choose_X3_ticksToTake : GoodIn wsX2_choose (wsV RX2 116 RX3 yX3_ticksToTake wsX3_ticksToTake) := goodIn_app (goodIn_of _ (by decide +kernel)) ggX2_choose_X3_ticksToTake
set_option maxRecDepth 20000 in
theorem ggX2_choose_X2_isNow : GoodIn wsX2_choose wsX2_isNow := goodIn_r _ [28, 4, 50, 51, 52, 53, 54, 55, 56] (by decide +kernel) (by decide +kernel)
set_option maxRecDepth 20000 in
theorem gX2_choose_X2_isNow : GoodIn wsX2_choose (wsV RX2 119 RX2 yX2_isNow wsX2_isNow) := goodIn_app (goodIn_of _ (by decide +kernel)) ggX2_choose_X2_isNow
set_option maxRecDepth 20000 in
theorem ggX2_choose_X3_nearTo : GoodIn wsX2_choose wsX3_nearTo := goodIn_r _ [32, 33, 34, 35, 36, 37, 38, 74, 75, 76, 77, 78, 79, 80, 81, 82, 83, 84, 85] (by decide +kernel) (by decide +kernel)
set_option maxRecDepth 20000 in
theorem gX2_choose_X3_nearTo : GoodIn wsX2_choose (wsV RX2 122 RX3 yX3_nearTo wsX3_nearTo) := goodIn_app (goodIn_of _ (by decide +kernel)) ggX2_choose_X3_nearTo
set_option maxRecDepth 20000 in
theorem ggX2_choose_X3_nearFrom : GoodIn wsX2_choose wsX3_nearFrom := goodIn_r _ [42, 33, 34, 43, 44, 37, 45, 74, 75, 76, 77, 78, 79, 80, 81, 82, 83, 84, 85] (by decide +kernel) (by decide +kernel)
set_option maxRecDepth 20000 in
theorem gX2_choose_X3_nearFrom : GoodIn wsX2_choose (wsV RX2 125 RX3 yX3_nearFrom wsX3_nearFrom) := goodIn_app (goodIn_of _ (by decide +kernel)) ggX2_choose_X3_nearFrom
set_option maxRecDepth 20000 in
theorem ggX2_choose_X3_lengthOf : GoodIn wsX2_choose wsX3_lengthOf := goodIn_r _ [49, 34, 12, 13, 14, 74, 75, 76, 77, 78, 79, 80, 81, 82, 83, 84, 85] (by decide +kernel) (by decide +kernel)
set_option maxRecDepth 20000 in
theorem gX2_choose_X3_lengthOf : GoodIn wsX2_choose (wsV RX2 95 RX3 yX3_lengthOf wsX3_lengthOf) := goodIn_app (goodIn_of _ (by decide +kernel)) ggX2_choose_X3_lengthOf
set_option maxRecDepth 20000 in
theorem ggX2_lose_X1_hangsOn : GoodIn wsX2_lose wsX1_hangsOn := goodIn_r _ [8, 9, 10, 11, 37, 38, 39, 40, 41, 42, 43, 44, 45, 46] (by decide +kernel) (by decide +kernel)
set_option maxRecDepth 20000 in
theorem gX2_lose_X1_hangsOn : GoodIn wsX2_lose (wsV RX2 128 RX1 yX1_hangsOn wsX1_hangsOn) := goodIn_app (goodIn_of _ (by decide +kernel)) ggX2_lose_X1_hangsOn
set_option maxRecDepth 20000 in
theorem ggX2_lose_X2_handOut : GoodIn wsX2_lose wsX2_handOut := goodIn_r _ [16, 17, 1, 2, 18, 19, 3, 20, 21, 22, 23, 24, 25, 26, 27, 28, 7, 29, 9, 30, 31, 32, 33, 34, 35, 36, 37, 38, 39, 40, 41, 42, 43, 44, 45, 46] (by decide +kernel) (by decide +kernel)
set_option maxRecDepth 20000 in
theorem gX2_lose_X2_handOut : GoodIn wsX2_lose (wsV RX2 81 RX2 yX2_handOut wsX2_handOut) := goodIn_app (goodIn_of _ (by decide +kernel)) ggX2_lose_X2_handOut
set_option maxRecDepth 20000 in
theorem ggX2_handOut_J7_fill_53178 : GoodIn wsX2_handOut wsJ7_fill_53178 := goodIn_r _ [12] (by decide +kernel) (by decide +kernel)
set_option maxRecDepth 20000 in
theorem gX2_handOut_J7_fill_53178 : GoodIn wsX2_handOut (va_wsS RX2 131 yJ7_fill_53178 wsJ7_fill_53178) := goodIn_app (goodIn_of _ (by decide +kernel)) ggX2_handOut_J7_fill_53178
set_option maxRecDepth 20000 in
theorem ggX2_handOut_X1_isSettled : GoodIn wsX2_handOut wsX1_isSettled := goodIn_r _ [17, 18, 26, 27, 28, 29, 30, 31, 32, 33, 34, 35] (by decide +kernel) (by decide +kernel)
set_option maxRecDepth 20000 in
theorem gX2_handOut_X1_isSettled : GoodIn wsX2_handOut (wsV RX2 43 RX1 yX1_isSettled wsX1_isSettled) := goodIn_app (goodIn_of _ (by decide +kernel)) ggX2_handOut_X1_isSettled
set_option maxRecDepth 20000 in
theorem ggX3_addPlane_X3_placeNode : GoodIn wsX3_addPlane wsX3_placeNode := goodIn_r _ [10, 11, 12, 13, 14, 67, 68, 69, 70, 71, 72, 73, 74, 75, 76, 77, 78] (by decide +kernel) (by decide +kernel)
set_option maxRecDepth 20000 in
theorem gX3_addPlane_X3_placeNode : GoodIn wsX3_addPlane (wsV RX3 44 RX3 yX3_placeNode wsX3_placeNode) := goodIn_app (goodIn_of _ (by decide +kernel)) ggX3_addPlane_X3_placeNode
set_option maxRecDepth 20000 in
theorem ggX3_addPlane_X3_tieToRelays : GoodIn wsX3_addPlane wsX3_tieToRelays := goodIn_r _ [18, 19, 20, 21, 9, 22, 23, 24, 25, 26, 27, 28, 12, 13, 29, 30, 31, 32, 33, 34, 35, 36, 37, 38, 39, 4, 40, 41, 42, 43, 11, 3, 44, 45, 46, 47, 48, 49, 50, 51, 52, 53, 54, 55, 56, 57, 58, 59, 67, 68, 69, 70, 71, 72, 73, 74, 75, 76, 77, 78] (by decide +kernel) (by decide +kernel)
set_option maxRecDepth 20000 in
theorem gX3_addPlane_X3_tieToRelays : GoodIn wsX3_addPlane (wsV RX3 48 RX3 yX3_tieToRelays wsX3_tieToRelays) := goodIn_app (goodIn_of _ (by decide +kernel)) ggX3_addPlane_X3_tieToRelays
set_option maxRecDepth 20000 in
theorem ggX3_addPlane_X3_tieToPosts : GoodIn wsX3_addPlane wsX3_tieToPosts := goodIn_r _ [63, 64, 65, 30, 66, 19, 20, 21, 9, 22, 23, 24, 25, 26, 27, 28, 12, 13, 29, 31, 32, 33, 34, 35, 36, 37, 38, 39, 4, 40, 41, 42, 43, 11, 3, 44, 45, 46, 47, 48, 49, 50, 51, 52, 53, 54, 55, 56, 57, 58, 59, 67, 68, 69, 70, 71, 72, 73, 74, 75, 76, 77, 78] (by decide +kernel) (by decide +kernel)
set_option maxRecDepth 20000 in
theorem gX3_addPlane_X3_tieToPosts : GoodIn wsX3_addPlane (wsV RX3 52 RX3 yX3_tieToPosts wsX3_tieToPosts) := goodIn_app (goodIn_of _ (by decide +kernel)) ggX3_addPlane_X3_tieToPosts
set_option maxRecDepth 20000 in
theorem ggX3_addPost_X5_nodeOf : GoodIn wsX3_addPost wsX5_nodeOf := goodIn_r _ [6] (by decide +kernel) (by decide +kernel)
set_option maxRecDepth 20000 in
theorem gX3_addPost_X5_nodeOf_n61 : GoodIn wsX3_addPost (wsX5_nodeOf) := ggX3_addPost_X5_nodeOf
set_option maxRecDepth 20000 in
theorem ggX3_addPost_X3_placeNode : GoodIn wsX3_addPost wsX3_placeNode := goodIn_r _ [11, 12, 13, 14, 15, 58, 59, 60, 61, 62, 63, 64, 65, 66, 67, 68, 69] (by decide +kernel) (by decide +kernel)
set_option maxRecDepth 20000 in
theorem gX3_addPost_X3_placeNode : GoodIn wsX3_addPost (wsV RX3 44 RX3 yX3_placeNode wsX3_placeNode) := goodIn_app (goodIn_of _ (by decide +kernel)) ggX3_addPost_X3_placeNode
set_option maxRecDepth 20000 in
theorem ggX3_addPost_X3_tie : GoodIn wsX3_addPost wsX3_tie := goodIn_r _ [19, 20, 21, 22, 23, 24, 10, 25, 13, 14, 26, 5, 27, 28, 29, 30, 31, 32, 33, 34, 35, 36, 37, 38, 39, 40, 12, 41, 42, 43, 44, 45, 46, 47, 48, 49, 50, 51, 52, 53, 54, 55, 56, 57, 58, 59, 60, 61, 62, 63, 64, 65, 66, 67, 68, 69] (by decide +kernel) (by decide +kernel)
set_option maxRecDepth 20000 in
theorem gX3_addPost_X3_tie : GoodIn wsX3_addPost (wsV RX3 65 RX3 yX3_tie wsX3_tie) := goodIn_app (goodIn_of _ (by decide +kernel)) ggX3_addPost_X3_tie
set_option maxRecDepth 20000 in
theorem ggX3_tieToRelays_X3_tie : GoodIn wsX3_tieToRelays wsX3_tie := goodIn_r _ [5, 6, 7, 8, 9, 10, 4, 11, 12, 13, 14, 15, 16, 17, 18, 19, 20, 21, 22, 23, 24, 25, 26, 27, 28, 29, 30, 31, 32, 33, 34, 35, 36, 37, 38, 39, 40, 41, 42, 43, 44, 45, 46, 47, 48, 49, 50, 51, 52, 53, 54, 55, 56, 57, 58, 59] (by decide +kernel) (by decide +kernel)
set_option maxRecDepth 20000 in
theorem gX3_tieToRelays_X3_tie : GoodIn wsX3_tieToRelays (wsV RX3 65 RX3 yX3_tie wsX3_tie) := goodIn_app (goodIn_of _ (by decide +kernel)) ggX3_tieToRelays_X3_tie
set_option maxRecDepth 20000 in
theorem ggX3_tieToPosts_X5_nodeOf : GoodIn wsX3_tieToPosts wsX5_nodeOf := goodIn_r _ [4] (by decide +kernel) (by decide +kernel)
set_option maxRecDepth 20000 in
theorem gX3_tieToPosts_X5_nodeOf_n61 : GoodIn wsX3_tieToPosts (wsX5_nodeOf) := ggX3_tieToPosts_X5_nodeOf
set_option maxRecDepth 20000 in
theorem ggX3_tieToPosts_X3_tie : GoodIn wsX3_tieToPosts wsX3_tie := goodIn_r _ [9, 10, 11, 12, 13, 14, 8, 15, 16, 17, 18, 3, 19, 20, 21, 22, 23, 24, 25, 26, 27, 28, 29, 30, 31, 32, 33, 34, 35, 36, 37, 38, 39, 40, 41, 42, 43, 44, 45, 46, 47, 48, 49, 50, 51, 52, 53, 54, 55, 56, 57, 58, 59, 60, 61, 62] (by decide +kernel) (by decide +kernel)
set_option maxRecDepth 20000 in
theorem gX3_tieToPosts_X3_tie : GoodIn wsX3_tieToPosts (wsV RX3 65 RX3 yX3_tie wsX3_tie) := goodIn_app (goodIn_of _ (by decide +kernel)) ggX3_tieToPosts_X3_tie
set_option maxRecDepth 20000 in
theorem ggX3_tie_X3_reckonTicks : GoodIn wsX3_tie wsX3_reckonTicks := goodIn_r _ [7, 8, 9, 10, 11, 12, 13, 14, 15, 6, 16, 17, 18, 19, 20, 21, 22, 23, 24, 25, 26, 27, 28, 29, 30, 31, 32, 33, 34, 35, 36, 37, 44, 45, 46, 47, 48, 49, 50, 51, 52, 53, 54, 55] (by decide +kernel) (by decide +kernel)
set_option maxRecDepth 20000 in
theorem gX3_tie_X3_reckonTicks : GoodIn wsX3_tie (wsV RX3 69 RX3 yX3_reckonTicks wsX3_reckonTicks) := goodIn_app (goodIn_of _ (by decide +kernel)) ggX3_tie_X3_reckonTicks
set_option maxRecDepth 20000 in
theorem ggX3_tie_X5_ahead : GoodIn wsX3_tie wsX5_ahead := goodIn_r _ [39] (by decide +kernel) (by decide +kernel)
set_option maxRecDepth 20000 in
theorem gX3_tie_X5_ahead_n73 : GoodIn wsX3_tie (wsX5_ahead) := ggX3_tie_X5_ahead
set_option maxRecDepth 20000 in
theorem ggX3_tie_X3_lengthOf : GoodIn wsX3_tie wsX3_lengthOf := goodIn_r _ [43, 8, 10, 11, 12, 44, 45, 46, 47, 48, 49, 50, 51, 52, 53, 54, 55] (by decide +kernel) (by decide +kernel)
set_option maxRecDepth 20000 in
theorem gX3_tie_X3_lengthOf : GoodIn wsX3_tie (wsV RX3 76 RX3 yX3_lengthOf wsX3_lengthOf) := goodIn_app (goodIn_of _ (by decide +kernel)) ggX3_tie_X3_lengthOf
set_option maxRecDepth 20000 in
theorem ggX3_reckonTicks_X5_isRelay : GoodIn wsX3_reckonTicks wsX5_isRelay := goodIn_r _ [5] (by decide +kernel) (by decide +kernel)
set_option maxRecDepth 20000 in
theorem gX3_reckonTicks_X5_isRelay_n79 : GoodIn wsX3_reckonTicks (wsX5_isRelay) := ggX3_reckonTicks_X5_isRelay
set_option maxRecDepth 20000 in
theorem ggX3_reckonTicks_X3_areNext : GoodIn wsX3_reckonTicks wsX3_areNext := goodIn_r _ [10, 11, 12, 13, 14, 1, 15, 32, 33, 34, 35, 36, 37, 38, 39, 40, 41, 42, 43] (by decide +kernel) (by decide +kernel)
set_option maxRecDepth 20000 in
theorem gX3_reckonTicks_X3_areNext : GoodIn wsX3_reckonTicks (wsV RX3 83 RX3 yX3_areNext wsX3_areNext) := goodIn_app (goodIn_of _ (by decide +kernel)) ggX3_reckonTicks_X3_areNext
set_option maxRecDepth 20000 in
theorem ggX3_reckonTicks_X3_placeOf : GoodIn wsX3_reckonTicks wsX3_placeOf := goodIn_r _ [19, 20, 21, 22, 23, 24, 25, 32, 33, 34, 35, 36, 37, 38, 39, 40, 41, 42, 43] (by decide +kernel) (by decide +kernel)
set_option maxRecDepth 20000 in
theorem gX3_reckonTicks_X3_placeOf : GoodIn wsX3_reckonTicks (wsV RX3 87 RX3 yX3_placeOf wsX3_placeOf) := goodIn_app (goodIn_of _ (by decide +kernel)) ggX3_reckonTicks_X3_placeOf
set_option maxRecDepth 20000 in
theorem ggX3_reckonTicks_X3_apart : GoodIn wsX3_reckonTicks wsX3_apart := goodIn_r _ [28, 11, 12, 13, 14, 29, 30, 31] (by decide +kernel) (by decide +kernel)
set_option maxRecDepth 20000 in
theorem gX3_reckonTicks_X3_apart : GoodIn wsX3_reckonTicks (va_wsS RX3 90 yX3_apart wsX3_apart) := goodIn_app (goodIn_of _ (by decide +kernel)) ggX3_reckonTicks_X3_apart
set_option maxRecDepth 20000 in
theorem ggX3_placeOf_J9_floorMod_7cf53 : GoodIn wsX3_placeOf wsJ9_floorMod_7cf53 := goodIn_r _ [6] (by decide +kernel) (by decide +kernel)
set_option maxRecDepth 20000 in
theorem gX3_placeOf_J9_floorMod_7cf53 : GoodIn wsX3_placeOf (va_wsS RX3 101 yJ9_floorMod_7cf53 wsJ9_floorMod_7cf53) := goodIn_app (goodIn_of _ (by decide +kernel)) ggX3_placeOf_J9_floorMod_7cf53
set_option maxRecDepth 20000 in
theorem ggX3_lengthOf_X5_isRelay : GoodIn wsX3_lengthOf wsX5_isRelay := goodIn_r _ [4] (by decide +kernel) (by decide +kernel)
set_option maxRecDepth 20000 in
theorem gX3_lengthOf_X5_isRelay_n79 : GoodIn wsX3_lengthOf (wsX5_isRelay) := ggX3_lengthOf_X5_isRelay
set_option maxRecDepth 20000 in
theorem ggX3_isThere_X3_ticksThere : GoodIn wsX3_isThere wsX3_ticksThere := goodIn_r _ [5, 6, 7, 8, 9, 10, 11, 12, 13, 14, 15, 16, 17, 18, 19] (by decide +kernel) (by decide +kernel)
set_option maxRecDepth 20000 in
theorem gX3_isThere_X3_ticksThere : GoodIn wsX3_isThere (wsV RX3 104 RX3 yX3_ticksThere wsX3_ticksThere) := goodIn_app (goodIn_of _ (by decide +kernel)) ggX3_isThere_X3_ticksThere
set_option maxRecDepth 20000 in
theorem ggX3_linksOfRelays_X3_nearTo : GoodIn wsX3_linksOfRelays wsX3_nearTo := goodIn_r _ [6, 7, 8, 9, 10, 11, 12, 23, 24, 25, 26, 27, 28, 29, 30, 31, 32, 33, 34] (by decide +kernel) (by decide +kernel)
set_option maxRecDepth 20000 in
theorem gX3_linksOfRelays_X3_nearTo : GoodIn wsX3_linksOfRelays (wsV RX3 110 RX3 yX3_nearTo wsX3_nearTo) := goodIn_app (goodIn_of _ (by decide +kernel)) ggX3_linksOfRelays_X3_nearTo
set_option maxRecDepth 20000 in
theorem ggX3_linksOfRelays_X3_isThere : GoodIn wsX3_linksOfRelays wsX3_isThere := goodIn_r _ [16, 17, 18, 19, 5, 20, 21, 22, 23, 24, 25, 26, 27, 28, 29, 30, 31, 32, 33, 34] (by decide +kernel) (by decide +kernel)
set_option maxRecDepth 20000 in
theorem gX3_linksOfRelays_X3_isThere : GoodIn wsX3_linksOfRelays (wsV RX3 113 RX3 yX3_isThere wsX3_isThere) := goodIn_app (goodIn_of _ (by decide +kernel)) ggX3_linksOfRelays_X3_isThere
set_option maxRecDepth 20000 in
theorem ggX4_init_X5_nodeOf : GoodIn wsX4_init wsX5_nodeOf := goodIn_r _ [14] (by decide +kernel) (by decide +kernel)
set_option maxRecDepth 20000 in
theorem gX4_init_X5_nodeOf_n32 : GoodIn wsX4_init (wsX5_nodeOf) := ggX4_init_X5_nodeOf
set_option maxRecDepth 20000 in
theorem ggX4_refresh_J7_fill_53178 : GoodIn wsX4_refresh wsJ7_fill_53178 := goodIn_r _ [10] (by decide +kernel) (by decide +kernel)
set_option maxRecDepth 20000 in
theorem gX4_refresh_J7_fill_53178 : GoodIn wsX4_refresh (va_wsS RX4 44 yJ7_fill_53178 wsJ7_fill_53178) := goodIn_app (goodIn_of _ (by decide +kernel)) ggX4_refresh_J7_fill_53178
set_option maxRecDepth 20000 in
theorem ggX4_refresh_X4_grow : GoodIn wsX4_refresh wsX4_grow := goodIn_r _ [15, 5, 16, 2, 17, 6, 18, 19, 20, 21, 22, 23, 24, 25, 26, 27, 28, 29, 14, 30, 31, 32, 33, 34, 35, 36, 37, 38, 39, 40, 41, 42, 43, 44, 45, 46, 47, 48, 49, 50, 51, 52, 53, 54, 55, 56, 57, 58, 59, 60, 61, 62, 4, 63, 64, 65, 66, 67, 68, 69, 70, 71, 72, 73, 74, 75, 76, 77, 78, 79, 80, 81] (by decide +kernel) (by decide +kernel)
set_option maxRecDepth 20000 in
theorem gX4_refresh_X4_grow : GoodIn wsX4_refresh (wsV RX4 50 RX4 yX4_grow wsX4_grow) := goodIn_app (goodIn_of _ (by decide +kernel)) ggX4_refresh_X4_grow
set_option maxRecDepth 20000 in
theorem ggX4_extreme_X4_lateness : GoodIn wsX4_extreme wsX4_lateness := goodIn_r _ [12, 13, 14, 15, 16, 17, 18, 19, 20] (by decide +kernel) (by decide +kernel)
set_option maxRecDepth 20000 in
theorem gX4_extreme_X4_lateness : GoodIn wsX4_extreme (wsV RX4 54 RX4 yX4_lateness wsX4_lateness) := goodIn_app (goodIn_of _ (by decide +kernel)) ggX4_extreme_X4_lateness
set_option maxRecDepth 20000 in
theorem ggX4_grow_X3_isUp : GoodIn wsX4_grow wsX3_isUp := goodIn_r _ [10, 11, 60, 61, 62, 63, 64, 65, 66, 67, 68, 69, 70, 71] (by decide +kernel) (by decide +kernel)
set_option maxRecDepth 20000 in
theorem gX4_grow_X3_isUp : GoodIn wsX4_grow (wsV RX4 66 RX3 yX3_isUp wsX3_isUp) := goodIn_app (goodIn_of _ (by decide +kernel)) ggX4_grow_X3_isUp
set_option maxRecDepth 20000 in
theorem ggX4_grow_X5_ahead : GoodIn wsX4_grow wsX5_ahead := goodIn_r _ [14] (by decide +kernel) (by decide +kernel)
set_option maxRecDepth 20000 in
theorem gX4_grow_X5_ahead_n69 : GoodIn wsX4_grow (wsX5_ahead) := ggX4_grow_X5_ahead
set_option maxRecDepth 20000 in
theorem ggX4_grow_X4_overLinks : GoodIn wsX4_grow wsX4_overLinks := goodIn_r _ [19, 3, 2, 1, 5, 20, 13, 21, 22, 23, 24, 9, 25, 11, 26, 27, 28, 29, 30, 31, 32, 33, 34, 35, 36, 37, 38, 39, 40, 41, 42, 43, 44, 45, 46, 47, 12, 14, 53, 54, 55, 56, 57, 58, 59, 60, 61, 62, 63, 64, 65, 66, 67, 68, 69, 70, 71] (by decide +kernel) (by decide +kernel)
set_option maxRecDepth 20000 in
theorem gX4_grow_X4_overLinks : GoodIn wsX4_grow (wsV RX4 72 RX4 yX4_overLinks wsX4_overLinks) := goodIn_app (goodIn_of _ (by decide +kernel)) ggX4_grow_X4_overLinks
set_option maxRecDepth 20000 in
theorem ggX4_grow_X4_note : GoodIn wsX4_grow wsX4_note := goodIn_r _ [51, 52, 53, 54, 55, 56, 57, 58, 59] (by decide +kernel) (by decide +kernel)
set_option maxRecDepth 20000 in
theorem gX4_grow_X4_note : GoodIn wsX4_grow (wsV RX4 75 RX4 yX4_note wsX4_note) := goodIn_app (goodIn_of _ (by decide +kernel)) ggX4_grow_X4_note
set_option maxRecDepth 20000 in
theorem ggX4_overLinks_X5_isRelay : GoodIn wsX4_overLinks wsX5_isRelay := goodIn_r _ [7] (by decide +kernel) (by decide +kernel)
set_option maxRecDepth 20000 in
theorem gX4_overLinks_X5_isRelay_n79 : GoodIn wsX4_overLinks (wsX5_isRelay) := ggX4_overLinks_X5_isRelay
set_option maxRecDepth 20000 in
theorem ggX4_overLinks_X3_ticksToTake : GoodIn wsX4_overLinks wsX3_ticksToTake := goodIn_r _ [12, 13, 14, 45, 46, 47, 48, 49, 50, 51, 52, 53, 54, 55, 56] (by decide +kernel) (by decide +kernel)
set_option maxRecDepth 20000 in
theorem gX4_overLinks_X3_ticksToTake : GoodIn wsX4_overLinks (wsV RX4 82 RX3 yX3_ticksToTake wsX3_ticksToTake) := goodIn_app (goodIn_of _ (by decide +kernel)) ggX4_overLinks_X3_ticksToTake
set_option maxRecDepth 20000 in
theorem ggX4_overLinks_X3_nearTo : GoodIn wsX4_overLinks wsX3_nearTo := goodIn_r _ [18, 19, 20, 21, 22, 23, 24, 45, 46, 47, 48, 49, 50, 51, 52, 53, 54, 55, 56] (by decide +kernel) (by decide +kernel)
set_option maxRecDepth 20000 in
theorem gX4_overLinks_X3_nearTo : GoodIn wsX4_overLinks (wsV RX4 85 RX3 yX3_nearTo wsX3_nearTo) := goodIn_app (goodIn_of _ (by decide +kernel)) ggX4_overLinks_X3_nearTo
set_option maxRecDepth 20000 in
theorem ggX4_overLinks_X3_nearFrom : GoodIn wsX4_overLinks wsX3_nearFrom := goodIn_r _ [28, 19, 20, 29, 30, 23, 31, 45, 46, 47, 48, 49, 50, 51, 52, 53, 54, 55, 56] (by decide +kernel) (by decide +kernel)
set_option maxRecDepth 20000 in
theorem gX4_overLinks_X3_nearFrom : GoodIn wsX4_overLinks (wsV RX4 88 RX3 yX3_nearFrom wsX3_nearFrom) := goodIn_app (goodIn_of _ (by decide +kernel)) ggX4_overLinks_X3_nearFrom
set_option maxRecDepth 20000 in
theorem ggX4_overLinks_X3_lengthOf : GoodIn wsX4_overLinks wsX3_lengthOf := goodIn_r _ [35, 20, 5, 6, 7, 45, 46, 47, 48, 49, 50, 51, 52, 53, 54, 55, 56] (by decide +kernel) (by decide +kernel)
set_option maxRecDepth 20000 in
theorem gX4_overLinks_X3_lengthOf : GoodIn wsX4_overLinks (wsV RX4 91 RX3 yX3_lengthOf wsX3_lengthOf) := goodIn_app (goodIn_of _ (by decide +kernel)) ggX4_overLinks_X3_lengthOf
set_option maxRecDepth 20000 in
theorem ggX4_overLinks_X5_ahead : GoodIn wsX4_overLinks wsX5_ahead := goodIn_r _ [37] (by decide +kernel) (by decide +kernel)
set_option maxRecDepth 20000 in
theorem gX4_overLinks_X5_ahead_n69 : GoodIn wsX4_overLinks (wsX5_ahead) := ggX4_overLinks_X5_ahead
set_option maxRecDepth 20000 in
theorem ggX5_init_X3_init : GoodIn wsX5_init wsX3_init := goodIn_r _ [19, 20, 2, 3, 21, 22, 23, 24, 25, 26, 27, 28, 29, 30, 51, 52, 53, 54, 55, 56, 57, 58, 59, 60, 61, 62] (by decide +kernel) (by decide +kernel)
set_option maxRecDepth 20000 in
theorem gX5_init_X3_init_n11 : GoodIn wsX5_init (wsX3_init) := ggX5_init_X3_init
set_option maxRecDepth 20000 in
theorem ggX5_init_X0_init : GoodIn wsX5_init wsX0_init := goodIn_r _ [33, 34, 2, 3, 35, 36, 37, 23, 38, 39, 40, 67, 68, 69, 70, 71, 72, 73] (by decide +kernel) (by decide +kernel)
set_option maxRecDepth 20000 in
theorem gX5_init_X0_init : GoodIn wsX5_init (wsX0_init) := ggX5_init_X0_init
set_option maxRecDepth 20000 in
theorem ggX5_init_X2_init : GoodIn wsX5_init wsX2_init := goodIn_r _ [43, 44, 2, 3, 45, 46, 35, 47, 23, 48, 49, 50, 74, 75, 76, 77, 78, 79, 80] (by decide +kernel) (by decide +kernel)
set_option maxRecDepth 20000 in
theorem gX5_init_X2_init : GoodIn wsX5_init (wsX2_init) := ggX5_init_X2_init
set_option maxRecDepth 20000 in
theorem ggX5_plane_X5_needNoLetter : GoodIn wsX5_plane wsX5_needNoLetter := goodIn_ca (goodIn_r _ [9, 10, 11, 12, 13, 88, 89, 90, 91, 104, 105, 106, 107, 108, 109, 110] (by decide +kernel) (by decide +kernel)) (goodIn_sub (fun _ h => List.mem_cons_of_mem _ (List.mem_append_left _ (List.mem_append_right _ h))) (by decide +kernel))
set_option maxRecDepth 20000 in
theorem gX5_plane_X5_needNoLetter : GoodIn wsX5_plane (wsV RX5 40 RX5 yX5_needNoLetter wsX5_needNoLetter) := goodIn_app (goodIn_of _ (by decide +kernel)) ggX5_plane_X5_needNoLetter
set_option maxRecDepth 20000 in
theorem ggX5_plane_X5_needBetween : GoodIn wsX5_plane wsX5_needBetween := goodIn_ca (goodIn_r _ [16, 17, 18] (by decide +kernel) (by decide +kernel)) (goodIn_sub (fun _ h => List.mem_cons_of_mem _ (List.mem_append_right _ h)) (by decide +kernel))
set_option maxRecDepth 20000 in
theorem gX5_plane_X5_needBetween : GoodIn wsX5_plane (va_wsS RX5 43 yX5_needBetween wsX5_needBetween) := goodIn_app (goodIn_of _ (by decide +kernel)) ggX5_plane_X5_needBetween
set_option maxRecDepth 20000 in
theorem ggX5_plane_X3_addPlane : GoodIn wsX5_plane wsX3_addPlane := goodIn_r _ [23, 24, 25, 26, 27, 28, 29, 30, 31, 22, 32, 33, 34, 35, 36, 37, 38, 39, 40, 41, 42, 43, 44, 45, 46, 47, 48, 49, 50, 51, 8, 52, 53, 54, 55, 56, 57, 58, 59, 60, 61, 62, 63, 64, 65, 66, 67, 68, 69, 70, 71, 72, 73, 74, 75, 76, 77, 78, 79, 80, 81, 82, 83, 84, 85, 86, 87, 92, 93, 94, 95, 96, 97, 98, 99, 100, 101, 102, 103] (by decide +kernel) (by decide +kernel)
set_option maxRecDepth 20000 in
theorem gX5_plane_X3_addPlane : GoodIn wsX5_plane (wsV RX5 58 RX3 yX3_addPlane wsX3_addPlane) := goodIn_app (goodIn_of _ (by decide +kernel)) ggX5_plane_X3_addPlane
set_option maxRecDepth 20000 in
theorem ggX5_post_X5_needNoLetter : GoodIn wsX5_post wsX5_needNoLetter := goodIn_ca (goodIn_r _ [13, 14, 15, 16, 17, 97, 98, 99, 100, 120, 121, 122, 123, 124, 125, 126] (by decide +kernel) (by decide +kernel)) (goodIn_sub (fun _ h => List.mem_cons_of_mem _ (List.mem_append_left _ (List.mem_append_right _ h))) (by decide +kernel))
set_option maxRecDepth 20000 in
theorem gX5_post_X5_needNoLetter : GoodIn wsX5_post (wsV RX5 40 RX5 yX5_needNoLetter wsX5_needNoLetter) := goodIn_app (goodIn_of _ (by decide +kernel)) ggX5_post_X5_needNoLetter
set_option maxRecDepth 20000 in
theorem ggX5_post_X5_needBetween : GoodIn wsX5_post wsX5_needBetween := goodIn_ca (goodIn_r _ [20, 21, 22] (by decide +kernel) (by decide +kernel)) (goodIn_sub (fun _ h => List.mem_cons_of_mem _ (List.mem_append_right _ h)) (by decide +kernel))
set_option maxRecDepth 20000 in
theorem gX5_post_X5_needBetween : GoodIn wsX5_post (va_wsS RX5 43 yX5_needBetween wsX5_needBetween) := goodIn_app (goodIn_of _ (by decide +kernel)) ggX5_post_X5_needBetween
set_option maxRecDepth 20000 in
theorem ggX5_post_X3_addPost : GoodIn wsX5_post wsX3_addPost := goodIn_r _ [27, 28, 29, 30, 31, 12, 32, 33, 34, 35, 26, 36, 37, 38, 39, 40, 41, 42, 43, 44, 45, 46, 47, 48, 49, 50, 51, 52, 53, 54, 55, 56, 57, 58, 59, 60, 61, 62, 63, 64, 65, 66, 67, 68, 69, 70, 71, 72, 73, 74, 75, 76, 77, 78, 79, 80, 81, 82, 101, 102, 103, 104, 105, 106, 107, 108, 109, 110, 111, 112] (by decide +kernel) (by decide +kernel)
set_option maxRecDepth 20000 in
theorem gX5_post_X3_addPost : GoodIn wsX5_post (wsV RX5 67 RX3 yX3_addPost wsX3_addPost) := goodIn_app (goodIn_of _ (by decide +kernel)) ggX5_post_X3_addPost
set_option maxRecDepth 20000 in
theorem ggX5_post_X4_init : GoodIn wsX5_post wsX4_init := goodIn_r _ [85, 86, 87, 88, 89, 90, 91, 92, 93, 94, 95, 96, 31, 12, 32, 113, 114, 115, 116, 117, 118, 119] (by decide +kernel) (by decide +kernel)
set_option maxRecDepth 20000 in
theorem gX5_post_X4_init : GoodIn wsX5_post (wsX4_init) := ggX5_post_X4_init
set_option maxRecDepth 20000 in
theorem ggX5_over_X5_needRelay : GoodIn wsX5_over wsX5_needRelay := goodIn_ca (goodIn_r _ [6, 7, 8, 1, 9, 30, 31, 32, 33, 34, 35, 36, 37, 38, 39, 40, 41, 42, 43, 44, 45] (by decide +kernel) (by decide +kernel)) (goodIn_sub (fun _ h => List.mem_cons_of_mem _ (List.mem_append_left _ (List.mem_append_right _ h))) (by decide +kernel))
set_option maxRecDepth 20000 in
theorem gX5_over_X5_needRelay : GoodIn wsX5_over (wsV RX5 73 RX5 yX5_needRelay wsX5_needRelay) := goodIn_app (goodIn_of _ (by decide +kernel)) ggX5_over_X5_needRelay
set_option maxRecDepth 20000 in
theorem ggX5_over_X5_needTick : GoodIn wsX5_over wsX5_needTick := goodIn_ca (goodIn_r _ [12, 13, 14, 15, 5, 16, 17, 18] (by decide +kernel) (by decide +kernel)) (goodIn_sub (fun _ h => List.mem_cons_of_mem _ (List.mem_append_right _ h)) (by decide +kernel))
set_option maxRecDepth 20000 in
theorem gX5_over_X5_needTick : GoodIn wsX5_over (va_wsS RX5 77 yX5_needTick wsX5_needTick) := goodIn_app (goodIn_of _ (by decide +kernel)) ggX5_over_X5_needTick
set_option maxRecDepth 20000 in
theorem ggX5_over_X3_placeOf : GoodIn wsX5_over wsX3_placeOf := goodIn_r _ [23, 24, 25, 26, 27, 28, 29, 34, 35, 36, 37, 38, 39, 40, 41, 42, 43, 44, 45] (by decide +kernel) (by decide +kernel)
set_option maxRecDepth 20000 in
theorem gX5_over_X3_placeOf : GoodIn wsX5_over (wsV RX5 80 RX3 yX3_placeOf wsX3_placeOf) := goodIn_app (goodIn_of _ (by decide +kernel)) ggX5_over_X3_placeOf
set_option maxRecDepth 20000 in
theorem ggX5_dead_X5_needRelay : GoodIn wsX5_dead wsX5_needRelay := goodIn_ca (goodIn_r _ [7, 8, 9, 1, 10, 51, 52, 53, 54, 55, 56, 57, 58, 59, 60, 61, 62, 63, 64, 65, 66] (by decide +kernel) (by decide +kernel)) (goodIn_sub (fun _ h => List.mem_cons_of_mem _ (List.mem_append_right _ h)) (by decide +kernel))
set_option maxRecDepth 20000 in
theorem gX5_dead_X5_needRelay : GoodIn wsX5_dead (wsV RX5 73 RX5 yX5_needRelay wsX5_needRelay) := goodIn_app (goodIn_of _ (by decide +kernel)) ggX5_dead_X5_needRelay
set_option maxRecDepth 20000 in
theorem ggX5_dead_X3_turnDead : GoodIn wsX5_dead wsX3_turnDead := goodIn_r _ [15, 16, 17, 55, 56, 57, 58, 59, 60, 61, 62, 63, 64, 65, 66] (by decide +kernel) (by decide +kernel)
set_option maxRecDepth 20000 in
theorem gX5_dead_X3_turnDead : GoodIn wsX5_dead (wsV RX5 84 RX3 yX3_turnDead wsX3_turnDead) := goodIn_app (goodIn_of _ (by decide +kernel)) ggX5_dead_X3_turnDead
set_option maxRecDepth 20000 in
theorem ggX5_dead_X2_lose : GoodIn wsX5_dead wsX2_lose := goodIn_r _ [22, 23, 24, 25, 26, 27, 28, 29, 30, 31, 32, 33, 34, 35, 36, 21, 37, 38, 39, 40, 41, 42, 43, 44, 45, 46, 47, 48, 49, 50, 67, 68, 69, 70, 71, 72, 73, 74, 75, 76, 77, 78, 79, 80, 81, 82, 83] (by decide +kernel) (by decide +kernel)
set_option maxRecDepth 20000 in
theorem gX5_dead_X2_lose : GoodIn wsX5_dead (wsV RX5 88 RX2 yX2_lose wsX2_lose) := goodIn_app (goodIn_of _ (by decide +kernel)) ggX5_dead_X2_lose
set_option maxRecDepth 20000 in
theorem ggX5_link_X5_needRelay : GoodIn wsX5_link wsX5_needRelay := goodIn_ca (goodIn_r _ [6, 7, 8, 1, 9, 37, 38, 39, 40, 41, 42, 43, 44, 45, 46, 47, 48, 49, 50, 51, 52] (by decide +kernel) (by decide +kernel)) (goodIn_sub (fun _ h => List.mem_cons_of_mem _ (List.mem_append_left _ (List.mem_append_right _ h))) (by decide +kernel))
set_option maxRecDepth 20000 in
theorem gX5_link_X5_needRelay : GoodIn wsX5_link (wsV RX5 73 RX5 yX5_needRelay wsX5_needRelay) := goodIn_app (goodIn_of _ (by decide +kernel)) ggX5_link_X5_needRelay
set_option maxRecDepth 20000 in
theorem ggX5_link_X5_needTick : GoodIn wsX5_link wsX5_needTick := goodIn_ca (goodIn_r _ [12, 13, 14, 15, 5, 16, 17, 18] (by decide +kernel) (by decide +kernel)) (goodIn_sub (fun _ h => List.mem_cons_of_mem _ (List.mem_append_right _ h)) (by decide +kernel))
set_option maxRecDepth 20000 in
theorem gX5_link_X5_needTick : GoodIn wsX5_link (va_wsS RX5 77 yX5_needTick wsX5_needTick) := goodIn_app (goodIn_of _ (by decide +kernel)) ggX5_link_X5_needTick
set_option maxRecDepth 20000 in
theorem ggX5_link_X3_isThere : GoodIn wsX5_link wsX3_isThere := goodIn_r _ [23, 24, 25, 26, 22, 27, 28, 29, 41, 42, 43, 44, 45, 46, 47, 48, 49, 50, 51, 52] (by decide +kernel) (by decide +kernel)
set_option maxRecDepth 20000 in
theorem gX5_link_X3_isThere : GoodIn wsX5_link (wsV RX5 91 RX3 yX3_isThere wsX3_isThere) := goodIn_app (goodIn_of _ (by decide +kernel)) ggX5_link_X3_isThere
set_option maxRecDepth 20000 in
theorem ggX5_link_X3_lengthOf : GoodIn wsX5_link wsX3_lengthOf := goodIn_r _ [33, 34, 35, 5, 36, 41, 42, 43, 44, 45, 46, 47, 48, 49, 50, 51, 52] (by decide +kernel) (by decide +kernel)
set_option maxRecDepth 20000 in
theorem gX5_link_X3_lengthOf : GoodIn wsX5_link (wsV RX5 95 RX3 yX3_lengthOf wsX3_lengthOf) := goodIn_app (goodIn_of _ (by decide +kernel)) ggX5_link_X3_lengthOf
set_option maxRecDepth 20000 in
theorem ggX5_sees_X5_needPost : GoodIn wsX5_sees wsX5_needPost := goodIn_ca (goodIn_r _ [6, 7, 8, 1, 9, 38, 39, 40, 41, 42, 43, 44, 45, 46, 47, 48, 49, 50, 51, 52, 53] (by decide +kernel) (by decide +kernel)) (goodIn_sub (fun _ h => List.mem_cons_of_mem _ (List.mem_append_left _ (List.mem_append_right _ h))) (by decide +kernel))
set_option maxRecDepth 20000 in
theorem gX5_sees_X5_needPost : GoodIn wsX5_sees (wsV RX5 98 RX5 yX5_needPost wsX5_needPost) := goodIn_app (goodIn_of _ (by decide +kernel)) ggX5_sees_X5_needPost
set_option maxRecDepth 20000 in
theorem ggX5_sees_X5_needRelay : GoodIn wsX5_sees wsX5_needRelay := goodIn_ca (goodIn_r _ [13, 7, 8, 1, 14, 38, 39, 40, 41, 42, 43, 44, 45, 46, 47, 48, 49, 50, 51, 52, 53] (by decide +kernel) (by decide +kernel)) (goodIn_sub (fun _ h => List.mem_cons_of_mem _ (List.mem_append_left _ (List.mem_append_right _ h))) (by decide +kernel))
set_option maxRecDepth 20000 in
theorem gX5_sees_X5_needRelay : GoodIn wsX5_sees (wsV RX5 73 RX5 yX5_needRelay wsX5_needRelay) := goodIn_app (goodIn_of _ (by decide +kernel)) ggX5_sees_X5_needRelay
set_option maxRecDepth 20000 in
theorem ggX5_sees_X5_needTick : GoodIn wsX5_sees wsX5_needTick := goodIn_ca (goodIn_r _ [17, 18, 19, 20, 5, 21, 22, 23] (by decide +kernel) (by decide +kernel)) (goodIn_sub (fun _ h => List.mem_cons_of_mem _ (List.mem_append_right _ h)) (by decide +kernel))
set_option maxRecDepth 20000 in
theorem gX5_sees_X5_needTick : GoodIn wsX5_sees (va_wsS RX5 77 yX5_needTick wsX5_needTick) := goodIn_app (goodIn_of _ (by decide +kernel)) ggX5_sees_X5_needTick
set_option maxRecDepth 20000 in
theorem ggX5_sees_X5_nodeOf : GoodIn wsX5_sees wsX5_nodeOf := goodIn_r _ [26] (by decide +kernel) (by decide +kernel)
set_option maxRecDepth 20000 in
theorem gX5_sees_X5_nodeOf : GoodIn wsX5_sees (va_wsS RX5 101 yX5_nodeOf wsX5_nodeOf) := goodIn_app (goodIn_of _ (by decide +kernel)) ggX5_sees_X5_nodeOf
set_option maxRecDepth 20000 in
theorem ggX5_sees_X3_isThere : GoodIn wsX5_sees wsX3_isThere := goodIn_r _ [31, 32, 33, 34, 30, 35, 36, 37, 42, 43, 44, 45, 46, 47, 48, 49, 50, 51, 52, 53] (by decide +kernel) (by decide +kernel)
set_option maxRecDepth 20000 in
theorem gX5_sees_X3_isThere : GoodIn wsX5_sees (wsV RX5 91 RX3 yX3_isThere wsX3_isThere) := goodIn_app (goodIn_of _ (by decide +kernel)) ggX5_sees_X3_isThere
set_option maxRecDepth 20000 in
theorem ggX5_earliest_X5_needPost : GoodIn wsX5_earliest wsX5_needPost := goodIn_ca (goodIn_r _ [6, 7, 8, 9, 10, 92, 93, 94, 95, 96, 97, 98, 99, 100, 101, 102, 103, 104, 105, 106, 107] (by decide +kernel) (by decide +kernel)) (goodIn_sub (fun _ h => List.mem_cons_of_mem _ (List.mem_append_left _ (List.mem_append_right _ h))) (by decide +kernel))
set_option maxRecDepth 20000 in
theorem gX5_earliest_X5_needPost : GoodIn wsX5_earliest (wsV RX5 98 RX5 yX5_needPost wsX5_needPost) := goodIn_app (goodIn_of _ (by decide +kernel)) ggX5_earliest_X5_needPost
set_option maxRecDepth 20000 in
theorem ggX5_earliest_X5_needTick : GoodIn wsX5_earliest wsX5_needTick := goodIn_ca (goodIn_r _ [13, 14, 15, 16, 5, 17, 18, 19] (by decide +kernel) (by decide +kernel)) (goodIn_sub (fun _ h => List.mem_cons_of_mem _ (List.mem_append_right _ h)) (by decide +kernel))
set_option maxRecDepth 20000 in
theorem gX5_earliest_X5_needTick : GoodIn wsX5_earliest (va_wsS RX5 77 yX5_needTick wsX5_needTick) := goodIn_app (goodIn_of _ (by decide +kernel)) ggX5_earliest_X5_needTick
set_option maxRecDepth 20000 in
theorem ggX5_earliest_X4_refresh : GoodIn wsX5_earliest wsX4_refresh := goodIn_r _ [24, 25, 26, 27, 28, 29, 30, 31, 32, 33, 34, 35, 36, 37, 23, 38, 39, 40, 41, 42, 43, 44, 45, 46, 47, 5, 48, 49, 50, 51, 52, 53, 54, 55, 56, 57, 58, 59, 60, 61, 62, 63, 64, 65, 66, 67, 68, 69, 70, 71, 72, 73, 74, 75, 76, 77, 78, 79, 80, 81, 82, 83, 84, 108, 109, 110, 111, 112, 113, 114, 96, 97, 98, 99, 100, 101, 102, 103, 104, 105, 106, 107] (by decide +kernel) (by decide +kernel)
set_option maxRecDepth 20000 in
theorem gX5_earliest_X4_refresh : GoodIn wsX5_earliest (wsV RX5 105 RX4 yX4_refresh wsX4_refresh) := goodIn_app (goodIn_of _ (by decide +kernel)) ggX5_earliest_X4_refresh
set_option maxRecDepth 20000 in
theorem ggX5_earliest_X5_nodeOf : GoodIn wsX5_earliest wsX5_nodeOf := goodIn_r _ [87] (by decide +kernel) (by decide +kernel)
set_option maxRecDepth 20000 in
theorem gX5_earliest_X5_nodeOf : GoodIn wsX5_earliest (va_wsS RX5 101 yX5_nodeOf wsX5_nodeOf) := goodIn_app (goodIn_of _ (by decide +kernel)) ggX5_earliest_X5_nodeOf
set_option maxRecDepth 20000 in
theorem ggX5_earliest_X4_lateness : GoodIn wsX5_earliest wsX4_lateness := goodIn_r _ [91, 28, 108, 109, 110, 111, 112, 113, 114] (by decide +kernel) (by decide +kernel)
set_option maxRecDepth 20000 in
theorem gX5_earliest_X4_lateness : GoodIn wsX5_earliest (wsV RX5 108 RX4 yX4_lateness wsX4_lateness) := goodIn_app (goodIn_of _ (by decide +kernel)) ggX5_earliest_X4_lateness
set_option maxRecDepth 20000 in
theorem ggX5_late_X5_needPost : GoodIn wsX5_late wsX5_needPost := goodIn_ca (goodIn_r _ [6, 7, 8, 9, 10, 89, 90, 91, 92, 93, 94, 95, 96, 97, 98, 99, 100, 101, 102, 103, 104] (by decide +kernel) (by decide +kernel)) (goodIn_sub (fun _ h => List.mem_cons_of_mem _ (List.mem_append_right _ h)) (by decide +kernel))
set_option maxRecDepth 20000 in
theorem gX5_late_X5_needPost : GoodIn wsX5_late (wsV RX5 98 RX5 yX5_needPost wsX5_needPost) := goodIn_app (goodIn_of _ (by decide +kernel)) ggX5_late_X5_needPost
set_option maxRecDepth 20000 in
theorem ggX5_late_X4_refresh : GoodIn wsX5_late wsX4_refresh := goodIn_r _ [15, 16, 17, 18, 19, 20, 21, 22, 23, 24, 25, 26, 27, 28, 14, 29, 30, 31, 32, 33, 34, 35, 36, 37, 38, 5, 39, 40, 41, 42, 43, 44, 45, 46, 47, 48, 49, 50, 51, 52, 53, 54, 55, 56, 57, 58, 59, 60, 61, 62, 63, 64, 65, 66, 67, 68, 69, 70, 71, 72, 73, 74, 75, 105, 106, 107, 108, 109, 110, 111, 93, 94, 95, 96, 97, 98, 99, 100, 101, 102, 103, 104] (by decide +kernel) (by decide +kernel)
set_option maxRecDepth 20000 in
theorem gX5_late_X4_refresh : GoodIn wsX5_late (wsV RX5 105 RX4 yX4_refresh wsX4_refresh) := goodIn_app (goodIn_of _ (by decide +kernel)) ggX5_late_X4_refresh
set_option maxRecDepth 20000 in
theorem ggX5_late_X5_nodeOf : GoodIn wsX5_late wsX5_nodeOf := goodIn_r _ [78] (by decide +kernel) (by decide +kernel)
set_option maxRecDepth 20000 in
theorem gX5_late_X5_nodeOf : GoodIn wsX5_late (va_wsS RX5 101 yX5_nodeOf wsX5_nodeOf) := goodIn_app (goodIn_of _ (by decide +kernel)) ggX5_late_X5_nodeOf
set_option maxRecDepth 20000 in
theorem ggX5_late_X4_extreme : GoodIn wsX5_late wsX4_extreme := goodIn_r _ [82, 83, 66, 59, 67, 84, 58, 60, 85, 86, 87, 14, 88, 19, 105, 106, 107, 108, 109, 110, 111] (by decide +kernel) (by decide +kernel)
set_option maxRecDepth 20000 in
theorem gX5_late_X4_extreme : GoodIn wsX5_late (wsV RX5 111 RX4 yX4_extreme wsX4_extreme) := goodIn_app (goodIn_of _ (by decide +kernel)) ggX5_late_X4_extreme
set_option maxRecDepth 20000 in
theorem ggX5_meets_X5_needPost : GoodIn wsX5_meets wsX5_needPost := goodIn_ca (goodIn_r _ [7, 8, 9, 1, 10, 28, 29, 30, 31, 32, 33, 34, 35, 36, 37, 38, 39, 40, 41, 42, 43] (by decide +kernel) (by decide +kernel)) (goodIn_sub (fun _ h => List.mem_cons_of_mem _ (List.mem_append_right _ h)) (by decide +kernel))
set_option maxRecDepth 20000 in
theorem gX5_meets_X5_needPost : GoodIn wsX5_meets (wsV RX5 98 RX5 yX5_needPost wsX5_needPost) := goodIn_app (goodIn_of _ (by decide +kernel)) ggX5_meets_X5_needPost
set_option maxRecDepth 20000 in
theorem ggX5_meets_X5_nodeOf : GoodIn wsX5_meets wsX5_nodeOf := goodIn_r _ [13] (by decide +kernel) (by decide +kernel)
set_option maxRecDepth 20000 in
theorem gX5_meets_X5_nodeOf : GoodIn wsX5_meets (va_wsS RX5 101 yX5_nodeOf wsX5_nodeOf) := goodIn_app (goodIn_of _ (by decide +kernel)) ggX5_meets_X5_nodeOf
set_option maxRecDepth 20000 in
theorem ggX5_meets_X3_ticksThere : GoodIn wsX5_meets wsX3_ticksThere := goodIn_r _ [18, 19, 20, 32, 33, 34, 35, 36, 37, 38, 39, 40, 41, 42, 43] (by decide +kernel) (by decide +kernel)
set_option maxRecDepth 20000 in
theorem gX5_meets_X3_ticksThere : GoodIn wsX5_meets (wsV RX5 118 RX3 yX3_ticksThere wsX3_ticksThere) := goodIn_app (goodIn_of _ (by decide +kernel)) ggX5_meets_X3_ticksThere
set_option maxRecDepth 20000 in
theorem ggX5_meets_J6_bitCount_0f7a4 : GoodIn wsX5_meets wsJ6_bitCount_0f7a4 := goodIn_r _ [24, 25, 26, 27] (by decide +kernel) (by decide +kernel)
set_option maxRecDepth 20000 in
theorem gX5_meets_J6_bitCount_0f7a4 : GoodIn wsX5_meets (va_wsS RX5 121 yJ6_bitCount_0f7a4 wsJ6_bitCount_0f7a4) := goodIn_app (goodIn_of _ (by decide +kernel)) ggX5_meets_J6_bitCount_0f7a4
set_option maxRecDepth 20000 in
theorem ggX5_part_X5_needPost : GoodIn wsX5_part wsX5_needPost := goodIn_ca (goodIn_r _ [6, 7, 8, 9, 10, 107, 108, 109, 110, 111, 112, 113, 114, 115, 116, 117, 118, 119, 120, 121, 122] (by decide +kernel) (by decide +kernel)) (goodIn_sub (fun _ h => List.mem_cons_of_mem _ (List.mem_append_left _ (List.mem_append_right _ h))) (by decide +kernel))
set_option maxRecDepth 20000 in
theorem gX5_part_X5_needPost : GoodIn wsX5_part (wsV RX5 98 RX5 yX5_needPost wsX5_needPost) := goodIn_app (goodIn_of _ (by decide +kernel)) ggX5_part_X5_needPost
set_option maxRecDepth 20000 in
theorem ggX5_part_X5_needTick : GoodIn wsX5_part wsX5_needTick := goodIn_ca (goodIn_r _ [13, 14, 15, 16, 5, 17, 18, 19] (by decide +kernel) (by decide +kernel)) (goodIn_sub (fun _ h => List.mem_cons_of_mem _ (List.mem_append_right _ h)) (by decide +kernel))
set_option maxRecDepth 20000 in
theorem gX5_part_X5_needTick : GoodIn wsX5_part (va_wsS RX5 77 yX5_needTick wsX5_needTick) := goodIn_app (goodIn_of _ (by decide +kernel)) ggX5_part_X5_needTick
set_option maxRecDepth 20000 in
theorem ggX5_part_X5_nodeOf : GoodIn wsX5_part wsX5_nodeOf := goodIn_r _ [22] (by decide +kernel) (by decide +kernel)
set_option maxRecDepth 20000 in
theorem gX5_part_X5_nodeOf : GoodIn wsX5_part (va_wsS RX5 101 yX5_nodeOf wsX5_nodeOf) := goodIn_app (goodIn_of _ (by decide +kernel)) ggX5_part_X5_nodeOf
set_option maxRecDepth 20000 in
theorem ggX5_part_X0_size : GoodIn wsX5_part wsX0_size := goodIn_r _ [27, 28, 29, 30, 31, 32, 33, 34, 35, 26, 36, 37, 38, 39, 40, 41, 42, 43, 44, 45, 46, 47, 48, 49, 50, 51, 52, 53, 54, 55, 56, 57, 58, 59, 60, 61, 62, 63, 64, 65, 5, 66, 67, 68, 69, 70, 71, 72, 73, 74, 75, 76, 77, 78, 79, 80, 81, 82, 83, 84, 85, 86, 87, 88, 89, 90, 91, 92, 93, 94, 95, 96, 97, 98, 99, 100, 101, 102, 103, 104, 105, 106, 123, 124, 125, 126, 127, 128, 129, 111, 112, 113, 114, 115, 116, 117, 118, 119, 120, 121, 122] (by decide +kernel) (by decide +kernel)
set_option maxRecDepth 20000 in
theorem gX5_part_X0_size : GoodIn wsX5_part (wsV RX5 126 RX0 yX0_size wsX0_size) := goodIn_app (goodIn_of _ (by decide +kernel)) ggX5_part_X0_size
set_option maxRecDepth 20000 in
theorem ggX5_send_X5_needPost : GoodIn wsX5_send wsX5_needPost := goodIn_ca (goodIn_r _ [11, 12, 13, 14, 15, 44, 45, 46, 47, 55, 56, 57, 58, 59, 60, 61, 62, 63, 64, 65, 66] (by decide +kernel) (by decide +kernel)) (goodIn_sub (fun _ h => List.mem_cons_of_mem _ (List.mem_append_right _ h)) (by decide +kernel))
set_option maxRecDepth 20000 in
theorem gX5_send_X5_needPost : GoodIn wsX5_send (wsV RX5 98 RX5 yX5_needPost wsX5_needPost) := goodIn_app (goodIn_of _ (by decide +kernel)) ggX5_send_X5_needPost
set_option maxRecDepth 20000 in
theorem ggX5_send_X2_accept : GoodIn wsX5_send wsX2_accept := goodIn_r _ [20, 21, 22, 23, 24, 25, 26, 27, 28, 29, 30, 31, 32, 33, 34, 35, 36, 37, 38, 39, 40, 41, 42, 10, 43, 48, 49, 50, 51, 52, 53, 54, 67, 68, 69, 70, 71, 72, 73, 74, 75, 76] (by decide +kernel) (by decide +kernel)
set_option maxRecDepth 20000 in
theorem gX5_send_X2_accept : GoodIn wsX5_send (wsV RX5 139 RX2 yX2_accept wsX2_accept) := goodIn_app (goodIn_of _ (by decide +kernel)) ggX5_send_X2_accept
set_option maxRecDepth 20000 in
theorem ggX5_steps_X5_needBetween : GoodIn wsX5_steps wsX5_needBetween := goodIn_ca (goodIn_r _ [6, 7, 8] (by decide +kernel) (by decide +kernel)) (goodIn_sub (fun _ h => List.mem_cons_of_mem _ (List.mem_append_right _ h)) (by decide +kernel))
set_option maxRecDepth 20000 in
theorem gX5_steps_X5_needBetween : GoodIn wsX5_steps (va_wsS RX5 43 yX5_needBetween wsX5_needBetween) := goodIn_app (goodIn_of _ (by decide +kernel)) ggX5_steps_X5_needBetween
set_option maxRecDepth 20000 in
theorem ggX5_steps_X2_run : GoodIn wsX5_steps wsX2_run := goodIn_r _ [13, 14, 15, 16, 17, 18, 19, 20, 21, 22, 23, 24, 25, 26, 27, 28, 29, 30, 31, 32, 33, 34, 35, 36, 37, 38, 39, 40, 41, 42, 43, 44, 45, 46, 47, 48, 49, 50, 51, 5, 52, 53, 54, 55, 56, 57, 58, 59, 60, 61, 62, 63, 64, 65, 66, 67, 68, 69, 70, 71, 72, 73, 74, 75, 76, 77, 78, 79, 80, 81, 82, 83, 84, 85, 86, 87, 88, 89, 90, 91, 12, 92, 93, 94, 95, 96, 97, 98, 99, 100, 101, 102, 103, 104, 105, 106, 107, 108, 109, 110, 111, 112, 113, 114, 115, 116, 117, 118, 119, 120, 121, 122, 123, 124, 125, 126, 127, 128, 129, 130, 131, 132, 133, 134, 135, 136, 137, 138, 139, 140, 141, 142, 143, 144, 145, 146, 147, 148, 149, 150, 155, 156, 157, 158, 159, 160, 161, 162, 163, 164, 165, 166, 167, 168, 169, 170, 171, 172, 173, 174, 175, 176, 177, 178, 179, 180, 181, 182, 183, 184, 185, 186, 187, 188, 189, 190] (by decide +kernel) (by decide +kernel)
set_option maxRecDepth 20000 in
theorem gX5_steps_X2_run : GoodIn wsX5_steps (wsV RX5 142 RX2 yX2_run wsX2_run) := goodIn_app (goodIn_of _ (by decide +kernel)) ggX5_steps_X2_run
set_option maxRecDepth 20000 in
theorem ggX5_look_X1_relay : GoodIn wsX5_look wsX1_relay := goodIn_r _ [17, 18, 19, 20, 21, 22, 23, 35, 36, 37, 38, 39, 40, 41, 42, 43, 44] (by decide +kernel) (by decide +kernel)
set_option maxRecDepth 20000 in
theorem gX5_look_X1_relay : GoodIn wsX5_look (wsV RX5 162 RX1 yX1_relay wsX1_relay) := goodIn_app (goodIn_of _ (by decide +kernel)) ggX5_look_X1_relay
set_option maxRecDepth 20000 in
theorem ggX5_count_X3_deadRelays : GoodIn wsX5_count wsX3_deadRelays := goodIn_r _ [12, 13, 14, 57, 58, 59, 60, 61, 62, 63, 64, 65, 66, 67, 68] (by decide +kernel) (by decide +kernel)
set_option maxRecDepth 20000 in
theorem gX5_count_X3_deadRelays : GoodIn wsX5_count (wsV RX5 183 RX3 yX3_deadRelays wsX3_deadRelays) := goodIn_app (goodIn_of _ (by decide +kernel)) ggX5_count_X3_deadRelays
set_option maxRecDepth 20000 in
theorem ggX5_count_X2_lettersThatAre : GoodIn wsX5_count wsX2_lettersThatAre := goodIn_r _ [19, 20, 21, 22, 50, 51, 52, 53, 54, 55, 56, 69, 70, 71, 72, 73, 74, 75, 76, 77, 78] (by decide +kernel) (by decide +kernel)
set_option maxRecDepth 20000 in
theorem gX5_count_X2_lettersThatAre : GoodIn wsX5_count (wsV RX5 186 RX2 yX2_lettersThatAre wsX2_lettersThatAre) := goodIn_app (goodIn_of _ (by decide +kernel)) ggX5_count_X2_lettersThatAre
set_option maxRecDepth 20000 in
theorem ggX5_count_X3_linksOfRelays : GoodIn wsX5_count wsX3_linksOfRelays := goodIn_r _ [26, 13, 27, 28, 29, 11, 30, 31, 32, 33, 34, 35, 36, 37, 38, 39, 40, 41, 42, 43, 44, 14, 45, 57, 58, 59, 60, 61, 62, 63, 64, 65, 66, 67, 68] (by decide +kernel) (by decide +kernel)
set_option maxRecDepth 20000 in
theorem gX5_count_X3_linksOfRelays : GoodIn wsX5_count (wsV RX5 189 RX3 yX3_linksOfRelays wsX3_linksOfRelays) := goodIn_app (goodIn_of _ (by decide +kernel)) ggX5_count_X3_linksOfRelays
set_option maxRecDepth 20000 in
theorem ggX5_needTick_X5_needBetween : GoodIn wsX5_needTick wsX5_needBetween := goodIn_ca (goodIn_r _ [5, 6, 7] (by decide +kernel) (by decide +kernel)) (goodIn_sub (fun _ h => List.mem_cons_of_mem _ (List.mem_append_right _ h)) (by decide +kernel))
set_option maxRecDepth 20000 in
theorem gX5_needTick_X5_needBetween : GoodIn wsX5_needTick (va_wsS RX5 43 yX5_needBetween wsX5_needBetween) := goodIn_app (goodIn_of _ (by decide +kernel)) ggX5_needTick_X5_needBetween
set_option maxRecDepth 20000 in
theorem ggX6_noRelay_X6_in : GoodIn wsX6_noRelay wsX6_in := goodIn_r _ [5] (by decide +kernel) (by decide +kernel)
set_option maxRecDepth 20000 in
theorem gX6_noRelay_X6_in : GoodIn wsX6_noRelay (va_wsS RX6 96 yX6_in wsX6_in) := goodIn_app (goodIn_of _ (by decide +kernel)) ggX6_noRelay_X6_in
set_option maxRecDepth 20000 in
theorem ggX6_noPost_X6_in : GoodIn wsX6_noPost wsX6_in := goodIn_r _ [5] (by decide +kernel) (by decide +kernel)
set_option maxRecDepth 20000 in
theorem gX6_noPost_X6_in : GoodIn wsX6_noPost (va_wsS RX6 96 yX6_in wsX6_in) := goodIn_app (goodIn_of _ (by decide +kernel)) ggX6_noPost_X6_in
set_option maxRecDepth 20000 in
theorem ggX6_noTick_X6_in : GoodIn wsX6_noTick wsX6_in := goodIn_r _ [5] (by decide +kernel) (by decide +kernel)
set_option maxRecDepth 20000 in
theorem gX6_noTick_X6_in : GoodIn wsX6_noTick (va_wsS RX6 96 yX6_in wsX6_in) := goodIn_app (goodIn_of _ (by decide +kernel)) ggX6_noTick_X6_in
set_option maxRecDepth 20000 in
theorem ggX6_plane_X6_throwsIf : GoodIn wsX6_plane wsX6_throwsIf := goodIn_r _ [14, 1, 23, 24, 25, 26, 27, 28, 29, 30, 31, 32, 33, 34, 35, 36, 37, 38, 39, 40, 41, 42, 43, 44, 45, 46, 47, 48, 49, 50, 51, 52, 53, 54, 55] (by decide +kernel) (by decide +kernel)
set_option maxRecDepth 20000 in
theorem gX6_plane_X6_throwsIf : GoodIn wsX6_plane (wsV RX6 107 RX6 yX6_throwsIf wsX6_throwsIf) := goodIn_app (goodIn_of _ (by decide +kernel)) ggX6_plane_X6_throwsIf
set_option maxRecDepth 20000 in
theorem ggX6_plane_X6_in : GoodIn wsX6_plane wsX6_in := goodIn_r _ [17] (by decide +kernel) (by decide +kernel)
set_option maxRecDepth 20000 in
theorem gX6_plane_X6_in : GoodIn wsX6_plane (va_wsS RX6 96 yX6_in wsX6_in) := goodIn_app (goodIn_of _ (by decide +kernel)) ggX6_plane_X6_in
set_option maxRecDepth 20000 in
theorem ggX6_plane_X6_forgets : GoodIn wsX6_plane wsX6_forgets := goodIn_r _ [21, 22, 23, 24, 25, 26, 27, 28, 29, 30, 31, 32, 33, 34, 35, 36, 37, 38, 39, 40, 41, 42, 43, 44, 45, 46, 47, 48, 49, 50, 51, 52, 53, 54, 55] (by decide +kernel) (by decide +kernel)
set_option maxRecDepth 20000 in
theorem gX6_plane_X6_forgets : GoodIn wsX6_plane (wsV RX6 114 RX6 yX6_forgets wsX6_forgets) := goodIn_app (goodIn_of _ (by decide +kernel)) ggX6_plane_X6_forgets
set_option maxRecDepth 20000 in
theorem ggX6_post_X6_throwsIf : GoodIn wsX6_post wsX6_throwsIf := goodIn_r _ [11, 1, 20, 21, 22, 23, 24, 25, 26, 27, 28, 29, 30, 31, 32, 33, 34, 35, 36, 37, 38, 39, 40, 41, 42, 43, 44, 45, 46, 47, 48, 49, 50, 51, 52] (by decide +kernel) (by decide +kernel)
set_option maxRecDepth 20000 in
theorem gX6_post_X6_throwsIf : GoodIn wsX6_post (wsV RX6 107 RX6 yX6_throwsIf wsX6_throwsIf) := goodIn_app (goodIn_of _ (by decide +kernel)) ggX6_post_X6_throwsIf
set_option maxRecDepth 20000 in
theorem ggX6_post_X6_in : GoodIn wsX6_post wsX6_in := goodIn_r _ [14] (by decide +kernel) (by decide +kernel)
set_option maxRecDepth 20000 in
theorem gX6_post_X6_in : GoodIn wsX6_post (va_wsS RX6 96 yX6_in wsX6_in) := goodIn_app (goodIn_of _ (by decide +kernel)) ggX6_post_X6_in
set_option maxRecDepth 20000 in
theorem ggX6_post_X6_forgets : GoodIn wsX6_post wsX6_forgets := goodIn_r _ [18, 19, 20, 21, 22, 23, 24, 25, 26, 27, 28, 29, 30, 31, 32, 33, 34, 35, 36, 37, 38, 39, 40, 41, 42, 43, 44, 45, 46, 47, 48, 49, 50, 51, 52] (by decide +kernel) (by decide +kernel)
set_option maxRecDepth 20000 in
theorem gX6_post_X6_forgets : GoodIn wsX6_post (wsV RX6 114 RX6 yX6_forgets wsX6_forgets) := goodIn_app (goodIn_of _ (by decide +kernel)) ggX6_post_X6_forgets
set_option maxRecDepth 20000 in
theorem ggX6_over_X6_noRelay : GoodIn wsX6_over wsX6_noRelay := goodIn_r _ [6, 7, 8, 9, 5, 10, 27, 28, 29, 30, 31, 32, 33, 34, 35, 36, 37, 38, 39, 40, 41, 42, 43, 44, 45, 46, 47, 48, 49, 50, 51, 52, 53, 54, 55, 56, 57, 58, 59] (by decide +kernel) (by decide +kernel)
set_option maxRecDepth 20000 in
theorem gX6_over_X6_noRelay : GoodIn wsX6_over (wsV RX6 117 RX6 yX6_noRelay wsX6_noRelay) := goodIn_app (goodIn_of _ (by decide +kernel)) ggX6_over_X6_noRelay
set_option maxRecDepth 20000 in
theorem ggX6_over_X6_throwsIf : GoodIn wsX6_over wsX6_throwsIf := goodIn_r _ [14, 1, 27, 28, 29, 30, 31, 32, 33, 34, 35, 36, 37, 38, 39, 40, 41, 42, 43, 44, 45, 46, 47, 48, 49, 50, 51, 52, 53, 54, 55, 56, 57, 58, 59] (by decide +kernel) (by decide +kernel)
set_option maxRecDepth 20000 in
theorem gX6_over_X6_throwsIf : GoodIn wsX6_over (wsV RX6 107 RX6 yX6_throwsIf wsX6_throwsIf) := goodIn_app (goodIn_of _ (by decide +kernel)) ggX6_over_X6_throwsIf
set_option maxRecDepth 20000 in
theorem ggX6_over_X6_noTick : GoodIn wsX6_over wsX6_noTick := goodIn_r _ [17, 18, 8, 9, 5, 10] (by decide +kernel) (by decide +kernel)
set_option maxRecDepth 20000 in
theorem gX6_over_X6_noTick : GoodIn wsX6_over (va_wsS RX6 121 yX6_noTick wsX6_noTick) := goodIn_app (goodIn_of _ (by decide +kernel)) ggX6_over_X6_noTick
set_option maxRecDepth 20000 in
theorem ggX6_over_X6_placeOf : GoodIn wsX6_over wsX6_placeOf := goodIn_r _ [22, 23, 24, 25, 26, 27, 28, 29, 30, 31, 32, 33, 34, 35, 36, 37, 38, 39, 40, 41, 42, 43, 44, 45, 46, 47, 48, 49, 50, 51, 52, 53, 54, 55, 56, 57, 58, 59] (by decide +kernel) (by decide +kernel)
set_option maxRecDepth 20000 in
theorem gX6_over_X6_placeOf : GoodIn wsX6_over (wsV RX6 124 RX6 yX6_placeOf wsX6_placeOf) := goodIn_app (goodIn_of _ (by decide +kernel)) ggX6_over_X6_placeOf
set_option maxRecDepth 20000 in
theorem ggX6_linkOf_X6_placeOf : GoodIn wsX6_linkOf wsX6_placeOf := goodIn_r _ [12, 2, 13, 14, 15, 22, 23, 24, 25, 26, 27, 28, 29, 30, 31, 32, 33, 34, 35, 36, 37, 38, 39, 40, 41, 42, 43, 44, 45, 46, 47, 48, 49, 50, 51, 52, 53, 54] (by decide +kernel) (by decide +kernel)
set_option maxRecDepth 20000 in
theorem gX6_linkOf_X6_placeOf : GoodIn wsX6_linkOf (wsV RX6 124 RX6 yX6_placeOf wsX6_placeOf) := goodIn_app (goodIn_of _ (by decide +kernel)) ggX6_linkOf_X6_placeOf
set_option maxRecDepth 20000 in
theorem ggX6_linkOf_X6_apart : GoodIn wsX6_linkOf wsX6_apart := goodIn_r _ [18, 3, 4, 5, 6, 19, 20, 21] (by decide +kernel) (by decide +kernel)
set_option maxRecDepth 20000 in
theorem gX6_linkOf_X6_apart : GoodIn wsX6_linkOf (va_wsS RX6 137 yX6_apart wsX6_apart) := goodIn_app (goodIn_of _ (by decide +kernel)) ggX6_linkOf_X6_apart
set_option maxRecDepth 20000 in
theorem ggX6_seesOf_X6_placeOf : GoodIn wsX6_seesOf wsX6_placeOf := goodIn_r _ [14, 2, 15, 16, 17, 24, 25, 26, 27, 28, 29, 30, 31, 32, 33, 34, 35, 36, 37, 38, 39, 40, 41, 42, 43, 44, 45, 46, 47, 48, 49, 50, 51, 52, 53, 54, 55, 56] (by decide +kernel) (by decide +kernel)
set_option maxRecDepth 20000 in
theorem gX6_seesOf_X6_placeOf : GoodIn wsX6_seesOf (wsV RX6 124 RX6 yX6_placeOf wsX6_placeOf) := goodIn_app (goodIn_of _ (by decide +kernel)) ggX6_seesOf_X6_placeOf
set_option maxRecDepth 20000 in
theorem ggX6_seesOf_X6_apart : GoodIn wsX6_seesOf wsX6_apart := goodIn_r _ [20, 4, 5, 6, 7, 21, 22, 23] (by decide +kernel) (by decide +kernel)
set_option maxRecDepth 20000 in
theorem gX6_seesOf_X6_apart : GoodIn wsX6_seesOf (va_wsS RX6 137 yX6_apart wsX6_apart) := goodIn_app (goodIn_of _ (by decide +kernel)) ggX6_seesOf_X6_apart
set_option maxRecDepth 20000 in
theorem ggX6_taken_X6_linkOf : GoodIn wsX6_taken wsX6_linkOf := goodIn_r _ [5, 6, 7, 8, 9, 10, 11, 12, 13, 14, 15, 4, 16, 17, 18, 19, 20, 21, 22, 23, 24, 25, 26, 27, 28, 29, 30, 31, 32, 33, 34, 35, 36, 37, 38, 39, 40, 41, 42, 43, 44, 45, 46, 47, 48, 49, 50, 51, 52, 53, 54, 55, 56, 57, 58] (by decide +kernel) (by decide +kernel)
set_option maxRecDepth 20000 in
theorem gX6_taken_X6_linkOf : GoodIn wsX6_taken (wsV RX6 140 RX6 yX6_linkOf wsX6_linkOf) := goodIn_app (goodIn_of _ (by decide +kernel)) ggX6_taken_X6_linkOf
set_option maxRecDepth 20000 in
theorem ggX6_takesPost_X6_seesOf : GoodIn wsX6_takesPost wsX6_seesOf := goodIn_r _ [5, 6, 7, 8, 9, 10, 11, 12, 13, 14, 15, 16, 17, 4, 18, 19, 20, 21, 22, 23, 24, 25, 26, 27, 28, 29, 30, 31, 32, 33, 34, 35, 36, 37, 38, 39, 40, 41, 42, 43, 44, 45, 46, 47, 48, 49, 50, 51, 52, 53, 54, 55, 56, 57, 58, 59, 60] (by decide +kernel) (by decide +kernel)
set_option maxRecDepth 20000 in
theorem gX6_takesPost_X6_seesOf : GoodIn wsX6_takesPost (wsV RX6 144 RX6 yX6_seesOf wsX6_seesOf) := goodIn_app (goodIn_of _ (by decide +kernel)) ggX6_takesPost_X6_seesOf
set_option maxRecDepth 20000 in
theorem ggX6_dead_X6_noRelay : GoodIn wsX6_dead wsX6_noRelay := goodIn_r _ [11, 12, 13, 14, 10, 15, 33, 34, 35, 36, 37, 38, 39, 40, 41, 42, 43, 44, 45, 46, 47, 48, 49, 50, 51, 52, 53, 54, 55, 56, 57, 58, 59, 60, 61, 62, 63, 64, 65] (by decide +kernel) (by decide +kernel)
set_option maxRecDepth 20000 in
theorem gX6_dead_X6_noRelay : GoodIn wsX6_dead (wsV RX6 117 RX6 yX6_noRelay wsX6_noRelay) := goodIn_app (goodIn_of _ (by decide +kernel)) ggX6_dead_X6_noRelay
set_option maxRecDepth 20000 in
theorem ggX6_dead_X6_throwsIf : GoodIn wsX6_dead wsX6_throwsIf := goodIn_r _ [19, 1, 33, 34, 35, 36, 37, 38, 39, 40, 41, 42, 43, 44, 45, 46, 47, 48, 49, 50, 51, 52, 53, 54, 55, 56, 57, 58, 59, 60, 61, 62, 63, 64, 65] (by decide +kernel) (by decide +kernel)
set_option maxRecDepth 20000 in
theorem gX6_dead_X6_throwsIf : GoodIn wsX6_dead (wsV RX6 107 RX6 yX6_throwsIf wsX6_throwsIf) := goodIn_app (goodIn_of _ (by decide +kernel)) ggX6_dead_X6_throwsIf
set_option maxRecDepth 20000 in
theorem ggX6_dead_X6_forgets : GoodIn wsX6_dead wsX6_forgets := goodIn_r _ [23, 24, 33, 34, 35, 36, 37, 38, 39, 40, 41, 42, 43, 44, 45, 46, 47, 48, 49, 50, 51, 52, 53, 54, 55, 56, 57, 58, 59, 60, 61, 62, 63, 64, 65] (by decide +kernel) (by decide +kernel)
set_option maxRecDepth 20000 in
theorem gX6_dead_X6_forgets : GoodIn wsX6_dead (wsV RX6 114 RX6 yX6_forgets wsX6_forgets) := goodIn_app (goodIn_of _ (by decide +kernel)) ggX6_dead_X6_forgets
set_option maxRecDepth 20000 in
theorem ggX6_dead_X6_handsOut : GoodIn wsX6_dead wsX6_handsOut := goodIn_r _ [28, 3, 4, 29, 30, 31, 32, 33, 34, 35, 36, 37, 38, 39, 40, 41, 42, 43, 44, 45, 46, 47, 48, 49, 50, 51, 52, 53, 54, 55, 56, 57, 58, 59, 60, 61, 62, 63, 64, 65] (by decide +kernel) (by decide +kernel)
set_option maxRecDepth 20000 in
theorem gX6_dead_X6_handsOut : GoodIn wsX6_dead (wsV RX6 147 RX6 yX6_handsOut wsX6_handsOut) := goodIn_app (goodIn_of _ (by decide +kernel)) ggX6_dead_X6_handsOut
set_option maxRecDepth 20000 in
theorem ggX6_link_X6_noRelay : GoodIn wsX6_link wsX6_noRelay := goodIn_r _ [6, 7, 8, 9, 5, 10, 43, 44, 45, 46, 47, 48, 49, 50, 51, 52, 53, 54, 55, 56, 57, 58, 59, 60, 61, 62, 63, 64, 65, 66, 67, 68, 69, 70, 71, 72, 73, 74, 75] (by decide +kernel) (by decide +kernel)
set_option maxRecDepth 20000 in
theorem gX6_link_X6_noRelay : GoodIn wsX6_link (wsV RX6 117 RX6 yX6_noRelay wsX6_noRelay) := goodIn_app (goodIn_of _ (by decide +kernel)) ggX6_link_X6_noRelay
set_option maxRecDepth 20000 in
theorem ggX6_link_X6_throwsIf : GoodIn wsX6_link wsX6_throwsIf := goodIn_r _ [14, 1, 43, 44, 45, 46, 47, 48, 49, 50, 51, 52, 53, 54, 55, 56, 57, 58, 59, 60, 61, 62, 63, 64, 65, 66, 67, 68, 69, 70, 71, 72, 73, 74, 75] (by decide +kernel) (by decide +kernel)
set_option maxRecDepth 20000 in
theorem gX6_link_X6_throwsIf : GoodIn wsX6_link (wsV RX6 107 RX6 yX6_throwsIf wsX6_throwsIf) := goodIn_app (goodIn_of _ (by decide +kernel)) ggX6_link_X6_throwsIf
set_option maxRecDepth 20000 in
theorem ggX6_link_X6_noTick : GoodIn wsX6_link wsX6_noTick := goodIn_r _ [17, 18, 8, 9, 5, 10] (by decide +kernel) (by decide +kernel)
set_option maxRecDepth 20000 in
theorem gX6_link_X6_noTick : GoodIn wsX6_link (va_wsS RX6 121 yX6_noTick wsX6_noTick) := goodIn_app (goodIn_of _ (by decide +kernel)) ggX6_link_X6_noTick
set_option maxRecDepth 20000 in
theorem ggX6_link_X6_linkOf : GoodIn wsX6_link wsX6_linkOf := goodIn_r _ [22, 23, 24, 25, 26, 27, 28, 29, 30, 31, 32, 5, 33, 34, 35, 36, 37, 38, 39, 40, 41, 42, 43, 44, 45, 46, 47, 48, 49, 50, 51, 52, 53, 54, 55, 56, 57, 58, 59, 60, 61, 62, 63, 64, 65, 66, 67, 68, 69, 70, 71, 72, 73, 74, 75] (by decide +kernel) (by decide +kernel)
set_option maxRecDepth 20000 in
theorem gX6_link_X6_linkOf : GoodIn wsX6_link (wsV RX6 140 RX6 yX6_linkOf wsX6_linkOf) := goodIn_app (goodIn_of _ (by decide +kernel)) ggX6_link_X6_linkOf
set_option maxRecDepth 20000 in
theorem ggX6_sees_X6_noPost : GoodIn wsX6_sees wsX6_noPost := goodIn_r _ [6, 7, 8, 9, 5, 10, 50, 51, 52, 53, 54, 55, 56, 57, 58, 59, 60, 61, 62, 63, 64, 65, 66, 67, 68, 69, 70, 71, 72, 73, 74, 75, 76, 77, 78, 79, 80, 81, 82] (by decide +kernel) (by decide +kernel)
set_option maxRecDepth 20000 in
theorem gX6_sees_X6_noPost : GoodIn wsX6_sees (wsV RX6 150 RX6 yX6_noPost wsX6_noPost) := goodIn_app (goodIn_of _ (by decide +kernel)) ggX6_sees_X6_noPost
set_option maxRecDepth 20000 in
theorem ggX6_sees_X6_noRelay : GoodIn wsX6_sees wsX6_noRelay := goodIn_r _ [14, 15, 8, 9, 5, 10, 50, 51, 52, 53, 54, 55, 56, 57, 58, 59, 60, 61, 62, 63, 64, 65, 66, 67, 68, 69, 70, 71, 72, 73, 74, 75, 76, 77, 78, 79, 80, 81, 82] (by decide +kernel) (by decide +kernel)
set_option maxRecDepth 20000 in
theorem gX6_sees_X6_noRelay : GoodIn wsX6_sees (wsV RX6 117 RX6 yX6_noRelay wsX6_noRelay) := goodIn_app (goodIn_of _ (by decide +kernel)) ggX6_sees_X6_noRelay
set_option maxRecDepth 20000 in
theorem ggX6_sees_X6_throwsIf : GoodIn wsX6_sees wsX6_throwsIf := goodIn_r _ [19, 1, 50, 51, 52, 53, 54, 55, 56, 57, 58, 59, 60, 61, 62, 63, 64, 65, 66, 67, 68, 69, 70, 71, 72, 73, 74, 75, 76, 77, 78, 79, 80, 81, 82] (by decide +kernel) (by decide +kernel)
set_option maxRecDepth 20000 in
theorem gX6_sees_X6_throwsIf : GoodIn wsX6_sees (wsV RX6 107 RX6 yX6_throwsIf wsX6_throwsIf) := goodIn_app (goodIn_of _ (by decide +kernel)) ggX6_sees_X6_throwsIf
set_option maxRecDepth 20000 in
theorem ggX6_sees_X6_noTick : GoodIn wsX6_sees wsX6_noTick := goodIn_r _ [22, 23, 8, 9, 5, 10] (by decide +kernel) (by decide +kernel)
set_option maxRecDepth 20000 in
theorem gX6_sees_X6_noTick : GoodIn wsX6_sees (va_wsS RX6 121 yX6_noTick wsX6_noTick) := goodIn_app (goodIn_of _ (by decide +kernel)) ggX6_sees_X6_noTick
set_option maxRecDepth 20000 in
theorem ggX6_sees_X6_seesOf : GoodIn wsX6_sees wsX6_seesOf := goodIn_r _ [27, 28, 29, 30, 31, 32, 33, 34, 35, 36, 37, 38, 39, 5, 40, 41, 42, 43, 44, 45, 46, 47, 48, 49, 50, 51, 52, 53, 54, 55, 56, 57, 58, 59, 60, 61, 62, 63, 64, 65, 66, 67, 68, 69, 70, 71, 72, 73, 74, 75, 76, 77, 78, 79, 80, 81, 82] (by decide +kernel) (by decide +kernel)
set_option maxRecDepth 20000 in
theorem gX6_sees_X6_seesOf : GoodIn wsX6_sees (wsV RX6 144 RX6 yX6_seesOf wsX6_seesOf) := goodIn_app (goodIn_of _ (by decide +kernel)) ggX6_sees_X6_seesOf
set_option maxRecDepth 20000 in
theorem ggX6_knows_X6_takesFrom : GoodIn wsX6_knows wsX6_takesFrom := goodIn_r _ [13, 2, 49, 50, 51, 52, 53, 54, 55, 56, 57, 58, 59, 60, 61, 62, 63, 64, 65, 66, 67, 68, 69, 70, 71, 72, 73, 74, 75, 76, 77, 78, 79, 80, 81] (by decide +kernel) (by decide +kernel)
set_option maxRecDepth 20000 in
theorem gX6_knows_X6_takesFrom : GoodIn wsX6_knows (wsV RX6 154 RX6 yX6_takesFrom wsX6_takesFrom) := goodIn_app (goodIn_of _ (by decide +kernel)) ggX6_knows_X6_takesFrom
set_option maxRecDepth 20000 in
theorem ggX6_knows_X6_takesPost : GoodIn wsX6_knows wsX6_takesPost := goodIn_r _ [17, 18, 19, 20, 12, 21, 22, 23, 24, 25, 26, 7, 27, 28, 29, 30, 31, 32, 33, 34, 35, 36, 37, 38, 39, 5, 6, 8, 49, 50, 51, 52, 53, 54, 55, 56, 57, 58, 59, 60, 61, 62, 63, 64, 65, 66, 67, 68, 69, 70, 71, 72, 73, 74, 75, 76, 77, 78, 79, 80, 81] (by decide +kernel) (by decide +kernel)
set_option maxRecDepth 20000 in
theorem gX6_knows_X6_takesPost : GoodIn wsX6_knows (wsV RX6 157 RX6 yX6_takesPost wsX6_takesPost) := goodIn_app (goodIn_of _ (by decide +kernel)) ggX6_knows_X6_takesPost
set_option maxRecDepth 20000 in
theorem ggX6_knows_X6_taken : GoodIn wsX6_knows wsX6_taken := goodIn_r _ [43, 44, 45, 46, 12, 47, 22, 23, 25, 26, 7, 27, 48, 30, 31, 32, 33, 34, 35, 36, 37, 38, 39, 5, 6, 8, 49, 50, 51, 52, 53, 54, 55, 56, 57, 58, 59, 60, 61, 62, 63, 64, 65, 66, 67, 68, 69, 70, 71, 72, 73, 74, 75, 76, 77, 78, 79, 80, 81] (by decide +kernel) (by decide +kernel)
set_option maxRecDepth 20000 in
theorem gX6_knows_X6_taken : GoodIn wsX6_knows (wsV RX6 160 RX6 yX6_taken wsX6_taken) := goodIn_app (goodIn_of _ (by decide +kernel)) ggX6_knows_X6_taken
set_option maxRecDepth 20000 in
theorem ggX6_takesPosts_X6_knows : GoodIn wsX6_takesPosts wsX6_knows := goodIn_r _ [11, 12, 13, 1, 2, 3, 4, 5, 6, 14, 15, 16, 10, 17, 18, 19, 20, 21, 22, 23, 24, 25, 26, 27, 28, 29, 30, 31, 32, 33, 34, 35, 36, 37, 38, 39, 40, 41, 42, 43, 44, 45, 46, 47, 48, 49, 50, 51, 52, 53, 54, 55, 56, 57, 58, 59, 60, 61, 62, 63, 64, 65, 66, 67, 68, 69, 70, 71, 72, 73, 74, 75, 76, 77, 78, 79, 80, 81, 82, 83, 84, 85] (by decide +kernel) (by decide +kernel)
set_option maxRecDepth 20000 in
theorem gX6_takesPosts_X6_knows : GoodIn wsX6_takesPosts (wsV RX6 163 RX6 yX6_knows wsX6_knows) := goodIn_app (goodIn_of _ (by decide +kernel)) ggX6_takesPosts_X6_knows
set_option maxRecDepth 20000 in
theorem ggX6_takesPosts_X6_takesPost : GoodIn wsX6_takesPosts wsX6_takesPost := goodIn_r _ [21, 22, 23, 24, 10, 25, 26, 27, 28, 29, 30, 5, 31, 32, 33, 34, 35, 36, 37, 38, 39, 40, 41, 42, 43, 3, 4, 6, 53, 54, 55, 56, 57, 58, 59, 60, 61, 62, 63, 64, 65, 66, 67, 68, 69, 70, 71, 72, 73, 74, 75, 76, 77, 78, 79, 80, 81, 82, 83, 84, 85] (by decide +kernel) (by decide +kernel)
set_option maxRecDepth 20000 in
theorem gX6_takesPosts_X6_takesPost : GoodIn wsX6_takesPosts (wsV RX6 157 RX6 yX6_takesPost wsX6_takesPost) := goodIn_app (goodIn_of _ (by decide +kernel)) ggX6_takesPosts_X6_takesPost
set_option maxRecDepth 20000 in
theorem ggX6_takesPosts_X6_takesFrom : GoodIn wsX6_takesPosts wsX6_takesFrom := goodIn_r _ [17, 13, 53, 54, 55, 56, 57, 58, 59, 60, 61, 62, 63, 64, 65, 66, 67, 68, 69, 70, 71, 72, 73, 74, 75, 76, 77, 78, 79, 80, 81, 82, 83, 84, 85] (by decide +kernel) (by decide +kernel)
set_option maxRecDepth 20000 in
theorem gX6_takesPosts_X6_takesFrom : GoodIn wsX6_takesPosts (wsV RX6 154 RX6 yX6_takesFrom wsX6_takesFrom) := goodIn_app (goodIn_of _ (by decide +kernel)) ggX6_takesPosts_X6_takesFrom
set_option maxRecDepth 20000 in
theorem ggX6_earliest_X6_noPost : GoodIn wsX6_earliest wsX6_noPost := goodIn_r _ [7, 8, 9, 10, 6, 11, 74, 75, 76, 77, 78, 79, 80, 81, 82, 83, 84, 85, 86, 87, 88, 89, 90, 91, 92, 93, 94, 95, 96, 97, 98, 99, 100, 101, 102, 103, 104, 105, 106] (by decide +kernel) (by decide +kernel)
set_option maxRecDepth 20000 in
theorem gX6_earliest_X6_noPost : GoodIn wsX6_earliest (wsV RX6 150 RX6 yX6_noPost wsX6_noPost) := goodIn_app (goodIn_of _ (by decide +kernel)) ggX6_earliest_X6_noPost
set_option maxRecDepth 20000 in
theorem ggX6_earliest_X6_throwsIf : GoodIn wsX6_earliest wsX6_throwsIf := goodIn_r _ [15, 1, 74, 75, 76, 77, 78, 79, 80, 81, 82, 83, 84, 85, 86, 87, 88, 89, 90, 91, 92, 93, 94, 95, 96, 97, 98, 99, 100, 101, 102, 103, 104, 105, 106] (by decide +kernel) (by decide +kernel)
set_option maxRecDepth 20000 in
theorem gX6_earliest_X6_throwsIf : GoodIn wsX6_earliest (wsV RX6 107 RX6 yX6_throwsIf wsX6_throwsIf) := goodIn_app (goodIn_of _ (by decide +kernel)) ggX6_earliest_X6_throwsIf
set_option maxRecDepth 20000 in
theorem ggX6_earliest_X6_noTick : GoodIn wsX6_earliest wsX6_noTick := goodIn_r _ [18, 19, 9, 10, 6, 11] (by decide +kernel) (by decide +kernel)
set_option maxRecDepth 20000 in
theorem gX6_earliest_X6_noTick : GoodIn wsX6_earliest (va_wsS RX6 121 yX6_noTick wsX6_noTick) := goodIn_app (goodIn_of _ (by decide +kernel)) ggX6_earliest_X6_noTick
set_option maxRecDepth 20000 in
theorem ggX6_earliest_X6_takesPosts : GoodIn wsX6_earliest wsX6_takesPosts := goodIn_r _ [23, 2, 24, 25, 26, 27, 28, 29, 30, 31, 6, 32, 33, 34, 35, 36, 37, 38, 39, 40, 41, 42, 43, 44, 45, 46, 47, 48, 49, 50, 51, 52, 53, 54, 55, 56, 57, 58, 59, 60, 61, 62, 63, 64, 65, 66, 67, 68, 69, 70, 71, 72, 73, 74, 75, 76, 77, 78, 79, 80, 81, 82, 83, 84, 85, 86, 87, 88, 89, 90, 91, 92, 93, 94, 95, 96, 97, 98, 99, 100, 101, 102, 103, 104, 105, 106] (by decide +kernel) (by decide +kernel)
set_option maxRecDepth 20000 in
theorem gX6_earliest_X6_takesPosts : GoodIn wsX6_earliest (wsV RX6 167 RX6 yX6_takesPosts wsX6_takesPosts) := goodIn_app (goodIn_of _ (by decide +kernel)) ggX6_earliest_X6_takesPosts
set_option maxRecDepth 20000 in
theorem ggX6_late_X6_noPost : GoodIn wsX6_late wsX6_noPost := goodIn_r _ [14, 15, 16, 17, 13, 18, 73, 74, 75, 76, 77, 78, 79, 80, 81, 82, 83, 84, 85, 86, 87, 88, 89, 90, 91, 92, 93, 94, 95, 96, 97, 98, 99, 100, 101, 102, 103, 104, 105] (by decide +kernel) (by decide +kernel)
set_option maxRecDepth 20000 in
theorem gX6_late_X6_noPost : GoodIn wsX6_late (wsV RX6 150 RX6 yX6_noPost wsX6_noPost) := goodIn_app (goodIn_of _ (by decide +kernel)) ggX6_late_X6_noPost
set_option maxRecDepth 20000 in
theorem ggX6_late_X6_throwsIf : GoodIn wsX6_late wsX6_throwsIf := goodIn_r _ [22, 1, 73, 74, 75, 76, 77, 78, 79, 80, 81, 82, 83, 84, 85, 86, 87, 88, 89, 90, 91, 92, 93, 94, 95, 96, 97, 98, 99, 100, 101, 102, 103, 104, 105] (by decide +kernel) (by decide +kernel)
set_option maxRecDepth 20000 in
theorem gX6_late_X6_throwsIf : GoodIn wsX6_late (wsV RX6 107 RX6 yX6_throwsIf wsX6_throwsIf) := goodIn_app (goodIn_of _ (by decide +kernel)) ggX6_late_X6_throwsIf
set_option maxRecDepth 20000 in
theorem ggX6_late_X6_takesPosts : GoodIn wsX6_late wsX6_takesPosts := goodIn_r _ [26, 2, 27, 7, 8, 5, 9, 28, 29, 30, 13, 31, 32, 33, 34, 35, 36, 37, 38, 39, 40, 41, 42, 43, 44, 45, 46, 47, 48, 49, 50, 51, 52, 53, 54, 55, 56, 57, 58, 59, 60, 61, 62, 63, 64, 65, 66, 67, 68, 69, 70, 71, 72, 73, 74, 75, 76, 77, 78, 79, 80, 81, 82, 83, 84, 85, 86, 87, 88, 89, 90, 91, 92, 93, 94, 95, 96, 97, 98, 99, 100, 101, 102, 103, 104, 105] (by decide +kernel) (by decide +kernel)
set_option maxRecDepth 20000 in
theorem gX6_late_X6_takesPosts : GoodIn wsX6_late (wsV RX6 167 RX6 yX6_takesPosts wsX6_takesPosts) := goodIn_app (goodIn_of _ (by decide +kernel)) ggX6_late_X6_takesPosts
set_option maxRecDepth 20000 in
theorem ggX6_meets_X6_noPost : GoodIn wsX6_meets wsX6_noPost := goodIn_r _ [7, 8, 9, 10, 6, 11, 42, 43, 44, 45, 46, 47, 48, 49, 50, 51, 52, 53, 54, 55, 56, 57, 58, 59, 60, 61, 62, 63, 64, 65, 66, 67, 68, 69, 70, 71, 72, 73, 74] (by decide +kernel) (by decide +kernel)
set_option maxRecDepth 20000 in
theorem gX6_meets_X6_noPost : GoodIn wsX6_meets (wsV RX6 150 RX6 yX6_noPost wsX6_noPost) := goodIn_app (goodIn_of _ (by decide +kernel)) ggX6_meets_X6_noPost
set_option maxRecDepth 20000 in
theorem ggX6_meets_X6_throwsIf : GoodIn wsX6_meets wsX6_throwsIf := goodIn_r _ [15, 1, 42, 43, 44, 45, 46, 47, 48, 49, 50, 51, 52, 53, 54, 55, 56, 57, 58, 59, 60, 61, 62, 63, 64, 65, 66, 67, 68, 69, 70, 71, 72, 73, 74] (by decide +kernel) (by decide +kernel)
set_option maxRecDepth 20000 in
theorem gX6_meets_X6_throwsIf : GoodIn wsX6_meets (wsV RX6 107 RX6 yX6_throwsIf wsX6_throwsIf) := goodIn_app (goodIn_of _ (by decide +kernel)) ggX6_meets_X6_throwsIf
set_option maxRecDepth 20000 in
theorem ggX6_meets_X6_seesOf : GoodIn wsX6_meets wsX6_seesOf := goodIn_r _ [19, 20, 21, 22, 23, 24, 25, 26, 27, 28, 29, 30, 31, 6, 32, 33, 34, 35, 36, 37, 38, 39, 40, 41, 42, 43, 44, 45, 46, 47, 48, 49, 50, 51, 52, 53, 54, 55, 56, 57, 58, 59, 60, 61, 62, 63, 64, 65, 66, 67, 68, 69, 70, 71, 72, 73, 74] (by decide +kernel) (by decide +kernel)
set_option maxRecDepth 20000 in
theorem gX6_meets_X6_seesOf : GoodIn wsX6_meets (wsV RX6 144 RX6 yX6_seesOf wsX6_seesOf) := goodIn_app (goodIn_of _ (by decide +kernel)) ggX6_meets_X6_seesOf
set_option maxRecDepth 20000 in
theorem ggX6_part_X6_noPost : GoodIn wsX6_part wsX6_noPost := goodIn_r _ [6, 7, 8, 9, 5, 10, 62, 63, 64, 65, 66, 67, 68, 69, 70, 71, 72, 73, 74, 75, 76, 77, 78, 79, 80, 81, 82, 83, 84, 85, 86, 87, 88, 89, 90, 91, 92, 93, 94] (by decide +kernel) (by decide +kernel)
set_option maxRecDepth 20000 in
theorem gX6_part_X6_noPost : GoodIn wsX6_part (wsV RX6 150 RX6 yX6_noPost wsX6_noPost) := goodIn_app (goodIn_of _ (by decide +kernel)) ggX6_part_X6_noPost
set_option maxRecDepth 20000 in
theorem ggX6_part_X6_throwsIf : GoodIn wsX6_part wsX6_throwsIf := goodIn_r _ [14, 1, 62, 63, 64, 65, 66, 67, 68, 69, 70, 71, 72, 73, 74, 75, 76, 77, 78, 79, 80, 81, 82, 83, 84, 85, 86, 87, 88, 89, 90, 91, 92, 93, 94] (by decide +kernel) (by decide +kernel)
set_option maxRecDepth 20000 in
theorem gX6_part_X6_throwsIf : GoodIn wsX6_part (wsV RX6 107 RX6 yX6_throwsIf wsX6_throwsIf) := goodIn_app (goodIn_of _ (by decide +kernel)) ggX6_part_X6_throwsIf
set_option maxRecDepth 20000 in
theorem ggX6_part_X6_noTick : GoodIn wsX6_part wsX6_noTick := goodIn_r _ [17, 18, 8, 9, 5, 10] (by decide +kernel) (by decide +kernel)
set_option maxRecDepth 20000 in
theorem gX6_part_X6_noTick : GoodIn wsX6_part (va_wsS RX6 121 yX6_noTick wsX6_noTick) := goodIn_app (goodIn_of _ (by decide +kernel)) ggX6_part_X6_noTick
set_option maxRecDepth 20000 in
theorem ggX6_part_X6_flows : GoodIn wsX6_part wsX6_flows := goodIn_r _ [22, 23, 24, 25, 26, 27, 28, 5, 29, 30, 31, 32, 33, 34, 35, 36, 37, 38, 39, 40, 41, 42, 43, 44, 45, 46, 47, 48, 49, 50, 51, 52, 53, 54, 55, 56, 57, 58, 59, 60, 61, 62, 63, 64, 65, 66, 67, 68, 69, 70, 71, 72, 73, 74, 75, 76, 77, 78, 79, 80, 81, 82, 83, 84, 85, 86, 87, 88, 89, 90, 91, 92, 93, 94] (by decide +kernel) (by decide +kernel)
set_option maxRecDepth 20000 in
theorem gX6_part_X6_flows : GoodIn wsX6_part (wsV RX6 173 RX6 yX6_flows wsX6_flows) := goodIn_app (goodIn_of _ (by decide +kernel)) ggX6_part_X6_flows
set_option maxRecDepth 20000 in
theorem ggX6_flows_X6_seesOf : GoodIn wsX6_flows wsX6_seesOf := goodIn_r _ [8, 9, 10, 11, 12, 13, 14, 15, 16, 17, 18, 19, 20, 7, 21, 22, 23, 24, 25, 26, 27, 28, 29, 30, 41, 42, 43, 44, 45, 46, 47, 48, 49, 50, 51, 52, 53, 54, 55, 56, 57, 58, 59, 60, 61, 62, 63, 64, 65, 66, 67, 68, 69, 70, 71, 72, 73] (by decide +kernel) (by decide +kernel)
set_option maxRecDepth 20000 in
theorem gX6_flows_X6_seesOf : GoodIn wsX6_flows (wsV RX6 144 RX6 yX6_seesOf wsX6_seesOf) := goodIn_app (goodIn_of _ (by decide +kernel)) ggX6_flows_X6_seesOf
set_option maxRecDepth 20000 in
theorem ggX6_flows_X6_linkOf : GoodIn wsX6_flows wsX6_linkOf := goodIn_r _ [34, 9, 10, 12, 13, 14, 15, 35, 18, 19, 20, 7, 21, 22, 23, 24, 25, 26, 27, 28, 29, 30, 41, 42, 43, 44, 45, 46, 47, 48, 49, 50, 51, 52, 53, 54, 55, 56, 57, 58, 59, 60, 61, 62, 63, 64, 65, 66, 67, 68, 69, 70, 71, 72, 73] (by decide +kernel) (by decide +kernel)
set_option maxRecDepth 20000 in
theorem gX6_flows_X6_linkOf : GoodIn wsX6_flows (wsV RX6 140 RX6 yX6_linkOf wsX6_linkOf) := goodIn_app (goodIn_of _ (by decide +kernel)) ggX6_flows_X6_linkOf
set_option maxRecDepth 20000 in
theorem ggX6_flows_X6_finds : GoodIn wsX6_flows wsX6_finds := goodIn_r _ [39, 3, 40, 1, 41, 42, 43, 44, 45, 46, 47, 48, 49, 50, 51, 52, 53, 54, 55, 56, 57, 58, 59, 60, 61, 62, 63, 64, 65, 66, 67, 68, 69, 70, 71, 72, 73] (by decide +kernel) (by decide +kernel)
set_option maxRecDepth 20000 in
theorem gX6_flows_X6_finds : GoodIn wsX6_flows (wsV RX6 176 RX6 yX6_finds wsX6_finds) := goodIn_app (goodIn_of _ (by decide +kernel)) ggX6_flows_X6_finds
set_option maxRecDepth 20000 in
theorem ggX6_send_X6_noPost : GoodIn wsX6_send wsX6_noPost := goodIn_r _ [16, 17, 18, 19, 15, 20, 25, 26, 27, 28, 29, 30, 31, 32, 33, 34, 35, 36, 37, 38, 39, 40, 41, 42, 43, 44, 45, 46, 47, 48, 49, 50, 51, 52, 53, 54, 55, 56, 57] (by decide +kernel) (by decide +kernel)
set_option maxRecDepth 20000 in
theorem gX6_send_X6_noPost : GoodIn wsX6_send (wsV RX6 150 RX6 yX6_noPost wsX6_noPost) := goodIn_app (goodIn_of _ (by decide +kernel)) ggX6_send_X6_noPost
set_option maxRecDepth 20000 in
theorem ggX6_send_X6_throwsIf : GoodIn wsX6_send wsX6_throwsIf := goodIn_r _ [24, 1, 25, 26, 27, 28, 29, 30, 31, 32, 33, 34, 35, 36, 37, 38, 39, 40, 41, 42, 43, 44, 45, 46, 47, 48, 49, 50, 51, 52, 53, 54, 55, 56, 57] (by decide +kernel) (by decide +kernel)
set_option maxRecDepth 20000 in
theorem gX6_send_X6_throwsIf : GoodIn wsX6_send (wsV RX6 107 RX6 yX6_throwsIf wsX6_throwsIf) := goodIn_app (goodIn_of _ (by decide +kernel)) ggX6_send_X6_throwsIf
set_option maxRecDepth 20000 in
theorem ggX6_choice_X6_knows : GoodIn wsX6_choice wsX6_knows := goodIn_r _ [12, 13, 14, 6, 7, 15, 16, 17, 18, 19, 20, 21, 11, 22, 23, 24, 25, 26, 27, 28, 29, 30, 31, 32, 33, 34, 35, 36, 37, 38, 39, 40, 41, 42, 43, 44, 45, 46, 47, 48, 49, 50, 51, 52, 53, 54, 55, 56, 57, 62, 63, 64, 65, 66, 67, 68, 69, 70, 71, 72, 73, 74, 75, 76, 77, 78, 79, 80, 81, 82, 83, 84, 85, 86, 87, 88, 89, 90, 91, 92, 93, 94] (by decide +kernel) (by decide +kernel)
set_option maxRecDepth 20000 in
theorem gX6_choice_X6_knows : GoodIn wsX6_choice (wsV RX6 163 RX6 yX6_knows wsX6_knows) := goodIn_app (goodIn_of _ (by decide +kernel)) ggX6_choice_X6_knows
set_option maxRecDepth 20000 in
theorem ggX6_choice_X6_takesPosts : GoodIn wsX6_choice wsX6_takesPosts := goodIn_r _ [61, 6, 7, 15, 16, 17, 18, 8, 9, 10, 11, 12, 13, 14, 19, 20, 21, 22, 23, 24, 25, 26, 27, 28, 29, 30, 31, 32, 33, 34, 35, 36, 37, 38, 39, 40, 41, 42, 43, 44, 45, 46, 47, 48, 49, 50, 51, 52, 53, 54, 55, 56, 57, 62, 63, 64, 65, 66, 67, 68, 69, 70, 71, 72, 73, 74, 75, 76, 77, 78, 79, 80, 81, 82, 83, 84, 85, 86, 87, 88, 89, 90, 91, 92, 93, 94] (by decide +kernel) (by decide +kernel)
set_option maxRecDepth 20000 in
theorem gX6_choice_X6_takesPosts : GoodIn wsX6_choice (wsV RX6 167 RX6 yX6_takesPosts wsX6_takesPosts) := goodIn_app (goodIn_of _ (by decide +kernel)) ggX6_choice_X6_takesPosts
set_option maxRecDepth 20000 in
theorem ggX6_choice_X6_takesFrom : GoodIn wsX6_choice wsX6_takesFrom := goodIn_r _ [22, 14, 62, 63, 64, 65, 66, 67, 68, 69, 70, 71, 72, 73, 74, 75, 76, 77, 78, 79, 80, 81, 82, 83, 84, 85, 86, 87, 88, 89, 90, 91, 92, 93, 94] (by decide +kernel) (by decide +kernel)
set_option maxRecDepth 20000 in
theorem gX6_choice_X6_takesFrom : GoodIn wsX6_choice (wsV RX6 154 RX6 yX6_takesFrom wsX6_takesFrom) := goodIn_app (goodIn_of _ (by decide +kernel)) ggX6_choice_X6_takesFrom
set_option maxRecDepth 20000 in
theorem ggX6_choice_X6_takesPost : GoodIn wsX6_choice wsX6_takesPost := goodIn_r _ [26, 27, 28, 29, 11, 30, 31, 32, 33, 34, 35, 17, 36, 37, 38, 39, 40, 41, 42, 43, 44, 45, 46, 47, 48, 15, 16, 18, 62, 63, 64, 65, 66, 67, 68, 69, 70, 71, 72, 73, 74, 75, 76, 77, 78, 79, 80, 81, 82, 83, 84, 85, 86, 87, 88, 89, 90, 91, 92, 93, 94] (by decide +kernel) (by decide +kernel)
set_option maxRecDepth 20000 in
theorem gX6_choice_X6_takesPost : GoodIn wsX6_choice (wsV RX6 157 RX6 yX6_takesPost wsX6_takesPost) := goodIn_app (goodIn_of _ (by decide +kernel)) ggX6_choice_X6_takesPost
set_option maxRecDepth 20000 in
theorem ggX6_choice_X6_taken : GoodIn wsX6_choice wsX6_taken := goodIn_r _ [52, 53, 54, 55, 11, 56, 31, 32, 34, 35, 17, 36, 57, 39, 40, 41, 42, 43, 44, 45, 46, 47, 48, 15, 16, 18, 62, 63, 64, 65, 66, 67, 68, 69, 70, 71, 72, 73, 74, 75, 76, 77, 78, 79, 80, 81, 82, 83, 84, 85, 86, 87, 88, 89, 90, 91, 92, 93, 94] (by decide +kernel) (by decide +kernel)
set_option maxRecDepth 20000 in
theorem gX6_choice_X6_taken : GoodIn wsX6_choice (wsV RX6 160 RX6 yX6_taken wsX6_taken) := goodIn_app (goodIn_of _ (by decide +kernel)) ggX6_choice_X6_taken
set_option maxRecDepth 20000 in
theorem ggX6_moves_X6_choice : GoodIn wsX6_moves wsX6_choice := goodIn_r _ [16, 4, 1, 2, 9, 3, 17, 18, 19, 20, 21, 15, 22, 23, 24, 25, 26, 27, 28, 29, 30, 31, 32, 33, 34, 35, 36, 37, 38, 39, 40, 41, 42, 43, 44, 45, 46, 47, 48, 49, 50, 51, 52, 53, 54, 55, 56, 57, 58, 59, 60, 61, 62, 63, 64, 65, 66, 67, 68, 69, 70, 71, 76, 77, 78, 79, 80, 81, 82, 83, 84, 85, 86, 87, 88, 89, 90, 91, 92, 93, 94, 95, 96, 97, 98, 99, 100, 101, 102, 103, 104, 105, 106, 107, 108] (by decide +kernel) (by decide +kernel)
set_option maxRecDepth 20000 in
theorem gX6_moves_X6_choice : GoodIn wsX6_moves (wsV RX6 186 RX6 yX6_choice wsX6_choice) := goodIn_app (goodIn_of _ (by decide +kernel)) ggX6_moves_X6_choice
set_option maxRecDepth 20000 in
theorem ggX6_moves_X6_isTaken : GoodIn wsX6_moves wsX6_isTaken := goodIn_r _ [75, 6, 5, 7, 76, 77, 78, 79, 80, 81, 82, 83, 84, 85, 86, 87, 88, 89, 90, 91, 92, 93, 94, 95, 96, 97, 98, 99, 100, 101, 102, 103, 104, 105, 106, 107, 108] (by decide +kernel) (by decide +kernel)
set_option maxRecDepth 20000 in
theorem gX6_moves_X6_isTaken : GoodIn wsX6_moves (wsV RX6 189 RX6 yX6_isTaken wsX6_isTaken) := goodIn_app (goodIn_of _ (by decide +kernel)) ggX6_moves_X6_isTaken
set_option maxRecDepth 20000 in
theorem ggX6_moves_X6_taken : GoodIn wsX6_moves wsX6_taken := goodIn_r _ [62, 63, 64, 65, 15, 66, 41, 42, 44, 45, 27, 46, 67, 49, 50, 51, 52, 53, 54, 55, 56, 57, 58, 25, 26, 28, 76, 77, 78, 79, 80, 81, 82, 83, 84, 85, 86, 87, 88, 89, 90, 91, 92, 93, 94, 95, 96, 97, 98, 99, 100, 101, 102, 103, 104, 105, 106, 107, 108] (by decide +kernel) (by decide +kernel)
set_option maxRecDepth 20000 in
theorem gX6_moves_X6_taken : GoodIn wsX6_moves (wsV RX6 160 RX6 yX6_taken wsX6_taken) := goodIn_app (goodIn_of _ (by decide +kernel)) ggX6_moves_X6_taken
set_option maxRecDepth 20000 in
theorem ggX6_steps_X6_in : GoodIn wsX6_steps wsX6_in := goodIn_r _ [13] (by decide +kernel) (by decide +kernel)
set_option maxRecDepth 20000 in
theorem gX6_steps_X6_in : GoodIn wsX6_steps (va_wsS RX6 96 yX6_in wsX6_in) := goodIn_app (goodIn_of _ (by decide +kernel)) ggX6_steps_X6_in
set_option maxRecDepth 20000 in
theorem ggX6_steps_X6_throwsIf : GoodIn wsX6_steps wsX6_throwsIf := goodIn_r _ [17, 1, 95, 96, 97, 98, 99, 100, 101, 102, 103, 104, 105, 106, 107, 108, 109, 110, 111, 112, 113, 114, 115, 116, 117, 118, 119, 120, 121, 122, 123, 124, 125, 126, 127] (by decide +kernel) (by decide +kernel)
set_option maxRecDepth 20000 in
theorem gX6_steps_X6_throwsIf : GoodIn wsX6_steps (wsV RX6 107 RX6 yX6_throwsIf wsX6_throwsIf) := goodIn_app (goodIn_of _ (by decide +kernel)) ggX6_steps_X6_throwsIf
set_option maxRecDepth 20000 in
theorem ggX6_steps_X6_moves : GoodIn wsX6_steps wsX6_moves := goodIn_r _ [21, 4, 22, 8, 23, 24, 2, 25, 6, 5, 7, 26, 27, 28, 29, 12, 30, 31, 32, 33, 34, 35, 36, 37, 38, 39, 40, 41, 42, 43, 44, 45, 46, 47, 48, 49, 50, 51, 52, 53, 54, 55, 56, 57, 58, 59, 60, 61, 62, 63, 64, 65, 66, 67, 68, 69, 70, 71, 72, 73, 74, 75, 76, 77, 78, 79, 80, 81, 82, 83, 84, 85, 86, 87, 88, 89, 95, 96, 97, 98, 99, 100, 101, 102, 103, 104, 105, 106, 107, 108, 109, 110, 111, 112, 113, 114, 115, 116, 117, 118, 119, 120, 121, 122, 123, 124, 125, 126, 127] (by decide +kernel) (by decide +kernel)
set_option maxRecDepth 20000 in
theorem gX6_steps_X6_moves : GoodIn wsX6_steps (wsV RX6 193 RX6 yX6_moves wsX6_moves) := goodIn_app (goodIn_of _ (by decide +kernel)) ggX6_steps_X6_moves
set_option maxRecDepth 20000 in
theorem ggX6_steps_X6_handsOut : GoodIn wsX6_steps wsX6_handsOut := goodIn_r _ [93, 3, 4, 22, 23, 94, 5, 95, 96, 97, 98, 99, 100, 101, 102, 103, 104, 105, 106, 107, 108, 109, 110, 111, 112, 113, 114, 115, 116, 117, 118, 119, 120, 121, 122, 123, 124, 125, 126, 127] (by decide +kernel) (by decide +kernel)
set_option maxRecDepth 20000 in
theorem gX6_steps_X6_handsOut : GoodIn wsX6_steps (wsV RX6 147 RX6 yX6_handsOut wsX6_handsOut) := goodIn_app (goodIn_of _ (by decide +kernel)) ggX6_steps_X6_handsOut
set_option maxRecDepth 20000 in
theorem ggX6_look_X6_in : GoodIn wsX6_look wsX6_in := goodIn_r _ [13] (by decide +kernel) (by decide +kernel)
set_option maxRecDepth 20000 in
theorem gX6_look_X6_in : GoodIn wsX6_look (va_wsS RX6 96 yX6_in wsX6_in) := goodIn_app (goodIn_of _ (by decide +kernel)) ggX6_look_X6_in
set_option maxRecDepth 20000 in
theorem ggX6_look_X6_throwsIf : GoodIn wsX6_look wsX6_throwsIf := goodIn_r _ [17, 1, 18, 19, 20, 21, 22, 23, 24, 25, 26, 27, 28, 29, 30, 31, 32, 33, 34, 35, 36, 37, 38, 39, 40, 41, 42, 43, 44, 45, 46, 47, 48, 49, 50] (by decide +kernel) (by decide +kernel)
set_option maxRecDepth 20000 in
theorem gX6_look_X6_throwsIf : GoodIn wsX6_look (wsV RX6 107 RX6 yX6_throwsIf wsX6_throwsIf) := goodIn_app (goodIn_of _ (by decide +kernel)) ggX6_look_X6_throwsIf
set_option maxRecDepth 20000 in
theorem ggX6_count_X6_linkOf : GoodIn wsX6_count wsX6_linkOf := goodIn_r _ [13, 5, 14, 15, 16, 17, 18, 19, 20, 21, 22, 12, 23, 24, 25, 26, 27, 28, 29, 30, 31, 32, 33, 34, 35, 36, 37, 38, 39, 40, 41, 42, 43, 44, 45, 46, 47, 48, 49, 50, 51, 52, 53, 54, 55, 56, 57, 58, 59, 60, 61, 62, 63, 64, 65] (by decide +kernel) (by decide +kernel)
set_option maxRecDepth 20000 in
theorem gX6_count_X6_linkOf : GoodIn wsX6_count (wsV RX6 140 RX6 yX6_linkOf wsX6_linkOf) := goodIn_app (goodIn_of _ (by decide +kernel)) ggX6_count_X6_linkOf
set_option maxRecDepth 20000 in
theorem ggL_plane_X5_plane : GoodIn wsL_plane wsX5_plane := goodIn_ca (goodIn_ca (goodIn_ca (goodIn_r _ [8, 9, 10, 11, 12, 13, 14, 15, 7, 16, 17, 18, 19, 20, 21, 22, 23, 24, 25, 26, 27, 28, 29, 30, 31, 32, 33, 34, 35, 36, 37, 38, 39, 40, 41, 42, 43, 44, 45, 46, 47, 48, 49, 50, 51, 52, 53, 54, 55, 56, 57, 58, 59, 60, 61, 62, 63, 64, 65, 66, 67, 68, 69, 70, 71, 72, 73, 74, 75, 76, 77, 78, 79, 80, 81, 82, 83, 84, 85, 86, 87, 88, 89, 90, 91, 92, 93, 94, 95, 96, 97, 98, 99, 100, 101, 102, 103, 104, 105, 106, 107, 108, 109, 110, 111, 112, 113, 114, 115, 116, 117] (by decide +kernel) (by decide +kernel)) (goodIn_sub (fun _ h => List.mem_cons_of_mem _ (List.mem_append_left _ (List.mem_append_left _ (List.mem_append_right _ h)))) (by decide +kernel))) (goodIn_sub (fun _ h => List.mem_cons_of_mem _ (List.mem_append_left _ (List.mem_append_right _ h))) (by decide +kernel))) (goodIn_sub (fun _ h => List.mem_cons_of_mem _ (List.mem_append_right _ h)) (by decide +kernel))
set_option maxRecDepth 20000 in
theorem gL_plane_X5_plane : GoodIn wsL_plane (wsV RL 7 RX5 yX5_plane wsX5_plane) := goodIn_app (goodIn_of _ (by decide +kernel)) ggL_plane_X5_plane
set_option maxRecDepth 20000 in
theorem ggL_post_X5_post : GoodIn wsL_post wsX5_post := goodIn_ca (goodIn_ca (goodIn_ca (goodIn_r _ [8, 9, 10, 11, 12, 13, 14, 15, 16, 17, 18, 19, 7, 20, 21, 22, 23, 24, 25, 26, 27, 28, 29, 30, 31, 32, 33, 34, 35, 36, 37, 38, 39, 40, 41, 42, 43, 44, 45, 46, 47, 48, 49, 50, 51, 52, 53, 54, 55, 56, 57, 58, 59, 60, 61, 62, 63, 64, 65, 66, 67, 68, 69, 70, 71, 72, 73, 74, 75, 76, 77, 78, 79, 80, 81, 82, 83, 84, 85, 86, 87, 88, 89, 90, 91, 92, 93, 94, 95, 96, 97, 98, 99, 100, 101, 102, 103, 104, 105, 106, 107, 108, 109, 110, 111, 112, 113, 114, 115, 116, 117, 118, 119, 120, 121, 122, 123, 124, 125, 126, 127, 128, 129, 130, 131, 132, 133] (by decide +kernel) (by decide +kernel)) (goodIn_sub (fun _ h => List.mem_cons_of_mem _ (List.mem_append_left _ (List.mem_append_left _ (List.mem_append_right _ h)))) (by decide +kernel))) (goodIn_sub (fun _ h => List.mem_cons_of_mem _ (List.mem_append_left _ (List.mem_append_right _ h))) (by decide +kernel))) (goodIn_sub (fun _ h => List.mem_cons_of_mem _ (List.mem_append_right _ h)) (by decide +kernel))
set_option maxRecDepth 20000 in
theorem gL_post_X5_post : GoodIn wsL_post (wsV RL 19 RX5 yX5_post wsX5_post) := goodIn_app (goodIn_of _ (by decide +kernel)) ggL_post_X5_post
set_option maxRecDepth 20000 in
theorem ggL_over_X5_over : GoodIn wsL_over wsX5_over := goodIn_ca (goodIn_ca (goodIn_r _ [7, 8, 9, 10, 11, 6, 12, 13, 14, 15, 16, 17, 18, 19, 20, 21, 22, 23, 24, 25, 26, 27, 28, 29, 30, 31, 32, 33, 34, 35, 36, 37, 38, 39, 40, 41, 42, 43, 44, 45, 46, 47, 48, 49, 50, 51] (by decide +kernel) (by decide +kernel)) (goodIn_sub (fun _ h => List.mem_cons_of_mem _ (List.mem_append_left _ (List.mem_append_right _ h))) (by decide +kernel))) (goodIn_sub (fun _ h => List.mem_cons_of_mem _ (List.mem_append_right _ h)) (by decide +kernel))
set_option maxRecDepth 20000 in
theorem gL_over_X5_over : GoodIn wsL_over (wsV RL 22 RX5 yX5_over wsX5_over) := goodIn_app (goodIn_of _ (by decide +kernel)) ggL_over_X5_over
set_option maxRecDepth 20000 in
theorem ggL_dead_X5_dead : GoodIn wsL_dead wsX5_dead := goodIn_ca (goodIn_r _ [6, 7, 8, 9, 10, 11, 5, 12, 13, 14, 15, 16, 17, 18, 19, 20, 21, 22, 23, 24, 25, 26, 27, 28, 29, 30, 31, 32, 33, 34, 35, 36, 37, 38, 39, 40, 41, 42, 43, 44, 45, 46, 47, 48, 49, 50, 51, 52, 53, 54, 55, 56, 57, 58, 59, 60, 61, 62, 63, 64, 65, 66, 67, 68, 69, 70, 71, 72, 73, 74, 75, 76, 77, 78, 79, 80, 81, 82, 83, 84, 85, 86, 87, 88] (by decide +kernel) (by decide +kernel)) (goodIn_sub (fun _ h => List.mem_cons_of_mem _ (List.mem_append_right _ h)) (by decide +kernel))
set_option maxRecDepth 20000 in
theorem gL_dead_X5_dead : GoodIn wsL_dead (wsV RL 28 RX5 yX5_dead wsX5_dead) := goodIn_app (goodIn_of _ (by decide +kernel)) ggL_dead_X5_dead
set_option maxRecDepth 20000 in
theorem ggL_link_X5_link : GoodIn wsL_link wsX5_link := goodIn_ca (goodIn_ca (goodIn_r _ [7, 8, 9, 10, 11, 6, 12, 13, 14, 15, 16, 17, 18, 19, 20, 21, 22, 23, 24, 25, 26, 27, 28, 29, 30, 31, 32, 33, 34, 35, 36, 37, 38, 39, 40, 41, 42, 43, 44, 45, 46, 47, 48, 49, 50, 51, 52, 53, 54, 55, 56, 57, 58] (by decide +kernel) (by decide +kernel)) (goodIn_sub (fun _ h => List.mem_cons_of_mem _ (List.mem_append_left _ (List.mem_append_right _ h))) (by decide +kernel))) (goodIn_sub (fun _ h => List.mem_cons_of_mem _ (List.mem_append_right _ h)) (by decide +kernel))
set_option maxRecDepth 20000 in
theorem gL_link_X5_link : GoodIn wsL_link (wsV RL 32 RX5 yX5_link wsX5_link) := goodIn_app (goodIn_of _ (by decide +kernel)) ggL_link_X5_link
set_option maxRecDepth 20000 in
theorem ggL_sees_X5_sees : GoodIn wsL_sees wsX5_sees := goodIn_ca (goodIn_ca (goodIn_r _ [7, 8, 9, 10, 11, 6, 12, 13, 14, 15, 16, 17, 18, 19, 20, 21, 22, 23, 24, 25, 26, 27, 28, 29, 30, 31, 32, 33, 34, 35, 36, 37, 38, 39, 40, 41, 42, 43, 44, 45, 46, 47, 48, 49, 50, 51, 52, 53, 54, 55, 56, 57, 58, 59] (by decide +kernel) (by decide +kernel)) (goodIn_sub (fun _ h => List.mem_cons_of_mem _ (List.mem_append_left _ (List.mem_append_right _ h))) (by decide +kernel))) (goodIn_sub (fun _ h => List.mem_cons_of_mem _ (List.mem_append_right _ h)) (by decide +kernel))
set_option maxRecDepth 20000 in
theorem gL_sees_X5_sees : GoodIn wsL_sees (wsV RL 35 RX5 yX5_sees wsX5_sees) := goodIn_app (goodIn_of _ (by decide +kernel)) ggL_sees_X5_sees
set_option maxRecDepth 20000 in
theorem ggL_earliest_X5_earliest : GoodIn wsL_earliest wsX5_earliest := goodIn_ca (goodIn_ca (goodIn_r _ [7, 8, 9, 10, 11, 6, 12, 13, 14, 15, 16, 17, 18, 19, 20, 21, 22, 23, 24, 25, 26, 27, 28, 29, 30, 31, 32, 33, 34, 35, 36, 37, 38, 39, 40, 41, 42, 43, 44, 45, 46, 47, 48, 49, 50, 51, 52, 53, 54, 55, 56, 57, 58, 59, 60, 61, 62, 63, 64, 65, 66, 67, 68, 69, 70, 71, 72, 73, 74, 75, 76, 77, 78, 79, 80, 81, 82, 83, 84, 85, 86, 87, 88, 89, 90, 91, 92, 93, 94, 95, 96, 97, 98, 99, 100, 101, 102, 103, 104, 105, 106, 107, 108, 109, 110, 111, 112, 113, 114, 115, 116, 117, 118, 119, 120] (by decide +kernel) (by decide +kernel)) (goodIn_sub (fun _ h => List.mem_cons_of_mem _ (List.mem_append_left _ (List.mem_append_right _ h))) (by decide +kernel))) (goodIn_sub (fun _ h => List.mem_cons_of_mem _ (List.mem_append_right _ h)) (by decide +kernel))
set_option maxRecDepth 20000 in
theorem gL_earliest_X5_earliest : GoodIn wsL_earliest (wsV RL 39 RX5 yX5_earliest wsX5_earliest) := goodIn_app (goodIn_of _ (by decide +kernel)) ggL_earliest_X5_earliest
set_option maxRecDepth 20000 in
theorem ggL_late_X5_late : GoodIn wsL_late wsX5_late := goodIn_ca (goodIn_r _ [6, 7, 8, 9, 10, 5, 11, 12, 13, 14, 15, 16, 17, 18, 19, 20, 21, 22, 23, 24, 25, 26, 27, 28, 29, 30, 31, 32, 33, 34, 35, 36, 37, 38, 39, 40, 41, 42, 43, 44, 45, 46, 47, 48, 49, 50, 51, 52, 53, 54, 55, 56, 57, 58, 59, 60, 61, 62, 63, 64, 65, 66, 67, 68, 69, 70, 71, 72, 73, 74, 75, 76, 77, 78, 79, 80, 81, 82, 83, 84, 85, 86, 87, 88, 89, 90, 91, 92, 93, 94, 95, 96, 97, 98, 99, 100, 101, 102, 103, 104, 105, 106, 107, 108, 109, 110, 111, 112, 113, 114, 115, 116] (by decide +kernel) (by decide +kernel)) (goodIn_sub (fun _ h => List.mem_cons_of_mem _ (List.mem_append_right _ h)) (by decide +kernel))
set_option maxRecDepth 20000 in
theorem gL_late_X5_late : GoodIn wsL_late (wsV RL 42 RX5 yX5_late wsX5_late) := goodIn_app (goodIn_of _ (by decide +kernel)) ggL_late_X5_late
set_option maxRecDepth 20000 in
theorem ggL_meets_X5_meets : GoodIn wsL_meets wsX5_meets := goodIn_ca (goodIn_r _ [6, 7, 8, 9, 10, 11, 5, 12, 13, 14, 15, 16, 17, 18, 19, 20, 21, 22, 23, 24, 25, 26, 27, 28, 29, 30, 31, 32, 33, 34, 35, 36, 37, 38, 39, 40, 41, 42, 43, 44, 45, 46, 47, 48] (by decide +kernel) (by decide +kernel)) (goodIn_sub (fun _ h => List.mem_cons_of_mem _ (List.mem_append_right _ h)) (by decide +kernel))
set_option maxRecDepth 20000 in
theorem gL_meets_X5_meets : GoodIn wsL_meets (wsV RL 46 RX5 yX5_meets wsX5_meets) := goodIn_app (goodIn_of _ (by decide +kernel)) ggL_meets_X5_meets
set_option maxRecDepth 20000 in
theorem ggL_part_X5_part : GoodIn wsL_part wsX5_part := goodIn_ca (goodIn_ca (goodIn_r _ [7, 8, 9, 10, 11, 6, 12, 13, 14, 15, 16, 17, 18, 19, 20, 21, 22, 23, 24, 25, 26, 27, 28, 29, 30, 31, 32, 33, 34, 35, 36, 37, 38, 39, 40, 41, 42, 43, 44, 45, 46, 47, 48, 49, 50, 51, 52, 53, 54, 55, 56, 57, 58, 59, 60, 61, 62, 63, 64, 65, 66, 67, 68, 69, 70, 71, 72, 73, 74, 75, 76, 77, 78, 79, 80, 81, 82, 83, 84, 85, 86, 87, 88, 89, 90, 91, 92, 93, 94, 95, 96, 97, 98, 99, 100, 101, 102, 103, 104, 105, 106, 107, 108, 109, 110, 111, 112, 113, 114, 115, 116, 117, 118, 119, 120, 121, 122, 123, 124, 125, 126, 127, 128, 129, 130, 131, 132, 133, 134, 135] (by decide +kernel) (by decide +kernel)) (goodIn_sub (fun _ h => List.mem_cons_of_mem _ (List.mem_append_left _ (List.mem_append_right _ h))) (by decide +kernel))) (goodIn_sub (fun _ h => List.mem_cons_of_mem _ (List.mem_append_right _ h)) (by decide +kernel))
set_option maxRecDepth 20000 in
theorem gL_part_X5_part : GoodIn wsL_part (wsV RL 50 RX5 yX5_part wsX5_part) := goodIn_app (goodIn_of _ (by decide +kernel)) ggL_part_X5_part
set_option maxRecDepth 20000 in
theorem ggL_send_X5_send : GoodIn wsL_send wsX5_send := goodIn_ca (goodIn_ca (goodIn_ca (goodIn_r _ [8, 9, 10, 11, 12, 13, 14, 15, 16, 17, 7, 18, 19, 20, 21, 22, 23, 24, 25, 26, 27, 28, 29, 30, 31, 32, 33, 34, 35, 36, 37, 38, 39, 40, 41, 42, 43, 44, 45, 46, 47, 48, 49, 50, 51, 52, 53, 54, 55, 56, 57, 58, 59, 60, 61, 62, 63, 64, 65, 66, 67, 68, 69, 70, 71, 72, 73, 74, 75, 76, 77, 78, 79, 80, 81, 82, 83] (by decide +kernel) (by decide +kernel)) (goodIn_sub (fun _ h => List.mem_cons_of_mem _ (List.mem_append_left _ (List.mem_append_left _ (List.mem_append_right _ h)))) (by decide +kernel))) (goodIn_sub (fun _ h => List.mem_cons_of_mem _ (List.mem_append_left _ (List.mem_append_right _ h))) (by decide +kernel))) (goodIn_sub (fun _ h => List.mem_cons_of_mem _ (List.mem_append_right _ h)) (by decide +kernel))
set_option maxRecDepth 20000 in
theorem gL_send_X5_send : GoodIn wsL_send (wsV RL 53 RX5 yX5_send wsX5_send) := goodIn_app (goodIn_of _ (by decide +kernel)) ggL_send_X5_send
set_option maxRecDepth 20000 in
theorem ggL_steps_X5_steps : GoodIn wsL_steps wsX5_steps := goodIn_ca (goodIn_r _ [6, 7, 8, 9, 10, 5, 11, 12, 13, 14, 15, 16, 17, 18, 19, 20, 21, 22, 23, 24, 25, 26, 27, 28, 29, 30, 31, 32, 33, 34, 35, 36, 37, 38, 39, 40, 41, 42, 43, 44, 45, 46, 47, 48, 49, 50, 51, 52, 53, 54, 55, 56, 57, 58, 59, 60, 61, 62, 63, 64, 65, 66, 67, 68, 69, 70, 71, 72, 73, 74, 75, 76, 77, 78, 79, 80, 81, 82, 83, 84, 85, 86, 87, 88, 89, 90, 91, 92, 93, 94, 95, 96, 97, 98, 99, 100, 101, 102, 103, 104, 105, 106, 107, 108, 109, 110, 111, 112, 113, 114, 115, 116, 117, 118, 119, 120, 121, 122, 123, 124, 125, 126, 127, 128, 129, 130, 131, 132, 133, 134, 135, 136, 137, 138, 139, 140, 141, 142, 143, 144, 145, 146, 147, 148, 149, 150, 151, 152, 153, 154, 155, 156, 157, 158, 159, 160, 161, 162, 163, 164, 165, 166, 167, 168, 169, 170, 171, 172, 173, 174, 175, 176, 177, 178, 179, 180, 181, 182, 183, 184, 185, 186, 187, 188, 189, 190, 191, 192, 193, 194, 195] (by decide +kernel) (by decide +kernel)) (goodIn_sub (fun _ h => List.mem_cons_of_mem _ (List.mem_append_right _ h)) (by decide +kernel))
set_option maxRecDepth 20000 in
theorem gL_steps_X5_steps : GoodIn wsL_steps (wsV RL 56 RX5 yX5_steps wsX5_steps) := goodIn_app (goodIn_of _ (by decide +kernel)) ggL_steps_X5_steps
set_option maxRecDepth 20000 in
theorem ggL_look_X5_look : GoodIn wsL_look wsX5_look := goodIn_ca (goodIn_ca (goodIn_r _ [7, 8, 9, 10, 11, 12, 13, 14, 15, 16, 17, 18, 19, 20, 21, 22, 23, 24, 25, 26, 27, 28, 6, 29, 30, 31, 32, 33, 34, 35, 36, 37, 38, 39, 40, 41, 42, 43, 44, 45, 46, 47, 48, 49, 50] (by decide +kernel) (by decide +kernel)) (goodIn_sub (fun _ h => List.mem_cons_of_mem _ (List.mem_append_left _ (List.mem_append_right _ h))) (by decide +kernel))) (goodIn_sub (fun _ h => List.mem_cons_of_mem _ (List.mem_append_right _ h)) (by decide +kernel))
set_option maxRecDepth 20000 in
theorem gL_look_X5_look : GoodIn wsL_look (wsV RL 59 RX5 yX5_look wsX5_look) := goodIn_app (goodIn_of _ (by decide +kernel)) ggL_look_X5_look
