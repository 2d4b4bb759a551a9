theorem dX2_takeText_94 : decode cX2_takeText 94 = .ok (.iastore, 1) := by decide +kernel
theorem dX2_takeText_95 : decode cX2_takeText 95 = .ok (.aload_n 0, 1) := by decide +kernel
theorem dX2_takeText_96 : decode cX2_takeText 96 = .ok (.getfield 20, 3) := by decide +kernel
theorem dX2_takeText_99 : decode cX2_takeText 99 = .ok (.getfield 87, 3) := by decide +kernel
theorem dX2_takeText_102 : decode cX2_takeText 102 = .ok (.iload 4, 2) := by decide +kernel
theorem dX2_takeText_104 : decode cX2_takeText 104 = .ok (.aload_n 1, 1) := by decide +kernel
theorem dX2_takeText_105 : decode cX2_takeText 105 = .ok (.iload 5, 2) := by decide +kernel
theorem dX2_takeText_107 : decode cX2_takeText 107 = .ok (.iconst 2, 1) := by decide +kernel
theorem dX2_takeText_108 : decode cX2_takeText 108 = .ok (.iadd, 1) := by decide +kernel
theorem dX2_takeText_109 : decode cX2_takeText 109 = .ok (.invokevirtual 118, 3) := by decide +kernel
theorem dX2_takeText_112 : decode cX2_takeText 112 = .ok (.bipush 48, 2) := by decide +kernel
theorem dX2_takeText_114 : decode cX2_takeText 114 = .ok (.isub, 1) := by decide +kernel
theorem dX2_takeText_115 : decode cX2_takeText 115 = .ok (.iastore, 1) := by decide +kernel
theorem dX2_takeText_116 : decode cX2_takeText 116 = .ok (.aload_n 0, 1) := by decide +kernel
theorem dX2_takeText_117 : decode cX2_takeText 117 = .ok (.getfield 20, 3) := by decide +kernel
theorem dX2_takeText_120 : decode cX2_takeText 120 = .ok (.getfield 90, 3) := by decide +kernel
theorem dX2_takeText_123 : decode cX2_takeText 123 = .ok (.iload 4, 2) := by decide +kernel
theorem dX2_takeText_125 : decode cX2_takeText 125 = .ok (.aload_n 1, 1) := by decide +kernel
theorem dX2_takeText_126 : decode cX2_takeText 126 = .ok (.iload 5, 2) := by decide +kernel
theorem dX2_takeText_128 : decode cX2_takeText 128 = .ok (.iconst 3, 1) := by decide +kernel
theorem dX2_takeText_129 : decode cX2_takeText 129 = .ok (.iadd, 1) := by decide +kernel
theorem dX2_takeText_130 : decode cX2_takeText 130 = .ok (.invokevirtual 118, 3) := by decide +kernel
theorem dX2_takeText_133 : decode cX2_takeText 133 = .ok (.bipush 48, 2) := by decide +kernel
theorem dX2_takeText_135 : decode cX2_takeText 135 = .ok (.isub, 1) := by decide +kernel
theorem dX2_takeText_136 : decode cX2_takeText 136 = .ok (.iastore, 1) := by decide +kernel
theorem dX2_takeText_137 : decode cX2_takeText 137 = .ok (.iinc 4 1, 3) := by decide +kernel
theorem dX2_takeText_140 : decode cX2_takeText 140 = .ok (.goto (-107), 3) := by decide +kernel
theorem dX2_takeText_143 : decode cX2_takeText 143 = .ok (.return_, 1) := by decide +kernel
theorem dX2_hasFront_0 : decode cX2_hasFront 0 = .ok (.aload_n 0, 1) := by decide +kernel
theorem dX2_hasFront_1 : decode cX2_hasFront 1 = .ok (.getfield 20, 3) := by decide +kernel
theorem dX2_hasFront_4 : decode cX2_hasFront 4 = .ok (.getfield 75, 3) := by decide +kernel
theorem dX2_hasFront_7 : decode cX2_hasFront 7 = .ok (.ifCond .le 7, 3) := by decide +kernel
theorem dX2_hasFront_10 : decode cX2_hasFront 10 = .ok (.iconst 1, 1) := by decide +kernel
theorem dX2_hasFront_11 : decode cX2_hasFront 11 = .ok (.goto 4, 3) := by decide +kernel
theorem dX2_hasFront_14 : decode cX2_hasFront 14 = .ok (.iconst 0, 1) := by decide +kernel
theorem dX2_hasFront_15 : decode cX2_hasFront 15 = .ok (.ireturn, 1) := by decide +kernel
theorem dX2_isStripe_0 : decode cX2_isStripe 0 = .ok (.iload_n 0, 1) := by decide +kernel
theorem dX2_isStripe_1 : decode cX2_isStripe 1 = .ok (.ifCond .lt 12, 3) := by decide +kernel
theorem dX2_isStripe_4 : decode cX2_isStripe 4 = .ok (.iload_n 0, 1) := by decide +kernel
theorem dX2_isStripe_5 : decode cX2_isStripe 5 = .ok (.iconst 4, 1) := by decide +kernel
theorem dX2_isStripe_6 : decode cX2_isStripe 6 = .ok (.if_icmp .ge 7, 3) := by decide +kernel
theorem dX2_isStripe_9 : decode cX2_isStripe 9 = .ok (.iconst 1, 1) := by decide +kernel
theorem dX2_isStripe_10 : decode cX2_isStripe 10 = .ok (.goto 4, 3) := by decide +kernel
theorem dX2_isStripe_13 : decode cX2_isStripe 13 = .ok (.iconst 0, 1) := by decide +kernel
theorem dX2_isStripe_14 : decode cX2_isStripe 14 = .ok (.ireturn, 1) := by decide +kernel
theorem dX2_isWay_0 : decode cX2_isWay 0 = .ok (.iload_n 0, 1) := by decide +kernel
theorem dX2_isWay_1 : decode cX2_isWay 1 = .ok (.ifCond .lt 12, 3) := by decide +kernel
theorem dX2_isWay_4 : decode cX2_isWay 4 = .ok (.iload_n 0, 1) := by decide +kernel
theorem dX2_isWay_5 : decode cX2_isWay 5 = .ok (.iconst 3, 1) := by decide +kernel
theorem dX2_isWay_6 : decode cX2_isWay 6 = .ok (.if_icmp .gt 7, 3) := by decide +kernel
theorem dX2_isWay_9 : decode cX2_isWay 9 = .ok (.iconst 1, 1) := by decide +kernel
theorem dX2_isWay_10 : decode cX2_isWay 10 = .ok (.goto 4, 3) := by decide +kernel
theorem dX2_isWay_13 : decode cX2_isWay 13 = .ok (.iconst 0, 1) := by decide +kernel
theorem dX2_isWay_14 : decode cX2_isWay 14 = .ok (.ireturn, 1) := by decide +kernel
set_option maxRecDepth 20000 in
theorem ggX2_turn_X0_has : GoodIn wsX2_turn wsX0_has := goodIn_r _ [7, 8, 33, 34, 35, 36, 37, 38] (by decide +kernel) (by decide +kernel)
set_option maxRecDepth 20000 in
theorem gX2_turn_X0_has : GoodIn wsX2_turn (wsV RX2 78 RX0 yX0_has wsX0_has) := goodIn_app (goodIn_of _ (by decide +kernel)) ggX2_turn_X0_has
set_option maxRecDepth 20000 in
theorem ggX2_turn_X2_isWay : GoodIn wsX2_turn wsX2_isWay := goodIn_r _ [12] (by decide +kernel) (by decide +kernel)
set_option maxRecDepth 20000 in
theorem gX2_turn_X2_isWay : GoodIn wsX2_turn (va_wsS RX2 127 yX2_isWay wsX2_isWay) := goodIn_app (goodIn_of _ (by decide +kernel)) ggX2_turn_X2_isWay
set_option maxRecDepth 20000 in
theorem ggX2_turn_X0_turned : GoodIn wsX2_turn wsX0_turned := goodIn_r _ [16, 17, 18, 4, 5, 6, 7, 8, 19, 20, 21, 22, 23, 33, 34, 35, 36, 37, 38] (by decide +kernel) (by decide +kernel)
set_option maxRecDepth 20000 in
theorem gX2_turn_X0_turned : GoodIn wsX2_turn (wsV RX2 139 RX0 yX0_turned wsX0_turned) := goodIn_app (goodIn_of _ (by decide +kernel)) ggX2_turn_X0_turned
theorem dX2_turn_0 : decode cX2_turn 0 = .ok (.aload_n 0, 1) := by decide +kernel
theorem dX2_turn_1 : decode cX2_turn 1 = .ok (.getfield 20, 3) := by decide +kernel
theorem dX2_turn_4 : decode cX2_turn 4 = .ok (.iload_n 1, 1) := by decide +kernel
theorem dX2_turn_5 : decode cX2_turn 5 = .ok (.invokevirtual 78, 3) := by decide +kernel
theorem dX2_turn_8 : decode cX2_turn 8 = .ok (.ifCond .ne 5, 3) := by decide +kernel
theorem dX2_turn_11 : decode cX2_turn 11 = .ok (.iconst (-1), 1) := by decide +kernel
theorem dX2_turn_12 : decode cX2_turn 12 = .ok (.ireturn, 1) := by decide +kernel
theorem dX2_turn_13 : decode cX2_turn 13 = .ok (.iload_n 2, 1) := by decide +kernel
theorem dX2_turn_14 : decode cX2_turn 14 = .ok (.invokestatic 127, 3) := by decide +kernel
theorem dX2_turn_17 : decode cX2_turn 17 = .ok (.ifCond .ne 6, 3) := by decide +kernel
theorem dX2_turn_20 : decode cX2_turn 20 = .ok (.bipush (-2), 2) := by decide +kernel
theorem dX2_turn_22 : decode cX2_turn 22 = .ok (.ireturn, 1) := by decide +kernel
theorem dX2_turn_23 : decode cX2_turn 23 = .ok (.aload_n 0, 1) := by decide +kernel
theorem dX2_turn_24 : decode cX2_turn 24 = .ok (.getfield 20, 3) := by decide +kernel
theorem dX2_turn_27 : decode cX2_turn 27 = .ok (.getfield 90, 3) := by decide +kernel
theorem dX2_turn_30 : decode cX2_turn 30 = .ok (.iload_n 1, 1) := by decide +kernel
theorem dX2_turn_31 : decode cX2_turn 31 = .ok (.iaload, 1) := by decide +kernel
theorem dX2_turn_32 : decode cX2_turn 32 = .ok (.istore_n 3, 1) := by decide +kernel
theorem dX2_turn_33 : decode cX2_turn 33 = .ok (.aload_n 0, 1) := by decide +kernel
theorem dX2_turn_34 : decode cX2_turn 34 = .ok (.getfield 20, 3) := by decide +kernel
theorem dX2_turn_37 : decode cX2_turn 37 = .ok (.iload_n 1, 1) := by decide +kernel
theorem dX2_turn_38 : decode cX2_turn 38 = .ok (.iload_n 2, 1) := by decide +kernel
theorem dX2_turn_39 : decode cX2_turn 39 = .ok (.invokevirtual 139, 3) := by decide +kernel
theorem dX2_turn_42 : decode cX2_turn 42 = .ok (.ifCond .eq 7, 3) := by decide +kernel
theorem dX2_turn_45 : decode cX2_turn 45 = .ok (.iload_n 3, 1) := by decide +kernel
theorem dX2_turn_46 : decode cX2_turn 46 = .ok (.goto 5, 3) := by decide +kernel
theorem dX2_turn_49 : decode cX2_turn 49 = .ok (.bipush (-3), 2) := by decide +kernel
theorem dX2_turn_51 : decode cX2_turn 51 = .ok (.ireturn, 1) := by decide +kernel
set_option maxRecDepth 20000 in
theorem ggX2_gust_X2_hasFront : GoodIn wsX2_gust wsX2_hasFront := goodIn_r _ [6, 1, 7, 24, 25, 26, 27, 28, 29, 30, 31, 32, 33, 34, 35, 36, 37, 38] (by decide +kernel) (by decide +kernel)
set_option maxRecDepth 20000 in
theorem gX2_gust_X2_hasFront : GoodIn wsX2_gust (wsV RX2 105 RX2 yX2_hasFront wsX2_hasFront) := goodIn_app (goodIn_of _ (by decide +kernel)) ggX2_gust_X2_hasFront
set_option maxRecDepth 20000 in
theorem ggX2_gust_X2_isWay : GoodIn wsX2_gust wsX2_isWay := goodIn_r _ [10] (by decide +kernel) (by decide +kernel)
set_option maxRecDepth 20000 in
theorem gX2_gust_X2_isWay : GoodIn wsX2_gust (va_wsS RX2 127 yX2_isWay wsX2_isWay) := goodIn_app (goodIn_of _ (by decide +kernel)) ggX2_gust_X2_isWay
set_option maxRecDepth 20000 in
theorem ggX2_gust_X0_blown : GoodIn wsX2_gust wsX0_blown := goodIn_r _ [15, 16, 17, 18, 19, 20, 21, 14, 22, 23, 33, 34, 35, 36, 37, 38] (by decide +kernel) (by decide +kernel)
set_option maxRecDepth 20000 in
theorem gX2_gust_X0_blown : GoodIn wsX2_gust (wsV RX2 142 RX0 yX0_blown wsX0_blown) := goodIn_app (goodIn_of _ (by decide +kernel)) ggX2_gust_X0_blown
theorem dX2_gust_0 : decode cX2_gust 0 = .ok (.aload_n 0, 1) := by decide +kernel
theorem dX2_gust_1 : decode cX2_gust 1 = .ok (.invokevirtual 105, 3) := by decide +kernel
theorem dX2_gust_4 : decode cX2_gust 4 = .ok (.ifCond .ne 6, 3) := by decide +kernel
theorem dX2_gust_7 : decode cX2_gust 7 = .ok (.bipush (-3), 2) := by decide +kernel
theorem dX2_gust_9 : decode cX2_gust 9 = .ok (.ireturn, 1) := by decide +kernel
theorem dX2_gust_10 : decode cX2_gust 10 = .ok (.iload_n 1, 1) := by decide +kernel
theorem dX2_gust_11 : decode cX2_gust 11 = .ok (.invokestatic 127, 3) := by decide +kernel
theorem dX2_gust_14 : decode cX2_gust 14 = .ok (.ifCond .eq 13, 3) := by decide +kernel
theorem dX2_gust_17 : decode cX2_gust 17 = .ok (.iload_n 2, 1) := by decide +kernel
theorem dX2_gust_18 : decode cX2_gust 18 = .ok (.ifCond .lt 9, 3) := by decide +kernel
theorem dX2_gust_21 : decode cX2_gust 21 = .ok (.iload_n 2, 1) := by decide +kernel
theorem dX2_gust_22 : decode cX2_gust 22 = .ok (.bipush 10, 2) := by decide +kernel
theorem dX2_gust_24 : decode cX2_gust 24 = .ok (.if_icmp .le 6, 3) := by decide +kernel
theorem dX2_gust_27 : decode cX2_gust 27 = .ok (.bipush (-2), 2) := by decide +kernel
theorem dX2_gust_29 : decode cX2_gust 29 = .ok (.ireturn, 1) := by decide +kernel
theorem dX2_gust_30 : decode cX2_gust 30 = .ok (.aload_n 0, 1) := by decide +kernel
theorem dX2_gust_31 : decode cX2_gust 31 = .ok (.getfield 20, 3) := by decide +kernel
theorem dX2_gust_34 : decode cX2_gust 34 = .ok (.iload_n 1, 1) := by decide +kernel
theorem dX2_gust_35 : decode cX2_gust 35 = .ok (.iload_n 2, 1) := by decide +kernel
theorem dX2_gust_36 : decode cX2_gust 36 = .ok (.invokevirtual 142, 3) := by decide +kernel
theorem dX2_gust_39 : decode cX2_gust 39 = .ok (.ireturn, 1) := by decide +kernel
set_option maxRecDepth 20000 in
theorem ggX2_rain_X2_hasFront : GoodIn wsX2_rain wsX2_hasFront := goodIn_r _ [6, 1, 7, 22, 23, 24, 25, 26, 27, 28, 29, 30, 31, 32, 33, 34, 35, 36] (by decide +kernel) (by decide +kernel)
set_option maxRecDepth 20000 in
theorem gX2_rain_X2_hasFront : GoodIn wsX2_rain (wsV RX2 105 RX2 yX2_hasFront wsX2_hasFront) := goodIn_app (goodIn_of _ (by decide +kernel)) ggX2_rain_X2_hasFront
set_option maxRecDepth 20000 in
theorem ggX2_rain_X0_foldedByRain : GoodIn wsX2_rain wsX0_foldedByRain := goodIn_r _ [12, 13, 14, 15, 16, 17, 18, 19, 20, 21, 31, 32, 33, 34, 35, 36] (by decide +kernel) (by decide +kernel)
set_option maxRecDepth 20000 in
theorem gX2_rain_X0_foldedByRain : GoodIn wsX2_rain (wsV RX2 145 RX0 yX0_foldedByRain wsX0_foldedByRain) := goodIn_app (goodIn_of _ (by decide +kernel)) ggX2_rain_X0_foldedByRain
theorem dX2_rain_0 : decode cX2_rain 0 = .ok (.aload_n 0, 1) := by decide +kernel
theorem dX2_rain_1 : decode cX2_rain 1 = .ok (.invokevirtual 105, 3) := by decide +kernel
theorem dX2_rain_4 : decode cX2_rain 4 = .ok (.ifCond .ne 6, 3) := by decide +kernel
theorem dX2_rain_7 : decode cX2_rain 7 = .ok (.bipush (-3), 2) := by decide +kernel
theorem dX2_rain_9 : decode cX2_rain 9 = .ok (.ireturn, 1) := by decide +kernel
theorem dX2_rain_10 : decode cX2_rain 10 = .ok (.aload_n 0, 1) := by decide +kernel
theorem dX2_rain_11 : decode cX2_rain 11 = .ok (.getfield 20, 3) := by decide +kernel
theorem dX2_rain_14 : decode cX2_rain 14 = .ok (.invokevirtual 145, 3) := by decide +kernel
theorem dX2_rain_17 : decode cX2_rain 17 = .ok (.ireturn, 1) := by decide +kernel
set_option maxRecDepth 20000 in
theorem ggX2_open_X0_has : GoodIn wsX2_open wsX0_has := goodIn_r _ [7, 8, 35, 36, 37, 38, 39, 40] (by decide +kernel) (by decide +kernel)
set_option maxRecDepth 20000 in
theorem gX2_open_X0_has : GoodIn wsX2_open (wsV RX2 78 RX0 yX0_has wsX0_has) := goodIn_app (goodIn_of _ (by decide +kernel)) ggX2_open_X0_has
set_option maxRecDepth 20000 in
theorem ggX2_open_X0_opened : GoodIn wsX2_open wsX0_opened := goodIn_r _ [12, 13, 14, 4, 5, 6, 7, 8, 15, 16, 17, 18, 35, 36, 37, 38, 39, 40] (by decide +kernel) (by decide +kernel)
set_option maxRecDepth 20000 in
theorem gX2_open_X0_opened : GoodIn wsX2_open (wsV RX2 149 RX0 yX0_opened wsX0_opened) := goodIn_app (goodIn_of _ (by decide +kernel)) ggX2_open_X0_opened
set_option maxRecDepth 20000 in
theorem ggX2_open_J6_bitCount_0f7a4 : GoodIn wsX2_open wsJ6_bitCount_0f7a4 := goodIn_r _ [22, 23, 24, 25] (by decide +kernel) (by decide +kernel)
set_option maxRecDepth 20000 in
theorem gX2_open_J6_bitCount_0f7a4 : GoodIn wsX2_open (va_wsS RX2 152 yJ6_bitCount_0f7a4 wsJ6_bitCount_0f7a4) := goodIn_app (goodIn_of _ (by decide +kernel)) ggX2_open_J6_bitCount_0f7a4
theorem dX2_open_0 : decode cX2_open 0 = .ok (.aload_n 0, 1) := by decide +kernel
theorem dX2_open_1 : decode cX2_open 1 = .ok (.getfield 20, 3) := by decide +kernel
theorem dX2_open_4 : decode cX2_open 4 = .ok (.iload_n 1, 1) := by decide +kernel
theorem dX2_open_5 : decode cX2_open 5 = .ok (.invokevirtual 78, 3) := by decide +kernel
theorem dX2_open_8 : decode cX2_open 8 = .ok (.ifCond .ne 5, 3) := by decide +kernel
theorem dX2_open_11 : decode cX2_open 11 = .ok (.iconst (-1), 1) := by decide +kernel
theorem dX2_open_12 : decode cX2_open 12 = .ok (.ireturn, 1) := by decide +kernel
theorem dX2_open_13 : decode cX2_open 13 = .ok (.aload_n 0, 1) := by decide +kernel
theorem dX2_open_14 : decode cX2_open 14 = .ok (.getfield 20, 3) := by decide +kernel
theorem dX2_open_17 : decode cX2_open 17 = .ok (.iload_n 1, 1) := by decide +kernel
theorem dX2_open_18 : decode cX2_open 18 = .ok (.invokevirtual 149, 3) := by decide +kernel
theorem dX2_open_21 : decode cX2_open 21 = .ok (.ifCond .ne 6, 3) := by decide +kernel
theorem dX2_open_24 : decode cX2_open 24 = .ok (.bipush (-3), 2) := by decide +kernel
theorem dX2_open_26 : decode cX2_open 26 = .ok (.ireturn, 1) := by decide +kernel
theorem dX2_open_27 : decode cX2_open 27 = .ok (.aload_n 0, 1) := by decide +kernel
theorem dX2_open_28 : decode cX2_open 28 = .ok (.getfield 20, 3) := by decide +kernel
theorem dX2_open_31 : decode cX2_open 31 = .ok (.getfield 136, 3) := by decide +kernel
theorem dX2_open_34 : decode cX2_open 34 = .ok (.invokestatic 152, 3) := by decide +kernel
theorem dX2_open_37 : decode cX2_open 37 = .ok (.ireturn, 1) := by decide +kernel
set_option maxRecDepth 20000 in
theorem ggX2_day_X2_sheetAt : GoodIn wsX2_day wsX2_sheetAt := goodIn_r _ [6, 7, 148, 149, 150, 151, 152, 153, 154, 155, 156] (by decide +kernel) (by decide +kernel)
set_option maxRecDepth 20000 in
theorem gX2_day_X2_sheetAt : GoodIn wsX2_day (wsV RX2 48 RX2 yX2_sheetAt wsX2_sheetAt) := goodIn_app (goodIn_of _ (by decide +kernel)) ggX2_day_X2_sheetAt
set_option maxRecDepth 20000 in
theorem ggX2_day_X2_isLane : GoodIn wsX2_day wsX2_isLane := goodIn_r _ [10] (by decide +kernel) (by decide +kernel)
set_option maxRecDepth 20000 in
theorem gX2_day_X2_isLane : GoodIn wsX2_day (va_wsS RX2 52 yX2_isLane wsX2_isLane) := goodIn_app (goodIn_of _ (by decide +kernel)) ggX2_day_X2_isLane
set_option maxRecDepth 20000 in
theorem ggX2_day_X2_isAskedOfDay : GoodIn wsX2_day wsX2_isAskedOfDay := goodIn_r _ [13] (by decide +kernel) (by decide +kernel)
set_option maxRecDepth 20000 in
theorem gX2_day_X2_isAskedOfDay : GoodIn wsX2_day (va_wsS RX2 157 yX2_isAskedOfDay wsX2_isAskedOfDay) := goodIn_app (goodIn_of _ (by decide +kernel)) ggX2_day_X2_isAskedOfDay
set_option maxRecDepth 20000 in
theorem ggX2_day_X2_hasFront : GoodIn wsX2_day wsX2_hasFront := goodIn_r _ [17, 18, 19, 148, 149, 150, 151, 152, 153, 154, 155, 156, 157, 158, 159, 160, 161, 162] (by decide +kernel) (by decide +kernel)
set_option maxRecDepth 20000 in
theorem gX2_day_X2_hasFront : GoodIn wsX2_day (wsV RX2 105 RX2 yX2_hasFront wsX2_hasFront) := goodIn_app (goodIn_of _ (by decide +kernel)) ggX2_day_X2_hasFront
set_option maxRecDepth 20000 in
theorem ggX2_day_X1_faultAs : GoodIn wsX2_day wsX1_faultAs := goodIn_r _ [24, 25, 26, 163, 164, 165, 166] (by decide +kernel) (by decide +kernel)
set_option maxRecDepth 20000 in
theorem gX2_day_X1_faultAs : GoodIn wsX2_day (wsV RX2 56 RX1 yX1_faultAs wsX1_faultAs) := goodIn_app (goodIn_of _ (by decide +kernel)) ggX2_day_X1_faultAs
set_option maxRecDepth 20000 in
theorem ggX2_day_X2_faulted : GoodIn wsX2_day wsX2_faulted := goodIn_r _ [30, 1, 148, 149, 150, 151, 152, 153, 154, 155, 156] (by decide +kernel) (by decide +kernel)
set_option maxRecDepth 20000 in
theorem gX2_day_X2_faulted : GoodIn wsX2_day (wsV RX2 60 RX2 yX2_faulted wsX2_faulted) := goodIn_app (goodIn_of _ (by decide +kernel)) ggX2_day_X2_faulted
set_option maxRecDepth 20000 in
theorem ggX2_day_X1_holds : GoodIn wsX2_day wsX1_holds := goodIn_r _ [34, 35, 163, 164, 165, 166] (by decide +kernel) (by decide +kernel)
set_option maxRecDepth 20000 in
theorem gX2_day_X1_holds : GoodIn wsX2_day (wsV RX2 63 RX1 yX1_holds wsX1_holds) := goodIn_app (goodIn_of _ (by decide +kernel)) ggX2_day_X1_holds
set_option maxRecDepth 20000 in
theorem ggX2_day_X2_refusalOfPairs : GoodIn wsX2_day wsX2_refusalOfPairs := goodIn_r _ [39, 40, 41, 42, 23, 43, 44, 45, 32, 33, 34, 35, 46, 47, 48, 5, 49, 18, 50, 51, 52, 53, 54, 55, 163, 164, 165, 166, 148, 149, 150, 151, 152, 153, 154, 155, 156, 157, 158, 159, 160, 161, 162] (by decide +kernel) (by decide +kernel)
set_option maxRecDepth 20000 in
theorem gX2_day_X2_refusalOfPairs : GoodIn wsX2_day (wsV RX2 160 RX2 yX2_refusalOfPairs wsX2_refusalOfPairs) := goodIn_app (goodIn_of _ (by decide +kernel)) ggX2_day_X2_refusalOfPairs
set_option maxRecDepth 20000 in
theorem ggX2_day_X2_answerOfDay : GoodIn wsX2_day wsX2_answerOfDay := goodIn_r _ [59, 60, 18, 61, 62, 63, 64, 65, 53, 66, 67, 68, 69, 70, 71, 72, 73, 74, 55, 75, 40, 41, 42, 23, 43, 44, 45, 32, 33, 34, 35, 76, 77, 78, 79, 80, 81, 82, 83, 84, 51, 52, 54, 85, 86, 87, 88, 89, 90, 91, 92, 93, 94, 95, 96, 97, 98, 99, 100, 101, 102, 103, 104, 105, 106, 107, 108, 109, 110, 111, 112, 113, 114, 115, 116, 117, 118, 119, 120, 121, 122, 123, 124, 125, 126, 127, 128, 129, 130, 131, 132, 5, 133, 134, 135, 136, 137, 138, 139, 140, 141, 142, 143, 144, 145, 146, 147, 50, 148, 149, 150, 151, 152, 153, 154, 155, 156, 157, 158, 159, 160, 161, 162, 163, 164, 165, 166] (by decide +kernel) (by decide +kernel)
set_option maxRecDepth 20000 in
theorem gX2_day_X2_answerOfDay : GoodIn wsX2_day (wsV RX2 163 RX2 yX2_answerOfDay wsX2_answerOfDay) := goodIn_app (goodIn_of _ (by decide +kernel)) ggX2_day_X2_answerOfDay
theorem dX2_day_0 : decode cX2_day 0 = .ok (.aload_n 0, 1) := by decide +kernel
theorem dX2_day_1 : decode cX2_day 1 = .ok (.iconst 0, 1) := by decide +kernel
theorem dX2_day_2 : decode cX2_day 2 = .ok (.putfield 44, 3) := by decide +kernel
theorem dX2_day_5 : decode cX2_day 5 = .ok (.aload_n 0, 1) := by decide +kernel
theorem dX2_day_6 : decode cX2_day 6 = .ok (.iload_n 1, 1) := by decide +kernel
theorem dX2_day_7 : decode cX2_day 7 = .ok (.invokevirtual 48, 3) := by decide +kernel
theorem dX2_day_10 : decode cX2_day 10 = .ok (.astore 6, 2) := by decide +kernel
theorem dX2_day_12 : decode cX2_day 12 = .ok (.aload 6, 2) := by decide +kernel
theorem dX2_day_14 : decode cX2_day 14 = .ok (.ifnonnull 5, 3) := by decide +kernel
theorem dX2_day_17 : decode cX2_day 17 = .ok (.iconst (-1), 1) := by decide +kernel
theorem dX2_day_18 : decode cX2_day 18 = .ok (.ireturn, 1) := by decide +kernel
theorem dX2_day_19 : decode cX2_day 19 = .ok (.iload_n 2, 1) := by decide +kernel
theorem dX2_day_20 : decode cX2_day 20 = .ok (.invokestatic 52, 3) := by decide +kernel
theorem dX2_day_23 : decode cX2_day 23 = .ok (.ifCond .eq 23, 3) := by decide +kernel
theorem dX2_day_26 : decode cX2_day 26 = .ok (.iload 4, 2) := by decide +kernel
theorem dX2_day_28 : decode cX2_day 28 = .ok (.ifCond .lt 18, 3) := by decide +kernel
theorem dX2_day_31 : decode cX2_day 31 = .ok (.iload 4, 2) := by decide +kernel
theorem dX2_day_33 : decode cX2_day 33 = .ok (.bipush 20, 2) := by decide +kernel
theorem dX2_day_35 : decode cX2_day 35 = .ok (.if_icmp .gt 11, 3) := by decide +kernel
theorem dX2_day_38 : decode cX2_day 38 = .ok (.iload 5, 2) := by decide +kernel
theorem dX2_day_40 : decode cX2_day 40 = .ok (.invokestatic 157, 3) := by decide +kernel
theorem dX2_day_43 : decode cX2_day 43 = .ok (.ifCond .ne 6, 3) := by decide +kernel
theorem dX2_day_46 : decode cX2_day 46 = .ok (.bipush (-2), 2) := by decide +kernel
theorem dX2_day_48 : decode cX2_day 48 = .ok (.ireturn, 1) := by decide +kernel
theorem dX2_day_49 : decode cX2_day 49 = .ok (.aload_n 0, 1) := by decide +kernel
theorem dX2_day_50 : decode cX2_day 50 = .ok (.invokevirtual 105, 3) := by decide +kernel
theorem dX2_day_53 : decode cX2_day 53 = .ok (.ifCond .ne 6, 3) := by decide +kernel
theorem dX2_day_56 : decode cX2_day 56 = .ok (.bipush (-3), 2) := by decide +kernel
theorem dX2_day_58 : decode cX2_day 58 = .ok (.ireturn, 1) := by decide +kernel
theorem dX2_day_59 : decode cX2_day 59 = .ok (.aload 6, 2) := by decide +kernel
theorem dX2_day_61 : decode cX2_day 61 = .ok (.iload_n 2, 1) := by decide +kernel
theorem dX2_day_62 : decode cX2_day 62 = .ok (.invokevirtual 56, 3) := by decide +kernel
theorem dX2_day_65 : decode cX2_day 65 = .ok (.istore 7, 2) := by decide +kernel
theorem dX2_day_67 : decode cX2_day 67 = .ok (.iload 7, 2) := by decide +kernel
theorem dX2_day_69 : decode cX2_day 69 = .ok (.ifCond .eq 10, 3) := by decide +kernel
theorem dX2_day_72 : decode cX2_day 72 = .ok (.aload_n 0, 1) := by decide +kernel
theorem dX2_day_73 : decode cX2_day 73 = .ok (.iload 7, 2) := by decide +kernel
theorem dX2_day_75 : decode cX2_day 75 = .ok (.invokevirtual 60, 3) := by decide +kernel
theorem dX2_day_78 : decode cX2_day 78 = .ok (.ireturn, 1) := by decide +kernel
theorem dX2_day_79 : decode cX2_day 79 = .ok (.aload 6, 2) := by decide +kernel
theorem dX2_day_81 : decode cX2_day 81 = .ok (.iload_n 3, 1) := by decide +kernel
theorem dX2_day_82 : decode cX2_day 82 = .ok (.iconst 2, 1) := by decide +kernel
theorem dX2_day_83 : decode cX2_day 83 = .ok (.iload 4, 2) := by decide +kernel
theorem dX2_day_85 : decode cX2_day 85 = .ok (.imul, 1) := by decide +kernel
theorem dX2_day_86 : decode cX2_day 86 = .ok (.invokevirtual 63, 3) := by decide +kernel
theorem dX2_day_89 : decode cX2_day 89 = .ok (.ifCond .ne 9, 3) := by decide +kernel
theorem dX2_day_92 : decode cX2_day 92 = .ok (.aload_n 0, 1) := by decide +kernel
theorem dX2_day_93 : decode cX2_day 93 = .ok (.iconst 3, 1) := by decide +kernel
theorem dX2_day_94 : decode cX2_day 94 = .ok (.invokevirtual 60, 3) := by decide +kernel
theorem dX2_day_97 : decode cX2_day 97 = .ok (.ireturn, 1) := by decide +kernel
theorem dX2_day_98 : decode cX2_day 98 = .ok (.aload_n 0, 1) := by decide +kernel
theorem dX2_day_99 : decode cX2_day 99 = .ok (.aload 6, 2) := by decide +kernel
theorem dX2_day_101 : decode cX2_day 101 = .ok (.iload_n 3, 1) := by decide +kernel
theorem dX2_day_102 : decode cX2_day 102 = .ok (.iload 4, 2) := by decide +kernel
theorem dX2_day_104 : decode cX2_day 104 = .ok (.invokevirtual 160, 3) := by decide +kernel
theorem dX2_day_107 : decode cX2_day 107 = .ok (.istore 8, 2) := by decide +kernel
theorem dX2_day_109 : decode cX2_day 109 = .ok (.iload 8, 2) := by decide +kernel
theorem dX2_day_111 : decode cX2_day 111 = .ok (.ifCond .eq 6, 3) := by decide +kernel
theorem dX2_day_114 : decode cX2_day 114 = .ok (.iload 8, 2) := by decide +kernel
theorem dX2_day_116 : decode cX2_day 116 = .ok (.ireturn, 1) := by decide +kernel
theorem dX2_day_117 : decode cX2_day 117 = .ok (.aload_n 0, 1) := by decide +kernel
theorem dX2_day_118 : decode cX2_day 118 = .ok (.aload 6, 2) := by decide +kernel
theorem dX2_day_120 : decode cX2_day 120 = .ok (.iload_n 3, 1) := by decide +kernel
theorem dX2_day_121 : decode cX2_day 121 = .ok (.iload 4, 2) := by decide +kernel
theorem dX2_day_123 : decode cX2_day 123 = .ok (.iload 5, 2) := by decide +kernel
theorem dX2_day_125 : decode cX2_day 125 = .ok (.invokevirtual 163, 3) := by decide +kernel
theorem dX2_day_128 : decode cX2_day 128 = .ok (.ireturn, 1) := by decide +kernel
theorem dX2_isAskedOfDay_0 : decode cX2_isAskedOfDay 0 = .ok (.iload_n 0, 1) := by decide +kernel
theorem dX2_isAskedOfDay_1 : decode cX2_isAskedOfDay 1 = .ok (.ifCond .lt 8, 3) := by decide +kernel
theorem dX2_isAskedOfDay_4 : decode cX2_isAskedOfDay 4 = .ok (.iload_n 0, 1) := by decide +kernel
theorem dX2_isAskedOfDay_5 : decode cX2_isAskedOfDay 5 = .ok (.iconst 4, 1) := by decide +kernel
theorem dX2_isAskedOfDay_6 : decode cX2_isAskedOfDay 6 = .ok (.if_icmp .le 15, 3) := by decide +kernel
theorem dX2_isAskedOfDay_9 : decode cX2_isAskedOfDay 9 = .ok (.iload_n 0, 1) := by decide +kernel
theorem dX2_isAskedOfDay_10 : decode cX2_isAskedOfDay 10 = .ok (.bipush 10, 2) := by decide +kernel
theorem dX2_isAskedOfDay_12 : decode cX2_isAskedOfDay 12 = .ok (.if_icmp .lt 13, 3) := by decide +kernel
theorem dX2_isAskedOfDay_15 : decode cX2_isAskedOfDay 15 = .ok (.iload_n 0, 1) := by decide +kernel
theorem dX2_isAskedOfDay_16 : decode cX2_isAskedOfDay 16 = .ok (.bipush 18, 2) := by decide +kernel
theorem dX2_isAskedOfDay_18 : decode cX2_isAskedOfDay 18 = .ok (.if_icmp .ge 7, 3) := by decide +kernel
theorem dX2_isAskedOfDay_21 : decode cX2_isAskedOfDay 21 = .ok (.iconst 1, 1) := by decide +kernel
theorem dX2_isAskedOfDay_22 : decode cX2_isAskedOfDay 22 = .ok (.goto 4, 3) := by decide +kernel
theorem dX2_isAskedOfDay_25 : decode cX2_isAskedOfDay 25 = .ok (.iconst 0, 1) := by decide +kernel
theorem dX2_isAskedOfDay_26 : decode cX2_isAskedOfDay 26 = .ok (.ireturn, 1) := by decide +kernel
set_option maxRecDepth 20000 in
theorem ggX2_refusalOfPairs_X1_at : GoodIn wsX2_refusalOfPairs wsX1_at := goodIn_r _ [5, 6, 7, 8, 9, 4, 10, 11, 24, 25, 26, 27] (by decide +kernel) (by decide +kernel)
set_option maxRecDepth 20000 in
theorem gX2_refusalOfPairs_X1_at : GoodIn wsX2_refusalOfPairs (wsV RX2 118 RX1 yX1_at wsX1_at) := goodIn_app (goodIn_of _ (by decide +kernel)) ggX2_refusalOfPairs_X1_at
set_option maxRecDepth 20000 in
theorem ggX2_refusalOfPairs_X2_refusalOfPair : GoodIn wsX2_refusalOfPairs wsX2_refusalOfPair := goodIn_r _ [16, 17, 18, 19, 20, 21, 22, 23, 28, 29, 30, 31, 32, 33, 34, 35, 36, 37, 38, 39, 40, 41, 42] (by decide +kernel) (by decide +kernel)
set_option maxRecDepth 20000 in
theorem gX2_refusalOfPairs_X2_refusalOfPair : GoodIn wsX2_refusalOfPairs (wsV RX2 167 RX2 yX2_refusalOfPair wsX2_refusalOfPair) := goodIn_app (goodIn_of _ (by decide +kernel)) ggX2_refusalOfPairs_X2_refusalOfPair
theorem dX2_refusalOfPairs_0 : decode cX2_refusalOfPairs 0 = .ok (.iconst 0, 1) := by decide +kernel
theorem dX2_refusalOfPairs_1 : decode cX2_refusalOfPairs 1 = .ok (.istore 4, 2) := by decide +kernel
theorem dX2_refusalOfPairs_3 : decode cX2_refusalOfPairs 3 = .ok (.iload 4, 2) := by decide +kernel
theorem dX2_refusalOfPairs_5 : decode cX2_refusalOfPairs 5 = .ok (.iload_n 3, 1) := by decide +kernel
theorem dX2_refusalOfPairs_6 : decode cX2_refusalOfPairs 6 = .ok (.if_icmp .ge 45, 3) := by decide +kernel
theorem dX2_refusalOfPairs_9 : decode cX2_refusalOfPairs 9 = .ok (.aload_n 0, 1) := by decide +kernel
theorem dX2_refusalOfPairs_10 : decode cX2_refusalOfPairs 10 = .ok (.aload_n 1, 1) := by decide +kernel
theorem dX2_refusalOfPairs_11 : decode cX2_refusalOfPairs 11 = .ok (.iload_n 2, 1) := by decide +kernel
theorem dX2_refusalOfPairs_12 : decode cX2_refusalOfPairs 12 = .ok (.iconst 2, 1) := by decide +kernel
theorem dX2_refusalOfPairs_13 : decode cX2_refusalOfPairs 13 = .ok (.iload 4, 2) := by decide +kernel
theorem dX2_refusalOfPairs_15 : decode cX2_refusalOfPairs 15 = .ok (.imul, 1) := by decide +kernel
theorem dX2_refusalOfPairs_16 : decode cX2_refusalOfPairs 16 = .ok (.iadd, 1) := by decide +kernel
theorem dX2_refusalOfPairs_17 : decode cX2_refusalOfPairs 17 = .ok (.invokevirtual 118, 3) := by decide +kernel
theorem dX2_refusalOfPairs_20 : decode cX2_refusalOfPairs 20 = .ok (.aload_n 1, 1) := by decide +kernel
theorem dX2_refusalOfPairs_21 : decode cX2_refusalOfPairs 21 = .ok (.iload_n 2, 1) := by decide +kernel
theorem dX2_refusalOfPairs_22 : decode cX2_refusalOfPairs 22 = .ok (.iconst 2, 1) := by decide +kernel
theorem dX2_refusalOfPairs_23 : decode cX2_refusalOfPairs 23 = .ok (.iload 4, 2) := by decide +kernel
theorem dX2_refusalOfPairs_25 : decode cX2_refusalOfPairs 25 = .ok (.imul, 1) := by decide +kernel
theorem dX2_refusalOfPairs_26 : decode cX2_refusalOfPairs 26 = .ok (.iadd, 1) := by decide +kernel
theorem dX2_refusalOfPairs_27 : decode cX2_refusalOfPairs 27 = .ok (.iconst 1, 1) := by decide +kernel
theorem dX2_refusalOfPairs_28 : decode cX2_refusalOfPairs 28 = .ok (.iadd, 1) := by decide +kernel
theorem dX2_refusalOfPairs_29 : decode cX2_refusalOfPairs 29 = .ok (.invokevirtual 118, 3) := by decide +kernel
theorem dX2_refusalOfPairs_32 : decode cX2_refusalOfPairs 32 = .ok (.invokevirtual 167, 3) := by decide +kernel
theorem dX2_refusalOfPairs_35 : decode cX2_refusalOfPairs 35 = .ok (.istore 5, 2) := by decide +kernel
theorem dX2_refusalOfPairs_37 : decode cX2_refusalOfPairs 37 = .ok (.iload 5, 2) := by decide +kernel
theorem dX2_refusalOfPairs_39 : decode cX2_refusalOfPairs 39 = .ok (.ifCond .eq 6, 3) := by decide +kernel
theorem dX2_refusalOfPairs_42 : decode cX2_refusalOfPairs 42 = .ok (.iload 5, 2) := by decide +kernel
theorem dX2_refusalOfPairs_44 : decode cX2_refusalOfPairs 44 = .ok (.ireturn, 1) := by decide +kernel
theorem dX2_refusalOfPairs_45 : decode cX2_refusalOfPairs 45 = .ok (.iinc 4 1, 3) := by decide +kernel
theorem dX2_refusalOfPairs_48 : decode cX2_refusalOfPairs 48 = .ok (.goto (-45), 3) := by decide +kernel
theorem dX2_refusalOfPairs_51 : decode cX2_refusalOfPairs 51 = .ok (.iconst 0, 1) := by decide +kernel
theorem dX2_refusalOfPairs_52 : decode cX2_refusalOfPairs 52 = .ok (.ireturn, 1) := by decide +kernel
set_option maxRecDepth 20000 in
theorem ggX2_refusalOfPair_X0_has : GoodIn wsX2_refusalOfPair wsX0_has := goodIn_r _ [6, 7, 17, 18, 19, 20, 21, 22] (by decide +kernel) (by decide +kernel)
set_option maxRecDepth 20000 in
theorem gX2_refusalOfPair_X0_has : GoodIn wsX2_refusalOfPair (wsV RX2 78 RX0 yX0_has wsX0_has) := goodIn_app (goodIn_of _ (by decide +kernel)) ggX2_refusalOfPair_X0_has
theorem dX2_refusalOfPair_0 : decode cX2_refusalOfPair 0 = .ok (.iload_n 2, 1) := by decide +kernel
theorem dX2_refusalOfPair_1 : decode cX2_refusalOfPair 1 = .ok (.ifCond .lt 9, 3) := by decide +kernel
theorem dX2_refusalOfPair_4 : decode cX2_refusalOfPair 4 = .ok (.iload_n 2, 1) := by decide +kernel
theorem dX2_refusalOfPair_5 : decode cX2_refusalOfPair 5 = .ok (.bipush 9, 2) := by decide +kernel
theorem dX2_refusalOfPair_7 : decode cX2_refusalOfPair 7 = .ok (.if_icmp .le 6, 3) := by decide +kernel
theorem dX2_refusalOfPair_10 : decode cX2_refusalOfPair 10 = .ok (.bipush (-2), 2) := by decide +kernel
theorem dX2_refusalOfPair_12 : decode cX2_refusalOfPair 12 = .ok (.ireturn, 1) := by decide +kernel
theorem dX2_refusalOfPair_13 : decode cX2_refusalOfPair 13 = .ok (.iload_n 2, 1) := by decide +kernel
theorem dX2_refusalOfPair_14 : decode cX2_refusalOfPair 14 = .ok (.bipush 8, 2) := by decide +kernel
theorem dX2_refusalOfPair_16 : decode cX2_refusalOfPair 16 = .ok (.if_icmp .ne 14, 3) := by decide +kernel
theorem dX2_refusalOfPair_19 : decode cX2_refusalOfPair 19 = .ok (.iload_n 1, 1) := by decide +kernel
theorem dX2_refusalOfPair_20 : decode cX2_refusalOfPair 20 = .ok (.ifCond .ne 7, 3) := by decide +kernel
theorem dX2_refusalOfPair_23 : decode cX2_refusalOfPair 23 = .ok (.iconst 0, 1) := by decide +kernel
theorem dX2_refusalOfPair_24 : decode cX2_refusalOfPair 24 = .ok (.goto 5, 3) := by decide +kernel
theorem dX2_refusalOfPair_27 : decode cX2_refusalOfPair 27 = .ok (.bipush (-2), 2) := by decide +kernel
theorem dX2_refusalOfPair_29 : decode cX2_refusalOfPair 29 = .ok (.ireturn, 1) := by decide +kernel
theorem dX2_refusalOfPair_30 : decode cX2_refusalOfPair 30 = .ok (.iload_n 2, 1) := by decide +kernel
theorem dX2_refusalOfPair_31 : decode cX2_refusalOfPair 31 = .ok (.iconst 4, 1) := by decide +kernel
theorem dX2_refusalOfPair_32 : decode cX2_refusalOfPair 32 = .ok (.if_icmp .lt 26, 3) := by decide +kernel
theorem dX2_refusalOfPair_35 : decode cX2_refusalOfPair 35 = .ok (.iload_n 2, 1) := by decide +kernel
theorem dX2_refusalOfPair_36 : decode cX2_refusalOfPair 36 = .ok (.bipush 8, 2) := by decide +kernel
theorem dX2_refusalOfPair_38 : decode cX2_refusalOfPair 38 = .ok (.if_icmp .ge 20, 3) := by decide +kernel
theorem dX2_refusalOfPair_41 : decode cX2_refusalOfPair 41 = .ok (.iload_n 1, 1) := by decide +kernel
theorem dX2_refusalOfPair_42 : decode cX2_refusalOfPair 42 = .ok (.ifCond .lt 13, 3) := by decide +kernel
theorem dX2_refusalOfPair_45 : decode cX2_refusalOfPair 45 = .ok (.iload_n 1, 1) := by decide +kernel
theorem dX2_refusalOfPair_46 : decode cX2_refusalOfPair 46 = .ok (.bipush 10, 2) := by decide +kernel
theorem dX2_refusalOfPair_48 : decode cX2_refusalOfPair 48 = .ok (.if_icmp .gt 7, 3) := by decide +kernel
theorem dX2_refusalOfPair_51 : decode cX2_refusalOfPair 51 = .ok (.iconst 0, 1) := by decide +kernel
theorem dX2_refusalOfPair_52 : decode cX2_refusalOfPair 52 = .ok (.goto 5, 3) := by decide +kernel
theorem dX2_refusalOfPair_55 : decode cX2_refusalOfPair 55 = .ok (.bipush (-2), 2) := by decide +kernel
theorem dX2_refusalOfPair_57 : decode cX2_refusalOfPair 57 = .ok (.ireturn, 1) := by decide +kernel
theorem dX2_refusalOfPair_58 : decode cX2_refusalOfPair 58 = .ok (.aload_n 0, 1) := by decide +kernel
theorem dX2_refusalOfPair_59 : decode cX2_refusalOfPair 59 = .ok (.getfield 20, 3) := by decide +kernel
theorem dX2_refusalOfPair_62 : decode cX2_refusalOfPair 62 = .ok (.iload_n 1, 1) := by decide +kernel
theorem dX2_refusalOfPair_63 : decode cX2_refusalOfPair 63 = .ok (.invokevirtual 78, 3) := by decide +kernel
theorem dX2_refusalOfPair_66 : decode cX2_refusalOfPair 66 = .ok (.ifCond .eq 7, 3) := by decide +kernel
theorem dX2_refusalOfPair_69 : decode cX2_refusalOfPair 69 = .ok (.iconst 0, 1) := by decide +kernel
theorem dX2_refusalOfPair_70 : decode cX2_refusalOfPair 70 = .ok (.goto 4, 3) := by decide +kernel
theorem dX2_refusalOfPair_73 : decode cX2_refusalOfPair 73 = .ok (.iconst (-1), 1) := by decide +kernel
theorem dX2_refusalOfPair_74 : decode cX2_refusalOfPair 74 = .ok (.ireturn, 1) := by decide +kernel
set_option maxRecDepth 20000 in
theorem ggX2_answerOfDay_X0_becomes : GoodIn wsX2_answerOfDay wsX0_becomes := goodIn_r _ [9, 10, 11, 12, 13, 14, 15, 16, 17, 18, 19, 117, 118, 119, 120, 121, 122] (by decide +kernel) (by decide +kernel)
set_option maxRecDepth 20000 in
theorem gX2_answerOfDay_X0_becomes : GoodIn wsX2_answerOfDay (wsV RX2 170 RX0 yX0_becomes wsX0_becomes) := goodIn_app (goodIn_of _ (by decide +kernel)) ggX2_answerOfDay_X0_becomes
set_option maxRecDepth 20000 in
theorem ggX2_answerOfDay_X1_at : GoodIn wsX2_answerOfDay wsX1_at := goodIn_r _ [24, 25, 26, 27, 28, 23, 29, 30, 123, 124, 125, 126] (by decide +kernel) (by decide +kernel)
set_option maxRecDepth 20000 in
theorem gX2_answerOfDay_X1_at : GoodIn wsX2_answerOfDay (wsV RX2 118 RX1 yX1_at wsX1_at) := goodIn_app (goodIn_of _ (by decide +kernel)) ggX2_answerOfDay_X1_at
set_option maxRecDepth 20000 in
theorem ggX2_answerOfDay_X0_acted : GoodIn wsX2_answerOfDay wsX0_acted := goodIn_r _ [34, 35, 36, 37, 8, 38, 19, 39, 40, 41, 42, 18, 43, 44, 45, 46, 47, 48, 49, 50, 51, 52, 53, 54, 55, 56, 57, 58, 59, 60, 61, 16, 17, 62, 63, 64, 65, 117, 118, 119, 120, 121, 122] (by decide +kernel) (by decide +kernel)
set_option maxRecDepth 20000 in
theorem gX2_answerOfDay_X0_acted : GoodIn wsX2_answerOfDay (wsV RX2 174 RX0 yX0_acted wsX0_acted) := goodIn_app (goodIn_of _ (by decide +kernel)) ggX2_answerOfDay_X0_acted
set_option maxRecDepth 20000 in
theorem ggX2_answerOfDay_X0_isCarried : GoodIn wsX2_answerOfDay wsX0_isCarried := goodIn_r _ [69, 18, 70, 71, 72, 8, 73, 74, 75, 76, 77, 15, 17, 39, 40, 41, 42, 43, 44, 45, 46, 19, 78, 79, 80, 81, 82, 83, 84, 85, 86, 87, 88, 89, 10, 16, 90, 91, 92, 117, 118, 119, 120, 121, 122] (by decide +kernel) (by decide +kernel)
set_option maxRecDepth 20000 in
theorem gX2_answerOfDay_X0_isCarried : GoodIn wsX2_answerOfDay (wsV RX2 112 RX0 yX0_isCarried wsX0_isCarried) := goodIn_app (goodIn_of _ (by decide +kernel)) ggX2_answerOfDay_X0_isCarried
set_option maxRecDepth 20000 in
theorem ggX2_answerOfDay_X0_votesOf : GoodIn wsX2_answerOfDay wsX0_votesOf := goodIn_r _ [96, 97, 98, 99, 8, 100, 18, 74, 75, 76, 77, 15, 17, 39, 40, 41, 42, 43, 44, 45, 46, 19, 78, 79, 80, 81, 101, 102, 103, 104, 105, 91, 106, 82, 83, 84, 85, 86, 87, 88, 89, 10, 16, 90, 92, 117, 118, 119, 120, 121, 122] (by decide +kernel) (by decide +kernel)
set_option maxRecDepth 20000 in
theorem gX2_answerOfDay_X0_votesOf : GoodIn wsX2_answerOfDay (wsV RX2 109 RX0 yX0_votesOf wsX0_votesOf) := goodIn_app (goodIn_of _ (by decide +kernel)) ggX2_answerOfDay_X0_votesOf
set_option maxRecDepth 20000 in
theorem ggX2_answerOfDay_X0_has : GoodIn wsX2_answerOfDay wsX0_has := goodIn_r _ [42, 18, 117, 118, 119, 120, 121, 122] (by decide +kernel) (by decide +kernel)
set_option maxRecDepth 20000 in
theorem gX2_answerOfDay_X0_has : GoodIn wsX2_answerOfDay (wsV RX2 78 RX0 yX0_has wsX0_has) := goodIn_app (goodIn_of _ (by decide +kernel)) ggX2_answerOfDay_X0_has
theorem dX2_answerOfDay_0 : decode cX2_answerOfDay 0 = .ok (.iconst 0, 1) := by decide +kernel
theorem dX2_answerOfDay_1 : decode cX2_answerOfDay 1 = .ok (.istore 5, 2) := by decide +kernel
theorem dX2_answerOfDay_3 : decode cX2_answerOfDay 3 = .ok (.aload_n 0, 1) := by decide +kernel
theorem dX2_answerOfDay_4 : decode cX2_answerOfDay 4 = .ok (.getfield 24, 3) := by decide +kernel
theorem dX2_answerOfDay_7 : decode cX2_answerOfDay 7 = .ok (.aload_n 0, 1) := by decide +kernel
theorem dX2_answerOfDay_8 : decode cX2_answerOfDay 8 = .ok (.getfield 20, 3) := by decide +kernel
theorem dX2_answerOfDay_11 : decode cX2_answerOfDay 11 = .ok (.invokevirtual 170, 3) := by decide +kernel
theorem dX2_answerOfDay_14 : decode cX2_answerOfDay 14 = .ok (.iconst 0, 1) := by decide +kernel
theorem dX2_answerOfDay_15 : decode cX2_answerOfDay 15 = .ok (.istore 6, 2) := by decide +kernel
theorem dX2_answerOfDay_17 : decode cX2_answerOfDay 17 = .ok (.iload 6, 2) := by decide +kernel
theorem dX2_answerOfDay_19 : decode cX2_answerOfDay 19 = .ok (.iload_n 3, 1) := by decide +kernel
theorem dX2_answerOfDay_20 : decode cX2_answerOfDay 20 = .ok (.if_icmp .ge 71, 3) := by decide +kernel
theorem dX2_answerOfDay_23 : decode cX2_answerOfDay 23 = .ok (.aload_n 0, 1) := by decide +kernel
theorem dX2_answerOfDay_24 : decode cX2_answerOfDay 24 = .ok (.getfield 24, 3) := by decide +kernel
theorem dX2_answerOfDay_27 : decode cX2_answerOfDay 27 = .ok (.aload_n 1, 1) := by decide +kernel
theorem dX2_answerOfDay_28 : decode cX2_answerOfDay 28 = .ok (.iload_n 2, 1) := by decide +kernel
theorem dX2_answerOfDay_29 : decode cX2_answerOfDay 29 = .ok (.iconst 2, 1) := by decide +kernel
theorem dX2_answerOfDay_30 : decode cX2_answerOfDay 30 = .ok (.iload 6, 2) := by decide +kernel
theorem dX2_answerOfDay_32 : decode cX2_answerOfDay 32 = .ok (.imul, 1) := by decide +kernel
theorem dX2_answerOfDay_33 : decode cX2_answerOfDay 33 = .ok (.iadd, 1) := by decide +kernel
theorem dX2_answerOfDay_34 : decode cX2_answerOfDay 34 = .ok (.invokevirtual 118, 3) := by decide +kernel
theorem dX2_answerOfDay_37 : decode cX2_answerOfDay 37 = .ok (.aload_n 1, 1) := by decide +kernel
theorem dX2_answerOfDay_38 : decode cX2_answerOfDay 38 = .ok (.iload_n 2, 1) := by decide +kernel
theorem dX2_answerOfDay_39 : decode cX2_answerOfDay 39 = .ok (.iconst 2, 1) := by decide +kernel
theorem dX2_answerOfDay_40 : decode cX2_answerOfDay 40 = .ok (.iload 6, 2) := by decide +kernel
theorem dX2_answerOfDay_42 : decode cX2_answerOfDay 42 = .ok (.imul, 1) := by decide +kernel
theorem dX2_answerOfDay_43 : decode cX2_answerOfDay 43 = .ok (.iadd, 1) := by decide +kernel
theorem dX2_answerOfDay_44 : decode cX2_answerOfDay 44 = .ok (.iconst 1, 1) := by decide +kernel
theorem dX2_answerOfDay_45 : decode cX2_answerOfDay 45 = .ok (.iadd, 1) := by decide +kernel
theorem dX2_answerOfDay_46 : decode cX2_answerOfDay 46 = .ok (.invokevirtual 118, 3) := by decide +kernel
theorem dX2_answerOfDay_49 : decode cX2_answerOfDay 49 = .ok (.invokevirtual 174, 3) := by decide +kernel
theorem dX2_answerOfDay_52 : decode cX2_answerOfDay 52 = .ok (.ifCond .ne 20, 3) := by decide +kernel
theorem dX2_answerOfDay_55 : decode cX2_answerOfDay 55 = .ok (.iload 4, 2) := by decide +kernel
theorem dX2_answerOfDay_57 : decode cX2_answerOfDay 57 = .ok (.iconst 1, 1) := by decide +kernel
theorem dX2_answerOfDay_58 : decode cX2_answerOfDay 58 = .ok (.if_icmp .ne 8, 3) := by decide +kernel
theorem dX2_answerOfDay_61 : decode cX2_answerOfDay 61 = .ok (.iload 6, 2) := by decide +kernel
theorem dX2_answerOfDay_63 : decode cX2_answerOfDay 63 = .ok (.goto 8, 3) := by decide +kernel
theorem dX2_answerOfDay_66 : decode cX2_answerOfDay 66 = .ok (.bipush (-100), 2) := by decide +kernel
theorem dX2_answerOfDay_68 : decode cX2_answerOfDay 68 = .ok (.iload 6, 2) := by decide +kernel
theorem dX2_answerOfDay_70 : decode cX2_answerOfDay 70 = .ok (.isub, 1) := by decide +kernel
theorem dX2_answerOfDay_71 : decode cX2_answerOfDay 71 = .ok (.ireturn, 1) := by decide +kernel
theorem dX2_answerOfDay_72 : decode cX2_answerOfDay 72 = .ok (.aload_n 0, 1) := by decide +kernel
theorem dX2_answerOfDay_73 : decode cX2_answerOfDay 73 = .ok (.getfield 24, 3) := by decide +kernel
theorem dX2_answerOfDay_76 : decode cX2_answerOfDay 76 = .ok (.invokevirtual 112, 3) := by decide +kernel
theorem dX2_answerOfDay_79 : decode cX2_answerOfDay 79 = .ok (.ifCond .eq 6, 3) := by decide +kernel
theorem dX2_answerOfDay_82 : decode cX2_answerOfDay 82 = .ok (.iinc 5 1, 3) := by decide +kernel
theorem dX2_answerOfDay_85 : decode cX2_answerOfDay 85 = .ok (.iinc 6 1, 3) := by decide +kernel
theorem dX2_answerOfDay_88 : decode cX2_answerOfDay 88 = .ok (.goto (-71), 3) := by decide +kernel
theorem dX2_answerOfDay_91 : decode cX2_answerOfDay 91 = .ok (.iload 4, 2) := by decide +kernel
theorem dX2_answerOfDay_93 : decode cX2_answerOfDay 93 = .ok (.tableswitch 67 0 4 #[35, 44, 47, 56, 64], 35) := by decide +kernel
theorem dX2_answerOfDay_128 : decode cX2_answerOfDay 128 = .ok (.aload_n 0, 1) := by decide +kernel
theorem dX2_answerOfDay_129 : decode cX2_answerOfDay 129 = .ok (.getfield 24, 3) := by decide +kernel
theorem dX2_answerOfDay_132 : decode cX2_answerOfDay 132 = .ok (.iconst 1, 1) := by decide +kernel
theorem dX2_answerOfDay_133 : decode cX2_answerOfDay 133 = .ok (.invokevirtual 109, 3) := by decide +kernel
theorem dX2_answerOfDay_136 : decode cX2_answerOfDay 136 = .ok (.ireturn, 1) := by decide +kernel
theorem dX2_answerOfDay_137 : decode cX2_answerOfDay 137 = .ok (.bipush (-9), 2) := by decide +kernel
theorem dX2_answerOfDay_139 : decode cX2_answerOfDay 139 = .ok (.ireturn, 1) := by decide +kernel
theorem dX2_answerOfDay_140 : decode cX2_answerOfDay 140 = .ok (.aload_n 0, 1) := by decide +kernel
theorem dX2_answerOfDay_141 : decode cX2_answerOfDay 141 = .ok (.getfield 24, 3) := by decide +kernel
theorem dX2_answerOfDay_144 : decode cX2_answerOfDay 144 = .ok (.iconst 2, 1) := by decide +kernel
theorem dX2_answerOfDay_145 : decode cX2_answerOfDay 145 = .ok (.invokevirtual 109, 3) := by decide +kernel
theorem dX2_answerOfDay_148 : decode cX2_answerOfDay 148 = .ok (.ireturn, 1) := by decide +kernel
theorem dX2_answerOfDay_149 : decode cX2_answerOfDay 149 = .ok (.aload_n 0, 1) := by decide +kernel
theorem dX2_answerOfDay_150 : decode cX2_answerOfDay 150 = .ok (.getfield 24, 3) := by decide +kernel
theorem dX2_answerOfDay_153 : decode cX2_answerOfDay 153 = .ok (.getfield 136, 3) := by decide +kernel
theorem dX2_answerOfDay_156 : decode cX2_answerOfDay 156 = .ok (.ireturn, 1) := by decide +kernel
theorem dX2_answerOfDay_157 : decode cX2_answerOfDay 157 = .ok (.iload 5, 2) := by decide +kernel
theorem dX2_answerOfDay_159 : decode cX2_answerOfDay 159 = .ok (.ireturn, 1) := by decide +kernel
theorem dX2_answerOfDay_160 : decode cX2_answerOfDay 160 = .ok (.aload_n 0, 1) := by decide +kernel
theorem dX2_answerOfDay_161 : decode cX2_answerOfDay 161 = .ok (.getfield 24, 3) := by decide +kernel
theorem dX2_answerOfDay_164 : decode cX2_answerOfDay 164 = .ok (.iload 4, 2) := by decide +kernel
theorem dX2_answerOfDay_166 : decode cX2_answerOfDay 166 = .ok (.bipush 10, 2) := by decide +kernel
theorem dX2_answerOfDay_168 : decode cX2_answerOfDay 168 = .ok (.isub, 1) := by decide +kernel
theorem dX2_answerOfDay_169 : decode cX2_answerOfDay 169 = .ok (.invokevirtual 78, 3) := by decide +kernel
theorem dX2_answerOfDay_172 : decode cX2_answerOfDay 172 = .ok (.ifCond .eq 19, 3) := by decide +kernel
theorem dX2_answerOfDay_175 : decode cX2_answerOfDay 175 = .ok (.aload_n 0, 1) := by decide +kernel
theorem dX2_answerOfDay_176 : decode cX2_answerOfDay 176 = .ok (.getfield 24, 3) := by decide +kernel
theorem dX2_answerOfDay_179 : decode cX2_answerOfDay 179 = .ok (.getfield 90, 3) := by decide +kernel
theorem dX2_answerOfDay_182 : decode cX2_answerOfDay 182 = .ok (.iload 4, 2) := by decide +kernel
theorem dX2_answerOfDay_184 : decode cX2_answerOfDay 184 = .ok (.bipush 10, 2) := by decide +kernel
theorem dX2_answerOfDay_186 : decode cX2_answerOfDay 186 = .ok (.isub, 1) := by decide +kernel
theorem dX2_answerOfDay_187 : decode cX2_answerOfDay 187 = .ok (.iaload, 1) := by decide +kernel
theorem dX2_answerOfDay_188 : decode cX2_answerOfDay 188 = .ok (.goto 5, 3) := by decide +kernel
theorem dX2_answerOfDay_191 : decode cX2_answerOfDay 191 = .ok (.bipush (-9), 2) := by decide +kernel
theorem dX2_answerOfDay_193 : decode cX2_answerOfDay 193 = .ok (.ireturn, 1) := by decide +kernel
set_option maxRecDepth 20000 in
theorem ggX2_swing_X2_hasFront : GoodIn wsX2_swing wsX2_hasFront := goodIn_r _ [8, 1, 2, 77, 78, 79, 80, 81, 82, 83, 84, 85, 86, 87, 88, 89, 90, 91] (by decide +kernel) (by decide +kernel)
set_option maxRecDepth 20000 in
theorem gX2_swing_X2_hasFront : GoodIn wsX2_swing (wsV RX2 105 RX2 yX2_hasFront wsX2_hasFront) := goodIn_app (goodIn_of _ (by decide +kernel)) ggX2_swing_X2_hasFront
set_option maxRecDepth 20000 in
theorem ggX2_swing_J6_bitCount_0f7a4 : GoodIn wsX2_swing wsJ6_bitCount_0f7a4 := goodIn_r _ [12, 13, 14, 15] (by decide +kernel) (by decide +kernel)
set_option maxRecDepth 20000 in
theorem gX2_swing_J6_bitCount_0f7a4 : GoodIn wsX2_swing (va_wsS RX2 152 yJ6_bitCount_0f7a4 wsJ6_bitCount_0f7a4) := goodIn_app (goodIn_of _ (by decide +kernel)) ggX2_swing_J6_bitCount_0f7a4
set_option maxRecDepth 20000 in
theorem ggX2_swing_X2_isCarriedIfAtSea : GoodIn wsX2_swing wsX2_isCarriedIfAtSea := goodIn_r _ [19, 20, 1, 2, 21, 22, 23, 24, 25, 26, 27, 28, 29, 30, 31, 32, 33, 34, 35, 36, 37, 7, 38, 39, 40, 41, 42, 43, 44, 45, 46, 47, 48, 49, 50, 51, 52, 53, 54, 55, 56, 57, 58, 59, 60, 61, 62, 63, 64, 65, 66, 67, 68, 69, 70, 71, 72, 73, 74, 75, 76, 77, 78, 79, 80, 81, 82, 83, 84, 85, 86, 87, 88, 89, 90, 91] (by decide +kernel) (by decide +kernel)
set_option maxRecDepth 20000 in
theorem gX2_swing_X2_isCarriedIfAtSea : GoodIn wsX2_swing (wsV RX2 177 RX2 yX2_isCarriedIfAtSea wsX2_isCarriedIfAtSea) := goodIn_app (goodIn_of _ (by decide +kernel)) ggX2_swing_X2_isCarriedIfAtSea
theorem dX2_swing_0 : decode cX2_swing 0 = .ok (.aload_n 0, 1) := by decide +kernel
theorem dX2_swing_1 : decode cX2_swing 1 = .ok (.invokevirtual 105, 3) := by decide +kernel
theorem dX2_swing_4 : decode cX2_swing 4 = .ok (.ifCond .ne 6, 3) := by decide +kernel
theorem dX2_swing_7 : decode cX2_swing 7 = .ok (.bipush (-3), 2) := by decide +kernel
theorem dX2_swing_9 : decode cX2_swing 9 = .ok (.ireturn, 1) := by decide +kernel
theorem dX2_swing_10 : decode cX2_swing 10 = .ok (.bipush (-9), 2) := by decide +kernel
theorem dX2_swing_12 : decode cX2_swing 12 = .ok (.istore_n 1, 1) := by decide +kernel
theorem dX2_swing_13 : decode cX2_swing 13 = .ok (.bipush 9, 2) := by decide +kernel
theorem dX2_swing_15 : decode cX2_swing 15 = .ok (.istore_n 2, 1) := by decide +kernel
theorem dX2_swing_16 : decode cX2_swing 16 = .ok (.iconst 1, 1) := by decide +kernel
theorem dX2_swing_17 : decode cX2_swing 17 = .ok (.aload_n 0, 1) := by decide +kernel
theorem dX2_swing_18 : decode cX2_swing 18 = .ok (.getfield 20, 3) := by decide +kernel
theorem dX2_swing_21 : decode cX2_swing 21 = .ok (.getfield 75, 3) := by decide +kernel
theorem dX2_swing_24 : decode cX2_swing 24 = .ok (.ishl, 1) := by decide +kernel
theorem dX2_swing_25 : decode cX2_swing 25 = .ok (.istore_n 3, 1) := by decide +kernel
theorem dX2_swing_26 : decode cX2_swing 26 = .ok (.iconst 0, 1) := by decide +kernel
theorem dX2_swing_27 : decode cX2_swing 27 = .ok (.istore 4, 2) := by decide +kernel
theorem dX2_swing_29 : decode cX2_swing 29 = .ok (.iload 4, 2) := by decide +kernel
theorem dX2_swing_31 : decode cX2_swing 31 = .ok (.iload_n 3, 1) := by decide +kernel
theorem dX2_swing_32 : decode cX2_swing 32 = .ok (.if_icmp .ge 50, 3) := by decide +kernel
theorem dX2_swing_35 : decode cX2_swing 35 = .ok (.iload 4, 2) := by decide +kernel
theorem dX2_swing_37 : decode cX2_swing 37 = .ok (.invokestatic 152, 3) := by decide +kernel
theorem dX2_swing_40 : decode cX2_swing 40 = .ok (.istore 5, 2) := by decide +kernel
theorem dX2_swing_42 : decode cX2_swing 42 = .ok (.iload 5, 2) := by decide +kernel
theorem dX2_swing_44 : decode cX2_swing 44 = .ok (.iload_n 2, 1) := by decide +kernel
theorem dX2_swing_45 : decode cX2_swing 45 = .ok (.if_icmp .ge 31, 3) := by decide +kernel
theorem dX2_swing_48 : decode cX2_swing 48 = .ok (.iload 4, 2) := by decide +kernel
theorem dX2_swing_50 : decode cX2_swing 50 = .ok (.aload_n 0, 1) := by decide +kernel
theorem dX2_swing_51 : decode cX2_swing 51 = .ok (.getfield 20, 3) := by decide +kernel
theorem dX2_swing_54 : decode cX2_swing 54 = .ok (.getfield 136, 3) := by decide +kernel
theorem dX2_swing_57 : decode cX2_swing 57 = .ok (.iand, 1) := by decide +kernel
theorem dX2_swing_58 : decode cX2_swing 58 = .ok (.ifCond .ne 18, 3) := by decide +kernel
theorem dX2_swing_61 : decode cX2_swing 61 = .ok (.aload_n 0, 1) := by decide +kernel
theorem dX2_swing_62 : decode cX2_swing 62 = .ok (.iload 4, 2) := by decide +kernel
theorem dX2_swing_64 : decode cX2_swing 64 = .ok (.invokevirtual 177, 3) := by decide +kernel
theorem dX2_swing_67 : decode cX2_swing 67 = .ok (.ifCond .eq 9, 3) := by decide +kernel
theorem dX2_swing_70 : decode cX2_swing 70 = .ok (.iload 4, 2) := by decide +kernel
theorem dX2_swing_72 : decode cX2_swing 72 = .ok (.istore_n 1, 1) := by decide +kernel
theorem dX2_swing_73 : decode cX2_swing 73 = .ok (.iload 5, 2) := by decide +kernel
theorem dX2_swing_75 : decode cX2_swing 75 = .ok (.istore_n 2, 1) := by decide +kernel
theorem dX2_swing_76 : decode cX2_swing 76 = .ok (.iinc 4 1, 3) := by decide +kernel
theorem dX2_swing_79 : decode cX2_swing 79 = .ok (.goto (-50), 3) := by decide +kernel
theorem dX2_swing_82 : decode cX2_swing 82 = .ok (.iload_n 1, 1) := by decide +kernel
theorem dX2_swing_83 : decode cX2_swing 83 = .ok (.ireturn, 1) := by decide +kernel
set_option maxRecDepth 20000 in
theorem ggX2_blow_X2_hasFront : GoodIn wsX2_blow wsX2_hasFront := goodIn_r _ [7, 2, 8, 65, 66, 67, 68, 69, 70, 71, 72, 73, 74, 75, 76, 77, 78, 79] (by decide +kernel) (by decide +kernel)
set_option maxRecDepth 20000 in
theorem gX2_blow_X2_hasFront : GoodIn wsX2_blow (wsV RX2 105 RX2 yX2_hasFront wsX2_hasFront) := goodIn_app (goodIn_of _ (by decide +kernel)) ggX2_blow_X2_hasFront
set_option maxRecDepth 20000 in
theorem ggX2_blow_X2_isWay : GoodIn wsX2_blow wsX2_isWay := goodIn_r _ [11] (by decide +kernel) (by decide +kernel)
set_option maxRecDepth 20000 in
theorem gX2_blow_X2_isWay : GoodIn wsX2_blow (va_wsS RX2 127 yX2_isWay wsX2_isWay) := goodIn_app (goodIn_of _ (by decide +kernel)) ggX2_blow_X2_isWay
set_option maxRecDepth 20000 in
theorem ggX2_blow_X0_becomes : GoodIn wsX2_blow wsX0_becomes := goodIn_r _ [16, 17, 18, 19, 20, 21, 22, 23, 24, 25, 26, 74, 75, 76, 77, 78, 79] (by decide +kernel) (by decide +kernel)
set_option maxRecDepth 20000 in
theorem gX2_blow_X0_becomes : GoodIn wsX2_blow (wsV RX2 170 RX0 yX0_becomes wsX0_becomes) := goodIn_app (goodIn_of _ (by decide +kernel)) ggX2_blow_X0_becomes
set_option maxRecDepth 20000 in
theorem ggX2_blow_X0_blown : GoodIn wsX2_blow wsX0_blown := goodIn_r _ [30, 25, 23, 24, 31, 32, 33, 15, 34, 26, 74, 75, 76, 77, 78, 79] (by decide +kernel) (by decide +kernel)
set_option maxRecDepth 20000 in
theorem gX2_blow_X0_blown : GoodIn wsX2_blow (wsV RX2 142 RX0 yX0_blown wsX0_blown) := goodIn_app (goodIn_of _ (by decide +kernel)) ggX2_blow_X0_blown
set_option maxRecDepth 20000 in
theorem ggX2_blow_X0_isCarried : GoodIn wsX2_blow wsX0_isCarried := goodIn_r _ [38, 25, 39, 40, 41, 15, 42, 43, 44, 45, 46, 22, 24, 47, 48, 49, 50, 31, 32, 33, 34, 26, 51, 52, 53, 54, 55, 56, 57, 58, 59, 60, 61, 62, 17, 23, 63, 6, 64, 74, 75, 76, 77, 78, 79] (by decide +kernel) (by decide +kernel)
set_option maxRecDepth 20000 in
theorem gX2_blow_X0_isCarried : GoodIn wsX2_blow (wsV RX2 112 RX0 yX0_isCarried wsX0_isCarried) := goodIn_app (goodIn_of _ (by decide +kernel)) ggX2_blow_X0_isCarried
theorem dX2_blow_0 : decode cX2_blow 0 = .ok (.aload_n 0, 1) := by decide +kernel
theorem dX2_blow_1 : decode cX2_blow 1 = .ok (.invokevirtual 105, 3) := by decide +kernel
theorem dX2_blow_4 : decode cX2_blow 4 = .ok (.ifCond .ne 6, 3) := by decide +kernel
theorem dX2_blow_7 : decode cX2_blow 7 = .ok (.bipush (-3), 2) := by decide +kernel
theorem dX2_blow_9 : decode cX2_blow 9 = .ok (.ireturn, 1) := by decide +kernel
theorem dX2_blow_10 : decode cX2_blow 10 = .ok (.iload_n 1, 1) := by decide +kernel
theorem dX2_blow_11 : decode cX2_blow 11 = .ok (.invokestatic 127, 3) := by decide +kernel
theorem dX2_blow_14 : decode cX2_blow 14 = .ok (.ifCond .ne 6, 3) := by decide +kernel
theorem dX2_blow_17 : decode cX2_blow 17 = .ok (.bipush (-2), 2) := by decide +kernel
theorem dX2_blow_19 : decode cX2_blow 19 = .ok (.ireturn, 1) := by decide +kernel
theorem dX2_blow_20 : decode cX2_blow 20 = .ok (.iconst 0, 1) := by decide +kernel
theorem dX2_blow_21 : decode cX2_blow 21 = .ok (.istore_n 2, 1) := by decide +kernel
theorem dX2_blow_22 : decode cX2_blow 22 = .ok (.iload_n 2, 1) := by decide +kernel
theorem dX2_blow_23 : decode cX2_blow 23 = .ok (.bipush 10, 2) := by decide +kernel
theorem dX2_blow_25 : decode cX2_blow 25 = .ok (.if_icmp .gt 42, 3) := by decide +kernel
theorem dX2_blow_28 : decode cX2_blow 28 = .ok (.aload_n 0, 1) := by decide +kernel
theorem dX2_blow_29 : decode cX2_blow 29 = .ok (.getfield 24, 3) := by decide +kernel
theorem dX2_blow_32 : decode cX2_blow 32 = .ok (.aload_n 0, 1) := by decide +kernel
theorem dX2_blow_33 : decode cX2_blow 33 = .ok (.getfield 20, 3) := by decide +kernel
theorem dX2_blow_36 : decode cX2_blow 36 = .ok (.invokevirtual 170, 3) := by decide +kernel
theorem dX2_blow_39 : decode cX2_blow 39 = .ok (.aload_n 0, 1) := by decide +kernel
theorem dX2_blow_40 : decode cX2_blow 40 = .ok (.getfield 24, 3) := by decide +kernel
theorem dX2_blow_43 : decode cX2_blow 43 = .ok (.iload_n 1, 1) := by decide +kernel
theorem dX2_blow_44 : decode cX2_blow 44 = .ok (.iload_n 2, 1) := by decide +kernel
theorem dX2_blow_45 : decode cX2_blow 45 = .ok (.invokevirtual 142, 3) := by decide +kernel
theorem dX2_blow_48 : decode cX2_blow 48 = .ok (.pop, 1) := by decide +kernel
theorem dX2_blow_49 : decode cX2_blow 49 = .ok (.aload_n 0, 1) := by decide +kernel
theorem dX2_blow_50 : decode cX2_blow 50 = .ok (.getfield 24, 3) := by decide +kernel
theorem dX2_blow_53 : decode cX2_blow 53 = .ok (.invokevirtual 112, 3) := by decide +kernel
theorem dX2_blow_56 : decode cX2_blow 56 = .ok (.ifCond .eq 5, 3) := by decide +kernel
theorem dX2_blow_59 : decode cX2_blow 59 = .ok (.iload_n 2, 1) := by decide +kernel
theorem dX2_blow_60 : decode cX2_blow 60 = .ok (.ireturn, 1) := by decide +kernel
theorem dX2_blow_61 : decode cX2_blow 61 = .ok (.iinc 2 1, 3) := by decide +kernel
theorem dX2_blow_64 : decode cX2_blow 64 = .ok (.goto (-42), 3) := by decide +kernel
theorem dX2_blow_67 : decode cX2_blow 67 = .ok (.bipush (-9), 2) := by decide +kernel
theorem dX2_blow_69 : decode cX2_blow 69 = .ok (.ireturn, 1) := by decide +kernel
set_option maxRecDepth 20000 in
theorem ggX2_wards_X2_hasFront : GoodIn wsX2_wards wsX2_hasFront := goodIn_r _ [8, 1, 2, 72, 73, 74, 75, 76, 77, 78, 79, 80, 81, 82, 83, 84, 85, 86] (by decide +kernel) (by decide +kernel)
set_option maxRecDepth 20000 in
theorem gX2_wards_X2_hasFront : GoodIn wsX2_wards (wsV RX2 105 RX2 yX2_hasFront wsX2_hasFront) := goodIn_app (goodIn_of _ (by decide +kernel)) ggX2_wards_X2_hasFront
set_option maxRecDepth 20000 in
theorem ggX2_wards_X0_tilt : GoodIn wsX2_wards wsX0_tilt := goodIn_r _ [13, 14, 15, 16, 12, 17, 18, 19, 20, 21, 22, 23, 24, 25, 26, 27, 28, 29, 30, 31, 32, 33, 34, 35, 36, 37, 38, 39, 40, 41, 42, 43, 44, 7, 45, 81, 82, 83, 84, 85, 86] (by decide +kernel) (by decide +kernel)
set_option maxRecDepth 20000 in
theorem gX2_wards_X0_tilt : GoodIn wsX2_wards (wsV RX2 180 RX0 yX0_tilt wsX0_tilt) := goodIn_app (goodIn_of _ (by decide +kernel)) ggX2_wards_X0_tilt
set_option maxRecDepth 20000 in
theorem ggX2_wards_X2_fairestCuts : GoodIn wsX2_wards wsX2_fairestCuts := goodIn_r _ [49, 1, 2, 50, 51, 52, 53, 54, 55, 56, 57, 58, 59, 7, 60, 3, 61, 62, 63, 64, 65, 66, 67, 72, 73, 74, 75, 76, 77, 78, 79, 80, 81, 82, 83, 84, 85, 86] (by decide +kernel) (by decide +kernel)
set_option maxRecDepth 20000 in
theorem gX2_wards_X2_fairestCuts : GoodIn wsX2_wards (wsV RX2 183 RX2 yX2_fairestCuts wsX2_fairestCuts) := goodIn_app (goodIn_of _ (by decide +kernel)) ggX2_wards_X2_fairestCuts
set_option maxRecDepth 20000 in
theorem ggX2_wards_X2_wardsWon : GoodIn wsX2_wards wsX2_wardsWon := goodIn_r _ [60, 1, 2, 3, 61, 62, 63, 7, 64, 65, 66, 67, 72, 73, 74, 75, 76, 77, 78, 79, 80, 81, 82, 83, 84, 85, 86] (by decide +kernel) (by decide +kernel)
set_option maxRecDepth 20000 in
theorem gX2_wards_X2_wardsWon : GoodIn wsX2_wards (wsV RX2 186 RX2 yX2_wardsWon wsX2_wardsWon) := goodIn_app (goodIn_of _ (by decide +kernel)) ggX2_wards_X2_wardsWon
set_option maxRecDepth 20000 in
theorem ggX2_wards_X2_firstOfWard : GoodIn wsX2_wards wsX2_firstOfWard := goodIn_r _ [71, 1, 2, 61, 62, 63, 7, 64, 65, 66, 67, 72, 73, 74, 75, 76, 77, 78, 79, 80, 81, 82, 83, 84, 85, 86] (by decide +kernel) (by decide +kernel)
set_option maxRecDepth 20000 in
theorem gX2_wards_X2_firstOfWard : GoodIn wsX2_wards (wsV RX2 189 RX2 yX2_firstOfWard wsX2_firstOfWard) := goodIn_app (goodIn_of _ (by decide +kernel)) ggX2_wards_X2_firstOfWard
theorem dX2_wards_0 : decode cX2_wards 0 = .ok (.aload_n 0, 1) := by decide +kernel
theorem dX2_wards_1 : decode cX2_wards 1 = .ok (.invokevirtual 105, 3) := by decide +kernel
theorem dX2_wards_4 : decode cX2_wards 4 = .ok (.ifCond .ne 6, 3) := by decide +kernel
theorem dX2_wards_7 : decode cX2_wards 7 = .ok (.bipush (-3), 2) := by decide +kernel
theorem dX2_wards_9 : decode cX2_wards 9 = .ok (.ireturn, 1) := by decide +kernel
theorem dX2_wards_10 : decode cX2_wards 10 = .ok (.iload_n 1, 1) := by decide +kernel
theorem dX2_wards_11 : decode cX2_wards 11 = .ok (.iconst 1, 1) := by decide +kernel
theorem dX2_wards_12 : decode cX2_wards 12 = .ok (.if_icmp .lt 20, 3) := by decide +kernel
theorem dX2_wards_15 : decode cX2_wards 15 = .ok (.iload_n 1, 1) := by decide +kernel
theorem dX2_wards_16 : decode cX2_wards 16 = .ok (.bipush 8, 2) := by decide +kernel
theorem dX2_wards_18 : decode cX2_wards 18 = .ok (.if_icmp .gt 14, 3) := by decide +kernel
theorem dX2_wards_21 : decode cX2_wards 21 = .ok (.iload_n 2, 1) := by decide +kernel
theorem dX2_wards_22 : decode cX2_wards 22 = .ok (.iconst (-1), 1) := by decide +kernel
theorem dX2_wards_23 : decode cX2_wards 23 = .ok (.if_icmp .lt 9, 3) := by decide +kernel
theorem dX2_wards_26 : decode cX2_wards 26 = .ok (.iload_n 2, 1) := by decide +kernel
theorem dX2_wards_27 : decode cX2_wards 27 = .ok (.bipush 8, 2) := by decide +kernel
theorem dX2_wards_29 : decode cX2_wards 29 = .ok (.if_icmp .lt 6, 3) := by decide +kernel
theorem dX2_wards_32 : decode cX2_wards 32 = .ok (.bipush (-2), 2) := by decide +kernel
theorem dX2_wards_34 : decode cX2_wards 34 = .ok (.ireturn, 1) := by decide +kernel
theorem dX2_wards_35 : decode cX2_wards 35 = .ok (.iload_n 1, 1) := by decide +kernel
theorem dX2_wards_36 : decode cX2_wards 36 = .ok (.aload_n 0, 1) := by decide +kernel
theorem dX2_wards_37 : decode cX2_wards 37 = .ok (.getfield 20, 3) := by decide +kernel
theorem dX2_wards_40 : decode cX2_wards 40 = .ok (.getfield 75, 3) := by decide +kernel
theorem dX2_wards_43 : decode cX2_wards 43 = .ok (.if_icmp .gt 8, 3) := by decide +kernel
theorem dX2_wards_46 : decode cX2_wards 46 = .ok (.iload_n 2, 1) := by decide +kernel
theorem dX2_wards_47 : decode cX2_wards 47 = .ok (.iload_n 1, 1) := by decide +kernel
theorem dX2_wards_48 : decode cX2_wards 48 = .ok (.if_icmp .lt 6, 3) := by decide +kernel
theorem dX2_wards_51 : decode cX2_wards 51 = .ok (.bipush (-9), 2) := by decide +kernel
theorem dX2_wards_53 : decode cX2_wards 53 = .ok (.ireturn, 1) := by decide +kernel
theorem dX2_wards_54 : decode cX2_wards 54 = .ok (.iconst 0, 1) := by decide +kernel
theorem dX2_wards_55 : decode cX2_wards 55 = .ok (.istore_n 3, 1) := by decide +kernel
theorem dX2_wards_56 : decode cX2_wards 56 = .ok (.iload_n 3, 1) := by decide +kernel
theorem dX2_wards_57 : decode cX2_wards 57 = .ok (.aload_n 0, 1) := by decide +kernel
theorem dX2_wards_58 : decode cX2_wards 58 = .ok (.getfield 20, 3) := by decide +kernel
theorem dX2_wards_61 : decode cX2_wards 61 = .ok (.getfield 75, 3) := by decide +kernel
theorem dX2_wards_64 : decode cX2_wards 64 = .ok (.if_icmp .ge 23, 3) := by decide +kernel
theorem dX2_wards_67 : decode cX2_wards 67 = .ok (.aload_n 0, 1) := by decide +kernel
theorem dX2_wards_68 : decode cX2_wards 68 = .ok (.getfield 27, 3) := by decide +kernel
theorem dX2_wards_71 : decode cX2_wards 71 = .ok (.iload_n 3, 1) := by decide +kernel
theorem dX2_wards_72 : decode cX2_wards 72 = .ok (.aload_n 0, 1) := by decide +kernel
theorem dX2_wards_73 : decode cX2_wards 73 = .ok (.getfield 20, 3) := by decide +kernel
theorem dX2_wards_76 : decode cX2_wards 76 = .ok (.iload_n 3, 1) := by decide +kernel
theorem dX2_wards_77 : decode cX2_wards 77 = .ok (.invokevirtual 180, 3) := by decide +kernel
theorem dX2_wards_80 : decode cX2_wards 80 = .ok (.iastore, 1) := by decide +kernel
theorem dX2_wards_81 : decode cX2_wards 81 = .ok (.iinc 3 1, 3) := by decide +kernel
theorem dX2_wards_84 : decode cX2_wards 84 = .ok (.goto (-28), 3) := by decide +kernel
theorem dX2_wards_87 : decode cX2_wards 87 = .ok (.aload_n 0, 1) := by decide +kernel
theorem dX2_wards_88 : decode cX2_wards 88 = .ok (.iload_n 1, 1) := by decide +kernel
theorem dX2_wards_89 : decode cX2_wards 89 = .ok (.invokevirtual 183, 3) := by decide +kernel
theorem dX2_wards_92 : decode cX2_wards 92 = .ok (.istore_n 3, 1) := by decide +kernel
theorem dX2_wards_93 : decode cX2_wards 93 = .ok (.iload_n 2, 1) := by decide +kernel
theorem dX2_wards_94 : decode cX2_wards 94 = .ok (.ifCond .ge 11, 3) := by decide +kernel
theorem dX2_wards_97 : decode cX2_wards 97 = .ok (.aload_n 0, 1) := by decide +kernel
theorem dX2_wards_98 : decode cX2_wards 98 = .ok (.iload_n 3, 1) := by decide +kernel
theorem dX2_wards_99 : decode cX2_wards 99 = .ok (.invokevirtual 186, 3) := by decide +kernel
theorem dX2_wards_102 : decode cX2_wards 102 = .ok (.goto 9, 3) := by decide +kernel
theorem dX2_wards_105 : decode cX2_wards 105 = .ok (.aload_n 0, 1) := by decide +kernel
theorem dX2_wards_106 : decode cX2_wards 106 = .ok (.iload_n 3, 1) := by decide +kernel
theorem dX2_wards_107 : decode cX2_wards 107 = .ok (.iload_n 2, 1) := by decide +kernel
theorem dX2_wards_108 : decode cX2_wards 108 = .ok (.invokevirtual 189, 3) := by decide +kernel
theorem dX2_wards_111 : decode cX2_wards 111 = .ok (.ireturn, 1) := by decide +kernel
set_option maxRecDepth 20000 in
theorem ggX2_power_X2_isStripe : GoodIn wsX2_power wsX2_isStripe := goodIn_r _ [6] (by decide +kernel) (by decide +kernel)
set_option maxRecDepth 20000 in
theorem gX2_power_X2_isStripe : GoodIn wsX2_power (va_wsS RX2 102 yX2_isStripe wsX2_isStripe) := goodIn_app (goodIn_of _ (by decide +kernel)) ggX2_power_X2_isStripe
set_option maxRecDepth 20000 in
theorem ggX2_power_X2_isUpperOrLower : GoodIn wsX2_power wsX2_isUpperOrLower := goodIn_r _ [9] (by decide +kernel) (by decide +kernel)
set_option maxRecDepth 20000 in
theorem gX2_power_X2_isUpperOrLower : GoodIn wsX2_power (va_wsS RX2 192 yX2_isUpperOrLower wsX2_isUpperOrLower) := goodIn_app (goodIn_of _ (by decide +kernel)) ggX2_power_X2_isUpperOrLower
set_option maxRecDepth 20000 in
theorem ggX2_power_X2_hasFront : GoodIn wsX2_power wsX2_hasFront := goodIn_r _ [13, 2, 14, 48, 49, 50, 51, 52, 53, 54, 55, 56, 57, 58, 59, 60, 61, 62] (by decide +kernel) (by decide +kernel)
set_option maxRecDepth 20000 in
theorem gX2_power_X2_hasFront : GoodIn wsX2_power (wsV RX2 105 RX2 yX2_hasFront wsX2_hasFront) := goodIn_app (goodIn_of _ (by decide +kernel)) ggX2_power_X2_hasFront
set_option maxRecDepth 20000 in
theorem ggX2_power_X0_votesOfStripes : GoodIn wsX2_power wsX0_votesOfStripes := goodIn_r _ [19, 20, 21, 22, 5, 23, 24, 25, 26, 18, 27, 28, 29, 30, 31, 32, 33, 34, 35, 36, 37, 38, 39, 40, 41, 42, 43, 44, 57, 58, 59, 60, 61, 62] (by decide +kernel) (by decide +kernel)
set_option maxRecDepth 20000 in
theorem gX2_power_X0_votesOfStripes : GoodIn wsX2_power (wsV RX2 197 RX0 yX0_votesOfStripes wsX0_votesOfStripes) := goodIn_app (goodIn_of _ (by decide +kernel)) ggX2_power_X0_votesOfStripes
set_option maxRecDepth 20000 in
theorem ggX2_power_X2_share : GoodIn wsX2_power wsX2_share := goodIn_r _ [47] (by decide +kernel) (by decide +kernel)
set_option maxRecDepth 20000 in
theorem gX2_power_X2_share : GoodIn wsX2_power (va_wsS RX2 200 yX2_share wsX2_share) := goodIn_app (goodIn_of _ (by decide +kernel)) ggX2_power_X2_share
theorem dX2_power_0 : decode cX2_power 0 = .ok (.iload_n 1, 1) := by decide +kernel
theorem dX2_power_1 : decode cX2_power 1 = .ok (.invokestatic 102, 3) := by decide +kernel
theorem dX2_power_4 : decode cX2_power 4 = .ok (.ifCond .eq 17, 3) := by decide +kernel
theorem dX2_power_7 : decode cX2_power 7 = .ok (.iload_n 2, 1) := by decide +kernel
theorem dX2_power_8 : decode cX2_power 8 = .ok (.invokestatic 192, 3) := by decide +kernel
theorem dX2_power_11 : decode cX2_power 11 = .ok (.ifCond .eq 10, 3) := by decide +kernel
theorem dX2_power_14 : decode cX2_power 14 = .ok (.aload_n 0, 1) := by decide +kernel
theorem dX2_power_15 : decode cX2_power 15 = .ok (.invokevirtual 105, 3) := by decide +kernel
theorem dX2_power_18 : decode cX2_power 18 = .ok (.ifCond .ne 7, 3) := by decide +kernel
theorem dX2_power_21 : decode cX2_power 21 = .ok (.ldc2_w 195, 3) := by decide +kernel
theorem dX2_power_24 : decode cX2_power 24 = .ok (.lreturn, 1) := by decide +kernel
theorem dX2_power_25 : decode cX2_power 25 = .ok (.iconst 1, 1) := by decide +kernel
theorem dX2_power_26 : decode cX2_power 26 = .ok (.iload_n 1, 1) := by decide +kernel
theorem dX2_power_27 : decode cX2_power 27 = .ok (.ishl, 1) := by decide +kernel
theorem dX2_power_28 : decode cX2_power 28 = .ok (.istore_n 3, 1) := by decide +kernel
theorem dX2_power_29 : decode cX2_power 29 = .ok (.bipush 16, 2) := by decide +kernel
theorem dX2_power_31 : decode cX2_power 31 = .ok (.istore 4, 2) := by decide +kernel
theorem dX2_power_33 : decode cX2_power 33 = .ok (.aload_n 0, 1) := by decide +kernel
theorem dX2_power_34 : decode cX2_power 34 = .ok (.getfield 20, 3) := by decide +kernel
theorem dX2_power_37 : decode cX2_power 37 = .ok (.iload 4, 2) := by decide +kernel
theorem dX2_power_39 : decode cX2_power 39 = .ok (.iconst 1, 1) := by decide +kernel
theorem dX2_power_40 : decode cX2_power 40 = .ok (.isub, 1) := by decide +kernel
theorem dX2_power_41 : decode cX2_power 41 = .ok (.invokevirtual 197, 3) := by decide +kernel
theorem dX2_power_44 : decode cX2_power 44 = .ok (.istore 5, 2) := by decide +kernel
theorem dX2_power_46 : decode cX2_power 46 = .ok (.iconst 0, 1) := by decide +kernel
theorem dX2_power_47 : decode cX2_power 47 = .ok (.istore 6, 2) := by decide +kernel
theorem dX2_power_49 : decode cX2_power 49 = .ok (.iconst 0, 1) := by decide +kernel
theorem dX2_power_50 : decode cX2_power 50 = .ok (.istore 7, 2) := by decide +kernel
theorem dX2_power_52 : decode cX2_power 52 = .ok (.iload 7, 2) := by decide +kernel
theorem dX2_power_54 : decode cX2_power 54 = .ok (.iload 4, 2) := by decide +kernel
theorem dX2_power_56 : decode cX2_power 56 = .ok (.if_icmp .ge 53, 3) := by decide +kernel
theorem dX2_power_59 : decode cX2_power 59 = .ok (.iload 7, 2) := by decide +kernel
theorem dX2_power_61 : decode cX2_power 61 = .ok (.iload_n 3, 1) := by decide +kernel
theorem dX2_power_62 : decode cX2_power 62 = .ok (.iand, 1) := by decide +kernel
theorem dX2_power_63 : decode cX2_power 63 = .ok (.ifCond .ne 40, 3) := by decide +kernel
theorem dX2_power_66 : decode cX2_power 66 = .ok (.iconst 2, 1) := by decide +kernel
theorem dX2_power_67 : decode cX2_power 67 = .ok (.aload_n 0, 1) := by decide +kernel
theorem dX2_power_68 : decode cX2_power 68 = .ok (.getfield 20, 3) := by decide +kernel
theorem dX2_power_71 : decode cX2_power 71 = .ok (.iload 7, 2) := by decide +kernel
theorem dX2_power_73 : decode cX2_power 73 = .ok (.invokevirtual 197, 3) := by decide +kernel
theorem dX2_power_76 : decode cX2_power 76 = .ok (.imul, 1) := by decide +kernel
theorem dX2_power_77 : decode cX2_power 77 = .ok (.iload 5, 2) := by decide +kernel
theorem dX2_power_79 : decode cX2_power 79 = .ok (.if_icmp .gt 24, 3) := by decide +kernel
theorem dX2_power_82 : decode cX2_power 82 = .ok (.iconst 2, 1) := by decide +kernel
theorem dX2_power_83 : decode cX2_power 83 = .ok (.aload_n 0, 1) := by decide +kernel
theorem dX2_power_84 : decode cX2_power 84 = .ok (.getfield 20, 3) := by decide +kernel
theorem dX2_power_87 : decode cX2_power 87 = .ok (.iload 7, 2) := by decide +kernel
theorem dX2_power_89 : decode cX2_power 89 = .ok (.iload_n 3, 1) := by decide +kernel
theorem dX2_power_90 : decode cX2_power 90 = .ok (.ior, 1) := by decide +kernel
theorem dX2_power_91 : decode cX2_power 91 = .ok (.invokevirtual 197, 3) := by decide +kernel
theorem dX2_power_94 : decode cX2_power 94 = .ok (.imul, 1) := by decide +kernel
theorem dX2_power_95 : decode cX2_power 95 = .ok (.iload 5, 2) := by decide +kernel
theorem dX2_power_97 : decode cX2_power 97 = .ok (.if_icmp .le 6, 3) := by decide +kernel
theorem dX2_power_100 : decode cX2_power 100 = .ok (.iinc 6 1, 3) := by decide +kernel
theorem dX2_power_103 : decode cX2_power 103 = .ok (.iinc 7 1, 3) := by decide +kernel
theorem dX2_power_106 : decode cX2_power 106 = .ok (.goto (-54), 3) := by decide +kernel
theorem dX2_power_109 : decode cX2_power 109 = .ok (.iload 6, 2) := by decide +kernel
theorem dX2_power_111 : decode cX2_power 111 = .ok (.iload 4, 2) := by decide +kernel
theorem dX2_power_113 : decode cX2_power 113 = .ok (.iconst 2, 1) := by decide +kernel
theorem dX2_power_114 : decode cX2_power 114 = .ok (.idiv, 1) := by decide +kernel
theorem dX2_power_115 : decode cX2_power 115 = .ok (.iload_n 2, 1) := by decide +kernel
theorem dX2_power_116 : decode cX2_power 116 = .ok (.invokestatic 200, 3) := by decide +kernel
theorem dX2_power_119 : decode cX2_power 119 = .ok (.lreturn, 1) := by decide +kernel
set_option maxRecDepth 20000 in
theorem ggX2_isCarriedIfAtSea_X0_becomes : GoodIn wsX2_isCarriedIfAtSea wsX0_becomes := goodIn_r _ [8, 9, 10, 11, 12, 13, 14, 15, 16, 17, 18, 70, 71, 72, 73, 74, 75] (by decide +kernel) (by decide +kernel)
set_option maxRecDepth 20000 in
theorem gX2_isCarriedIfAtSea_X0_becomes : GoodIn wsX2_isCarriedIfAtSea (wsV RX2 170 RX0 yX0_becomes wsX0_becomes) := goodIn_app (goodIn_of _ (by decide +kernel)) ggX2_isCarriedIfAtSea_X0_becomes
set_option maxRecDepth 20000 in
theorem ggX2_isCarriedIfAtSea_X2_isIn : GoodIn wsX2_isCarriedIfAtSea wsX2_isIn := goodIn_r _ [22] (by decide +kernel) (by decide +kernel)
set_option maxRecDepth 20000 in
theorem gX2_isCarriedIfAtSea_X2_isIn : GoodIn wsX2_isCarriedIfAtSea (va_wsS RX2 204 yX2_isIn wsX2_isIn) := goodIn_app (goodIn_of _ (by decide +kernel)) ggX2_isCarriedIfAtSea_X2_isIn
set_option maxRecDepth 20000 in
theorem ggX2_isCarriedIfAtSea_X0_turned : GoodIn wsX2_isCarriedIfAtSea wsX0_turned := goodIn_r _ [26, 16, 27, 28, 29, 7, 30, 17, 31, 32, 33, 34, 18, 70, 71, 72, 73, 74, 75] (by decide +kernel) (by decide +kernel)
set_option maxRecDepth 20000 in
theorem gX2_isCarriedIfAtSea_X0_turned : GoodIn wsX2_isCarriedIfAtSea (wsV RX2 139 RX0 yX0_turned wsX0_turned) := goodIn_app (goodIn_of _ (by decide +kernel)) ggX2_isCarriedIfAtSea_X0_turned
set_option maxRecDepth 20000 in
theorem ggX2_isCarriedIfAtSea_X0_isCarried : GoodIn wsX2_isCarriedIfAtSea wsX0_isCarried := goodIn_r _ [38, 17, 39, 40, 41, 7, 42, 43, 44, 45, 46, 14, 16, 27, 28, 29, 30, 31, 32, 33, 34, 18, 47, 48, 49, 50, 51, 52, 53, 54, 55, 56, 57, 58, 9, 15, 59, 21, 60, 70, 71, 72, 73, 74, 75] (by decide +kernel) (by decide +kernel)
set_option maxRecDepth 20000 in
theorem gX2_isCarriedIfAtSea_X0_isCarried : GoodIn wsX2_isCarriedIfAtSea (wsV RX2 112 RX0 yX0_isCarried wsX0_isCarried) := goodIn_app (goodIn_of _ (by decide +kernel)) ggX2_isCarriedIfAtSea_X0_isCarried
theorem dX2_isCarriedIfAtSea_0 : decode cX2_isCarriedIfAtSea 0 = .ok (.aload_n 0, 1) := by decide +kernel
theorem dX2_isCarriedIfAtSea_1 : decode cX2_isCarriedIfAtSea 1 = .ok (.getfield 24, 3) := by decide +kernel
theorem dX2_isCarriedIfAtSea_4 : decode cX2_isCarriedIfAtSea 4 = .ok (.aload_n 0, 1) := by decide +kernel
theorem dX2_isCarriedIfAtSea_5 : decode cX2_isCarriedIfAtSea 5 = .ok (.getfield 20, 3) := by decide +kernel
theorem dX2_isCarriedIfAtSea_8 : decode cX2_isCarriedIfAtSea 8 = .ok (.invokevirtual 170, 3) := by decide +kernel
theorem dX2_isCarriedIfAtSea_11 : decode cX2_isCarriedIfAtSea 11 = .ok (.iconst 0, 1) := by decide +kernel
theorem dX2_isCarriedIfAtSea_12 : decode cX2_isCarriedIfAtSea 12 = .ok (.istore_n 2, 1) := by decide +kernel
theorem dX2_isCarriedIfAtSea_13 : decode cX2_isCarriedIfAtSea 13 = .ok (.iload_n 2, 1) := by decide +kernel
theorem dX2_isCarriedIfAtSea_14 : decode cX2_isCarriedIfAtSea 14 = .ok (.aload_n 0, 1) := by decide +kernel
theorem dX2_isCarriedIfAtSea_15 : decode cX2_isCarriedIfAtSea 15 = .ok (.getfield 24, 3) := by decide +kernel
theorem dX2_isCarriedIfAtSea_18 : decode cX2_isCarriedIfAtSea 18 = .ok (.getfield 75, 3) := by decide +kernel
theorem dX2_isCarriedIfAtSea_21 : decode cX2_isCarriedIfAtSea 21 = .ok (.if_icmp .ge 27, 3) := by decide +kernel
theorem dX2_isCarriedIfAtSea_24 : decode cX2_isCarriedIfAtSea 24 = .ok (.iload_n 1, 1) := by decide +kernel
theorem dX2_isCarriedIfAtSea_25 : decode cX2_isCarriedIfAtSea 25 = .ok (.iload_n 2, 1) := by decide +kernel
theorem dX2_isCarriedIfAtSea_26 : decode cX2_isCarriedIfAtSea 26 = .ok (.invokestatic 204, 3) := by decide +kernel
theorem dX2_isCarriedIfAtSea_29 : decode cX2_isCarriedIfAtSea 29 = .ok (.ifCond .eq 13, 3) := by decide +kernel
theorem dX2_isCarriedIfAtSea_32 : decode cX2_isCarriedIfAtSea 32 = .ok (.aload_n 0, 1) := by decide +kernel
theorem dX2_isCarriedIfAtSea_33 : decode cX2_isCarriedIfAtSea 33 = .ok (.getfield 24, 3) := by decide +kernel
theorem dX2_isCarriedIfAtSea_36 : decode cX2_isCarriedIfAtSea 36 = .ok (.iload_n 2, 1) := by decide +kernel
theorem dX2_isCarriedIfAtSea_37 : decode cX2_isCarriedIfAtSea 37 = .ok (.iconst 0, 1) := by decide +kernel
theorem dX2_isCarriedIfAtSea_38 : decode cX2_isCarriedIfAtSea 38 = .ok (.invokevirtual 139, 3) := by decide +kernel
theorem dX2_isCarriedIfAtSea_41 : decode cX2_isCarriedIfAtSea 41 = .ok (.pop, 1) := by decide +kernel
theorem dX2_isCarriedIfAtSea_42 : decode cX2_isCarriedIfAtSea 42 = .ok (.iinc 2 1, 3) := by decide +kernel
theorem dX2_isCarriedIfAtSea_45 : decode cX2_isCarriedIfAtSea 45 = .ok (.goto (-32), 3) := by decide +kernel
theorem dX2_isCarriedIfAtSea_48 : decode cX2_isCarriedIfAtSea 48 = .ok (.aload_n 0, 1) := by decide +kernel
theorem dX2_isCarriedIfAtSea_49 : decode cX2_isCarriedIfAtSea 49 = .ok (.getfield 24, 3) := by decide +kernel
theorem dX2_isCarriedIfAtSea_52 : decode cX2_isCarriedIfAtSea 52 = .ok (.invokevirtual 112, 3) := by decide +kernel
theorem dX2_isCarriedIfAtSea_55 : decode cX2_isCarriedIfAtSea 55 = .ok (.ireturn, 1) := by decide +kernel
set_option maxRecDepth 20000 in
theorem ggX2_fairestCuts_J6_bitCount_0f7a4 : GoodIn wsX2_fairestCuts wsJ6_bitCount_0f7a4 := goodIn_r _ [6, 7, 8, 9] (by decide +kernel) (by decide +kernel)
set_option maxRecDepth 20000 in
theorem gX2_fairestCuts_J6_bitCount_0f7a4 : GoodIn wsX2_fairestCuts (va_wsS RX2 152 yJ6_bitCount_0f7a4 wsJ6_bitCount_0f7a4) := goodIn_app (goodIn_of _ (by decide +kernel)) ggX2_fairestCuts_J6_bitCount_0f7a4
set_option maxRecDepth 20000 in
theorem ggX2_fairestCuts_X2_wardsWon : GoodIn wsX2_fairestCuts wsX2_wardsWon := goodIn_r _ [14, 1, 2, 15, 16, 17, 18, 13, 19, 20, 21, 22, 23, 24, 25, 26, 27, 28, 29, 30, 31, 32, 33, 34, 35, 36, 37] (by decide +kernel) (by decide +kernel)
set_option maxRecDepth 20000 in
theorem gX2_fairestCuts_X2_wardsWon : GoodIn wsX2_fairestCuts (wsV RX2 186 RX2 yX2_wardsWon wsX2_wardsWon) := goodIn_app (goodIn_of _ (by decide +kernel)) ggX2_fairestCuts_X2_wardsWon
theorem dX2_fairestCuts_0 : decode cX2_fairestCuts 0 = .ok (.iconst 0, 1) := by decide +kernel
theorem dX2_fairestCuts_1 : decode cX2_fairestCuts 1 = .ok (.istore_n 2, 1) := by decide +kernel
theorem dX2_fairestCuts_2 : decode cX2_fairestCuts 2 = .ok (.iconst (-1), 1) := by decide +kernel
theorem dX2_fairestCuts_3 : decode cX2_fairestCuts 3 = .ok (.istore_n 3, 1) := by decide +kernel
theorem dX2_fairestCuts_4 : decode cX2_fairestCuts 4 = .ok (.iconst 1, 1) := by decide +kernel
theorem dX2_fairestCuts_5 : decode cX2_fairestCuts 5 = .ok (.aload_n 0, 1) := by decide +kernel
theorem dX2_fairestCuts_6 : decode cX2_fairestCuts 6 = .ok (.getfield 20, 3) := by decide +kernel
theorem dX2_fairestCuts_9 : decode cX2_fairestCuts 9 = .ok (.getfield 75, 3) := by decide +kernel
theorem dX2_fairestCuts_12 : decode cX2_fairestCuts 12 = .ok (.iconst 1, 1) := by decide +kernel
theorem dX2_fairestCuts_13 : decode cX2_fairestCuts 13 = .ok (.isub, 1) := by decide +kernel
theorem dX2_fairestCuts_14 : decode cX2_fairestCuts 14 = .ok (.ishl, 1) := by decide +kernel
theorem dX2_fairestCuts_15 : decode cX2_fairestCuts 15 = .ok (.istore 4, 2) := by decide +kernel
theorem dX2_fairestCuts_17 : decode cX2_fairestCuts 17 = .ok (.iconst 2, 1) := by decide +kernel
theorem dX2_fairestCuts_18 : decode cX2_fairestCuts 18 = .ok (.iload 4, 2) := by decide +kernel
theorem dX2_fairestCuts_20 : decode cX2_fairestCuts 20 = .ok (.imul, 1) := by decide +kernel
theorem dX2_fairestCuts_21 : decode cX2_fairestCuts 21 = .ok (.iconst 1, 1) := by decide +kernel
theorem dX2_fairestCuts_22 : decode cX2_fairestCuts 22 = .ok (.isub, 1) := by decide +kernel
theorem dX2_fairestCuts_23 : decode cX2_fairestCuts 23 = .ok (.istore 5, 2) := by decide +kernel
theorem dX2_fairestCuts_25 : decode cX2_fairestCuts 25 = .ok (.iload 5, 2) := by decide +kernel
theorem dX2_fairestCuts_27 : decode cX2_fairestCuts 27 = .ok (.iload 4, 2) := by decide +kernel
theorem dX2_fairestCuts_29 : decode cX2_fairestCuts 29 = .ok (.if_icmp .lt 38, 3) := by decide +kernel
theorem dX2_fairestCuts_32 : decode cX2_fairestCuts 32 = .ok (.iload 5, 2) := by decide +kernel
theorem dX2_fairestCuts_34 : decode cX2_fairestCuts 34 = .ok (.invokestatic 152, 3) := by decide +kernel
theorem dX2_fairestCuts_37 : decode cX2_fairestCuts 37 = .ok (.iload_n 1, 1) := by decide +kernel
theorem dX2_fairestCuts_38 : decode cX2_fairestCuts 38 = .ok (.if_icmp .ne 23, 3) := by decide +kernel
theorem dX2_fairestCuts_41 : decode cX2_fairestCuts 41 = .ok (.aload_n 0, 1) := by decide +kernel
theorem dX2_fairestCuts_42 : decode cX2_fairestCuts 42 = .ok (.iload 5, 2) := by decide +kernel
theorem dX2_fairestCuts_44 : decode cX2_fairestCuts 44 = .ok (.invokevirtual 186, 3) := by decide +kernel
theorem dX2_fairestCuts_47 : decode cX2_fairestCuts 47 = .ok (.iload_n 3, 1) := by decide +kernel
theorem dX2_fairestCuts_48 : decode cX2_fairestCuts 48 = .ok (.if_icmp .le 13, 3) := by decide +kernel
theorem dX2_fairestCuts_51 : decode cX2_fairestCuts 51 = .ok (.iload 5, 2) := by decide +kernel
theorem dX2_fairestCuts_53 : decode cX2_fairestCuts 53 = .ok (.istore_n 2, 1) := by decide +kernel
theorem dX2_fairestCuts_54 : decode cX2_fairestCuts 54 = .ok (.aload_n 0, 1) := by decide +kernel
theorem dX2_fairestCuts_55 : decode cX2_fairestCuts 55 = .ok (.iload 5, 2) := by decide +kernel
theorem dX2_fairestCuts_57 : decode cX2_fairestCuts 57 = .ok (.invokevirtual 186, 3) := by decide +kernel
theorem dX2_fairestCuts_60 : decode cX2_fairestCuts 60 = .ok (.istore_n 3, 1) := by decide +kernel
theorem dX2_fairestCuts_61 : decode cX2_fairestCuts 61 = .ok (.iinc 5 (-1), 3) := by decide +kernel
theorem dX2_fairestCuts_64 : decode cX2_fairestCuts 64 = .ok (.goto (-39), 3) := by decide +kernel
theorem dX2_fairestCuts_67 : decode cX2_fairestCuts 67 = .ok (.iload_n 2, 1) := by decide +kernel
theorem dX2_fairestCuts_68 : decode cX2_fairestCuts 68 = .ok (.ireturn, 1) := by decide +kernel
set_option maxRecDepth 20000 in
theorem ggX2_beginsWard_X2_isIn : GoodIn wsX2_beginsWard wsX2_isIn := goodIn_r _ [6] (by decide +kernel) (by decide +kernel)
set_option maxRecDepth 20000 in
theorem gX2_beginsWard_X2_isIn : GoodIn wsX2_beginsWard (va_wsS RX2 204 yX2_isIn wsX2_isIn) := goodIn_app (goodIn_of _ (by decide +kernel)) ggX2_beginsWard_X2_isIn
theorem dX2_beginsWard_0 : decode cX2_beginsWard 0 = .ok (.iload_n 1, 1) := by decide +kernel
theorem dX2_beginsWard_1 : decode cX2_beginsWard 1 = .ok (.aload_n 0, 1) := by decide +kernel
theorem dX2_beginsWard_2 : decode cX2_beginsWard 2 = .ok (.getfield 20, 3) := by decide +kernel
theorem dX2_beginsWard_5 : decode cX2_beginsWard 5 = .ok (.getfield 75, 3) := by decide +kernel
theorem dX2_beginsWard_8 : decode cX2_beginsWard 8 = .ok (.iconst 1, 1) := by decide +kernel
theorem dX2_beginsWard_9 : decode cX2_beginsWard 9 = .ok (.isub, 1) := by decide +kernel
theorem dX2_beginsWard_10 : decode cX2_beginsWard 10 = .ok (.iload_n 2, 1) := by decide +kernel
theorem dX2_beginsWard_11 : decode cX2_beginsWard 11 = .ok (.isub, 1) := by decide +kernel
theorem dX2_beginsWard_12 : decode cX2_beginsWard 12 = .ok (.invokestatic 204, 3) := by decide +kernel
theorem dX2_beginsWard_15 : decode cX2_beginsWard 15 = .ok (.ireturn, 1) := by decide +kernel
set_option maxRecDepth 20000 in
theorem ggX2_wardsWon_X2_beginsWard : GoodIn wsX2_wardsWon wsX2_beginsWard := goodIn_r _ [8, 1, 2, 9, 10, 7, 11, 12, 13, 14, 15, 16, 17, 18, 19, 20, 21, 22, 23, 24, 25, 26] (by decide +kernel) (by decide +kernel)
set_option maxRecDepth 20000 in
theorem gX2_wardsWon_X2_beginsWard : GoodIn wsX2_wardsWon (wsV RX2 207 RX2 yX2_beginsWard wsX2_beginsWard) := goodIn_app (goodIn_of _ (by decide +kernel)) ggX2_wardsWon_X2_beginsWard
theorem dX2_wardsWon_0 : decode cX2_wardsWon 0 = .ok (.iconst 0, 1) := by decide +kernel
theorem dX2_wardsWon_1 : decode cX2_wardsWon 1 = .ok (.istore_n 2, 1) := by decide +kernel
theorem dX2_wardsWon_2 : decode cX2_wardsWon 2 = .ok (.iconst 0, 1) := by decide +kernel
theorem dX2_wardsWon_3 : decode cX2_wardsWon 3 = .ok (.istore_n 3, 1) := by decide +kernel
theorem dX2_wardsWon_4 : decode cX2_wardsWon 4 = .ok (.iconst 0, 1) := by decide +kernel
theorem dX2_wardsWon_5 : decode cX2_wardsWon 5 = .ok (.istore 4, 2) := by decide +kernel
theorem dX2_wardsWon_7 : decode cX2_wardsWon 7 = .ok (.iload 4, 2) := by decide +kernel
theorem dX2_wardsWon_9 : decode cX2_wardsWon 9 = .ok (.aload_n 0, 1) := by decide +kernel
theorem dX2_wardsWon_10 : decode cX2_wardsWon 10 = .ok (.getfield 20, 3) := by decide +kernel
theorem dX2_wardsWon_13 : decode cX2_wardsWon 13 = .ok (.getfield 75, 3) := by decide +kernel
theorem dX2_wardsWon_16 : decode cX2_wardsWon 16 = .ok (.if_icmp .ge 43, 3) := by decide +kernel
theorem dX2_wardsWon_19 : decode cX2_wardsWon 19 = .ok (.aload_n 0, 1) := by decide +kernel
theorem dX2_wardsWon_20 : decode cX2_wardsWon 20 = .ok (.iload_n 1, 1) := by decide +kernel
theorem dX2_wardsWon_21 : decode cX2_wardsWon 21 = .ok (.iload 4, 2) := by decide +kernel
theorem dX2_wardsWon_23 : decode cX2_wardsWon 23 = .ok (.invokevirtual 207, 3) := by decide +kernel
theorem dX2_wardsWon_26 : decode cX2_wardsWon 26 = .ok (.ifCond .eq 17, 3) := by decide +kernel
theorem dX2_wardsWon_29 : decode cX2_wardsWon 29 = .ok (.iload_n 2, 1) := by decide +kernel
theorem dX2_wardsWon_30 : decode cX2_wardsWon 30 = .ok (.iload_n 3, 1) := by decide +kernel
theorem dX2_wardsWon_31 : decode cX2_wardsWon 31 = .ok (.ifCond .le 7, 3) := by decide +kernel
theorem dX2_wardsWon_34 : decode cX2_wardsWon 34 = .ok (.iconst 1, 1) := by decide +kernel
theorem dX2_wardsWon_35 : decode cX2_wardsWon 35 = .ok (.goto 4, 3) := by decide +kernel
theorem dX2_wardsWon_38 : decode cX2_wardsWon 38 = .ok (.iconst 0, 1) := by decide +kernel
theorem dX2_wardsWon_39 : decode cX2_wardsWon 39 = .ok (.iadd, 1) := by decide +kernel
theorem dX2_wardsWon_40 : decode cX2_wardsWon 40 = .ok (.istore_n 2, 1) := by decide +kernel
theorem dX2_wardsWon_41 : decode cX2_wardsWon 41 = .ok (.iconst 0, 1) := by decide +kernel
theorem dX2_wardsWon_42 : decode cX2_wardsWon 42 = .ok (.istore_n 3, 1) := by decide +kernel
theorem dX2_wardsWon_43 : decode cX2_wardsWon 43 = .ok (.iload_n 3, 1) := by decide +kernel
theorem dX2_wardsWon_44 : decode cX2_wardsWon 44 = .ok (.aload_n 0, 1) := by decide +kernel
theorem dX2_wardsWon_45 : decode cX2_wardsWon 45 = .ok (.getfield 27, 3) := by decide +kernel
theorem dX2_wardsWon_48 : decode cX2_wardsWon 48 = .ok (.iload 4, 2) := by decide +kernel
theorem dX2_wardsWon_50 : decode cX2_wardsWon 50 = .ok (.iaload, 1) := by decide +kernel
theorem dX2_wardsWon_51 : decode cX2_wardsWon 51 = .ok (.iadd, 1) := by decide +kernel
theorem dX2_wardsWon_52 : decode cX2_wardsWon 52 = .ok (.istore_n 3, 1) := by decide +kernel
theorem dX2_wardsWon_53 : decode cX2_wardsWon 53 = .ok (.iinc 4 1, 3) := by decide +kernel
theorem dX2_wardsWon_56 : decode cX2_wardsWon 56 = .ok (.goto (-49), 3) := by decide +kernel
theorem dX2_wardsWon_59 : decode cX2_wardsWon 59 = .ok (.iload_n 3, 1) := by decide +kernel
theorem dX2_wardsWon_60 : decode cX2_wardsWon 60 = .ok (.ifCond .le 9, 3) := by decide +kernel
theorem dX2_wardsWon_63 : decode cX2_wardsWon 63 = .ok (.iload_n 2, 1) := by decide +kernel
theorem dX2_wardsWon_64 : decode cX2_wardsWon 64 = .ok (.iconst 1, 1) := by decide +kernel
theorem dX2_wardsWon_65 : decode cX2_wardsWon 65 = .ok (.iadd, 1) := by decide +kernel
theorem dX2_wardsWon_66 : decode cX2_wardsWon 66 = .ok (.goto 4, 3) := by decide +kernel
theorem dX2_wardsWon_69 : decode cX2_wardsWon 69 = .ok (.iload_n 2, 1) := by decide +kernel
theorem dX2_wardsWon_70 : decode cX2_wardsWon 70 = .ok (.ireturn, 1) := by decide +kernel
set_option maxRecDepth 20000 in
theorem ggX2_firstOfWard_X2_beginsWard : GoodIn wsX2_firstOfWard wsX2_beginsWard := goodIn_r _ [7, 1, 2, 8, 9, 6, 10, 11, 12, 13, 14, 15, 16, 17, 18, 19, 20, 21, 22, 23, 24, 25] (by decide +kernel) (by decide +kernel)
set_option maxRecDepth 20000 in
theorem gX2_firstOfWard_X2_beginsWard : GoodIn wsX2_firstOfWard (wsV RX2 207 RX2 yX2_beginsWard wsX2_beginsWard) := goodIn_app (goodIn_of _ (by decide +kernel)) ggX2_firstOfWard_X2_beginsWard
theorem dX2_firstOfWard_0 : decode cX2_firstOfWard 0 = .ok (.iconst 0, 1) := by decide +kernel
theorem dX2_firstOfWard_1 : decode cX2_firstOfWard 1 = .ok (.istore_n 3, 1) := by decide +kernel
theorem dX2_firstOfWard_2 : decode cX2_firstOfWard 2 = .ok (.iconst 0, 1) := by decide +kernel
theorem dX2_firstOfWard_3 : decode cX2_firstOfWard 3 = .ok (.istore 4, 2) := by decide +kernel
theorem dX2_firstOfWard_5 : decode cX2_firstOfWard 5 = .ok (.iload 4, 2) := by decide +kernel
theorem dX2_firstOfWard_7 : decode cX2_firstOfWard 7 = .ok (.aload_n 0, 1) := by decide +kernel
theorem dX2_firstOfWard_8 : decode cX2_firstOfWard 8 = .ok (.getfield 20, 3) := by decide +kernel
theorem dX2_firstOfWard_11 : decode cX2_firstOfWard 11 = .ok (.getfield 75, 3) := by decide +kernel
theorem dX2_firstOfWard_14 : decode cX2_firstOfWard 14 = .ok (.if_icmp .ge 30, 3) := by decide +kernel
theorem dX2_firstOfWard_17 : decode cX2_firstOfWard 17 = .ok (.aload_n 0, 1) := by decide +kernel
theorem dX2_firstOfWard_18 : decode cX2_firstOfWard 18 = .ok (.iload_n 1, 1) := by decide +kernel
theorem dX2_firstOfWard_19 : decode cX2_firstOfWard 19 = .ok (.iload 4, 2) := by decide +kernel
theorem dX2_firstOfWard_21 : decode cX2_firstOfWard 21 = .ok (.invokevirtual 207, 3) := by decide +kernel
theorem dX2_firstOfWard_24 : decode cX2_firstOfWard 24 = .ok (.ifCond .eq 14, 3) := by decide +kernel
theorem dX2_firstOfWard_27 : decode cX2_firstOfWard 27 = .ok (.iload_n 3, 1) := by decide +kernel
theorem dX2_firstOfWard_28 : decode cX2_firstOfWard 28 = .ok (.iload_n 2, 1) := by decide +kernel
theorem dX2_firstOfWard_29 : decode cX2_firstOfWard 29 = .ok (.if_icmp .ne 6, 3) := by decide +kernel
theorem dX2_firstOfWard_32 : decode cX2_firstOfWard 32 = .ok (.iload 4, 2) := by decide +kernel
theorem dX2_firstOfWard_34 : decode cX2_firstOfWard 34 = .ok (.ireturn, 1) := by decide +kernel
theorem dX2_firstOfWard_35 : decode cX2_firstOfWard 35 = .ok (.iinc 3 1, 3) := by decide +kernel
theorem dX2_firstOfWard_38 : decode cX2_firstOfWard 38 = .ok (.iinc 4 1, 3) := by decide +kernel
theorem dX2_firstOfWard_41 : decode cX2_firstOfWard 41 = .ok (.goto (-36), 3) := by decide +kernel
theorem dX2_firstOfWard_44 : decode cX2_firstOfWard 44 = .ok (.bipush (-9), 2) := by decide +kernel
theorem dX2_firstOfWard_46 : decode cX2_firstOfWard 46 = .ok (.ireturn, 1) := by decide +kernel
theorem dX2_isUpperOrLower_0 : decode cX2_isUpperOrLower 0 = .ok (.iload_n 0, 1) := by decide +kernel
theorem dX2_isUpperOrLower_1 : decode cX2_isUpperOrLower 1 = .ok (.ifCond .eq 8, 3) := by decide +kernel
theorem dX2_isUpperOrLower_4 : decode cX2_isUpperOrLower 4 = .ok (.iload_n 0, 1) := by decide +kernel
theorem dX2_isUpperOrLower_5 : decode cX2_isUpperOrLower 5 = .ok (.iconst 1, 1) := by decide +kernel
theorem dX2_isUpperOrLower_6 : decode cX2_isUpperOrLower 6 = .ok (.if_icmp .ne 7, 3) := by decide +kernel
theorem dX2_isUpperOrLower_9 : decode cX2_isUpperOrLower 9 = .ok (.iconst 1, 1) := by decide +kernel
theorem dX2_isUpperOrLower_10 : decode cX2_isUpperOrLower 10 = .ok (.goto 4, 3) := by decide +kernel
theorem dX2_isUpperOrLower_13 : decode cX2_isUpperOrLower 13 = .ok (.iconst 0, 1) := by decide +kernel
theorem dX2_isUpperOrLower_14 : decode cX2_isUpperOrLower 14 = .ok (.ireturn, 1) := by decide +kernel
theorem dX2_share_0 : decode cX2_share 0 = .ok (.iload_n 0, 1) := by decide +kernel
theorem dX2_share_1 : decode cX2_share 1 = .ok (.istore_n 3, 1) := by decide +kernel
theorem dX2_share_2 : decode cX2_share 2 = .ok (.iload_n 1, 1) := by decide +kernel
theorem dX2_share_3 : decode cX2_share 3 = .ok (.istore 4, 2) := by decide +kernel
theorem dX2_share_5 : decode cX2_share 5 = .ok (.iconst 0, 1) := by decide +kernel
theorem dX2_share_6 : decode cX2_share 6 = .ok (.istore 5, 2) := by decide +kernel
theorem dX2_share_8 : decode cX2_share 8 = .ok (.iload 5, 2) := by decide +kernel
theorem dX2_share_10 : decode cX2_share 10 = .ok (.bipush 8, 2) := by decide +kernel
theorem dX2_share_12 : decode cX2_share 12 = .ok (.if_icmp .ge 31, 3) := by decide +kernel
theorem dX2_share_15 : decode cX2_share 15 = .ok (.iload 4, 2) := by decide +kernel
theorem dX2_share_17 : decode cX2_share 17 = .ok (.iconst 1, 1) := by decide +kernel
theorem dX2_share_18 : decode cX2_share 18 = .ok (.if_icmp .le 25, 3) := by decide +kernel
theorem dX2_share_21 : decode cX2_share 21 = .ok (.iload_n 3, 1) := by decide +kernel
theorem dX2_share_22 : decode cX2_share 22 = .ok (.iconst 1, 1) := by decide +kernel
theorem dX2_share_23 : decode cX2_share 23 = .ok (.iand, 1) := by decide +kernel
theorem dX2_share_24 : decode cX2_share 24 = .ok (.ifCond .ne 19, 3) := by decide +kernel
theorem dX2_share_27 : decode cX2_share 27 = .ok (.iload_n 3, 1) := by decide +kernel
theorem dX2_share_28 : decode cX2_share 28 = .ok (.iconst 2, 1) := by decide +kernel
theorem dX2_share_29 : decode cX2_share 29 = .ok (.idiv, 1) := by decide +kernel
theorem dX2_share_30 : decode cX2_share 30 = .ok (.istore_n 3, 1) := by decide +kernel
theorem dX2_share_31 : decode cX2_share 31 = .ok (.iload 4, 2) := by decide +kernel
theorem dX2_share_33 : decode cX2_share 33 = .ok (.iconst 2, 1) := by decide +kernel
theorem dX2_share_34 : decode cX2_share 34 = .ok (.idiv, 1) := by decide +kernel
theorem dX2_share_35 : decode cX2_share 35 = .ok (.istore 4, 2) := by decide +kernel
theorem dX2_share_37 : decode cX2_share 37 = .ok (.iinc 5 1, 3) := by decide +kernel
theorem dX2_share_40 : decode cX2_share 40 = .ok (.goto (-32), 3) := by decide +kernel
theorem dX2_share_43 : decode cX2_share 43 = .ok (.iload_n 2, 1) := by decide +kernel
theorem dX2_share_44 : decode cX2_share 44 = .ok (.ifCond .ne 8, 3) := by decide +kernel
theorem dX2_share_47 : decode cX2_share 47 = .ok (.iload_n 3, 1) := by decide +kernel
theorem dX2_share_48 : decode cX2_share 48 = .ok (.i2l, 1) := by decide +kernel
theorem dX2_share_49 : decode cX2_share 49 = .ok (.goto 6, 3) := by decide +kernel
theorem dX2_share_52 : decode cX2_share 52 = .ok (.iload 4, 2) := by decide +kernel
theorem dX2_share_54 : decode cX2_share 54 = .ok (.i2l, 1) := by decide +kernel
theorem dX2_share_55 : decode cX2_share 55 = .ok (.lreturn, 1) := by decide +kernel
theorem dX2_isIn_0 : decode cX2_isIn 0 = .ok (.iload_n 0, 1) := by decide +kernel
theorem dX2_isIn_1 : decode cX2_isIn 1 = .ok (.iload_n 1, 1) := by decide +kernel
theorem dX2_isIn_2 : decode cX2_isIn 2 = .ok (.ishr, 1) := by decide +kernel
theorem dX2_isIn_3 : decode cX2_isIn 3 = .ok (.iconst 1, 1) := by decide +kernel
theorem dX2_isIn_4 : decode cX2_isIn 4 = .ok (.iand, 1) := by decide +kernel
theorem dX2_isIn_5 : decode cX2_isIn 5 = .ok (.ifCond .eq 7, 3) := by decide +kernel
theorem dX2_isIn_8 : decode cX2_isIn 8 = .ok (.iconst 1, 1) := by decide +kernel
theorem dX2_isIn_9 : decode cX2_isIn 9 = .ok (.goto 4, 3) := by decide +kernel
theorem dX2_isIn_12 : decode cX2_isIn 12 = .ok (.iconst 0, 1) := by decide +kernel
theorem dX2_isIn_13 : decode cX2_isIn 13 = .ok (.ireturn, 1) := by decide +kernel
set_option maxRecDepth 20000 in
theorem ggX2_reading_X0_has : GoodIn wsX2_reading wsX0_has := goodIn_r _ [9, 10, 20, 21, 22, 23, 24, 25] (by decide +kernel) (by decide +kernel)
set_option maxRecDepth 20000 in
theorem gX2_reading_X0_has : GoodIn wsX2_reading (wsV RX2 78 RX0 yX0_has wsX0_has) := goodIn_app (goodIn_of _ (by decide +kernel)) ggX2_reading_X0_has
theorem dX2_reading_0 : decode cX2_reading 0 = .ok (.aload_n 0, 1) := by decide +kernel
theorem dX2_reading_1 : decode cX2_reading 1 = .ok (.getfield 20, 3) := by decide +kernel
theorem dX2_reading_4 : decode cX2_reading 4 = .ok (.iload_n 1, 1) := by decide +kernel
theorem dX2_reading_5 : decode cX2_reading 5 = .ok (.invokevirtual 78, 3) := by decide +kernel
theorem dX2_reading_8 : decode cX2_reading 8 = .ok (.ifCond .ne 5, 3) := by decide +kernel
theorem dX2_reading_11 : decode cX2_reading 11 = .ok (.iconst (-1), 1) := by decide +kernel
theorem dX2_reading_12 : decode cX2_reading 12 = .ok (.ireturn, 1) := by decide +kernel
theorem dX2_reading_13 : decode cX2_reading 13 = .ok (.iload_n 2, 1) := by decide +kernel
theorem dX2_reading_14 : decode cX2_reading 14 = .ok (.ifCond .lt 9, 3) := by decide +kernel
theorem dX2_reading_17 : decode cX2_reading 17 = .ok (.iload_n 2, 1) := by decide +kernel
theorem dX2_reading_18 : decode cX2_reading 18 = .ok (.bipush 10, 2) := by decide +kernel
theorem dX2_reading_20 : decode cX2_reading 20 = .ok (.if_icmp .le 6, 3) := by decide +kernel
theorem dX2_reading_23 : decode cX2_reading 23 = .ok (.bipush (-2), 2) := by decide +kernel
theorem dX2_reading_25 : decode cX2_reading 25 = .ok (.ireturn, 1) := by decide +kernel
theorem dX2_reading_26 : decode cX2_reading 26 = .ok (.aload_n 0, 1) := by decide +kernel
theorem dX2_reading_27 : decode cX2_reading 27 = .ok (.getfield 37, 3) := by decide +kernel
theorem dX2_reading_30 : decode cX2_reading 30 = .ok (.bipush 8, 2) := by decide +kernel
theorem dX2_reading_32 : decode cX2_reading 32 = .ok (.if_icmp .lt 6, 3) := by decide +kernel
theorem dX2_reading_35 : decode cX2_reading 35 = .ok (.bipush (-4), 2) := by decide +kernel
theorem dX2_reading_37 : decode cX2_reading 37 = .ok (.ireturn, 1) := by decide +kernel
theorem dX2_reading_38 : decode cX2_reading 38 = .ok (.aload_n 0, 1) := by decide +kernel
theorem dX2_reading_39 : decode cX2_reading 39 = .ok (.getfield 31, 3) := by decide +kernel
theorem dX2_reading_42 : decode cX2_reading 42 = .ok (.aload_n 0, 1) := by decide +kernel
theorem dX2_reading_43 : decode cX2_reading 43 = .ok (.getfield 37, 3) := by decide +kernel
theorem dX2_reading_46 : decode cX2_reading 46 = .ok (.iload_n 1, 1) := by decide +kernel
theorem dX2_reading_47 : decode cX2_reading 47 = .ok (.iastore, 1) := by decide +kernel
theorem dX2_reading_48 : decode cX2_reading 48 = .ok (.aload_n 0, 1) := by decide +kernel
theorem dX2_reading_49 : decode cX2_reading 49 = .ok (.getfield 34, 3) := by decide +kernel
theorem dX2_reading_52 : decode cX2_reading 52 = .ok (.aload_n 0, 1) := by decide +kernel
theorem dX2_reading_53 : decode cX2_reading 53 = .ok (.getfield 37, 3) := by decide +kernel
theorem dX2_reading_56 : decode cX2_reading 56 = .ok (.iload_n 2, 1) := by decide +kernel
theorem dX2_reading_57 : decode cX2_reading 57 = .ok (.iastore, 1) := by decide +kernel
theorem dX2_reading_58 : decode cX2_reading 58 = .ok (.aload_n 0, 1) := by decide +kernel
theorem dX2_reading_59 : decode cX2_reading 59 = .ok (.dup, 1) := by decide +kernel
theorem dX2_reading_60 : decode cX2_reading 60 = .ok (.getfield 37, 3) := by decide +kernel
theorem dX2_reading_63 : decode cX2_reading 63 = .ok (.iconst 1, 1) := by decide +kernel
theorem dX2_reading_64 : decode cX2_reading 64 = .ok (.iadd, 1) := by decide +kernel
theorem dX2_reading_65 : decode cX2_reading 65 = .ok (.putfield 37, 3) := by decide +kernel
theorem dX2_reading_68 : decode cX2_reading 68 = .ok (.aload_n 0, 1) := by decide +kernel
theorem dX2_reading_69 : decode cX2_reading 69 = .ok (.getfield 37, 3) := by decide +kernel
theorem dX2_reading_72 : decode cX2_reading 72 = .ok (.iconst 1, 1) := by decide +kernel
theorem dX2_reading_73 : decode cX2_reading 73 = .ok (.isub, 1) := by decide +kernel
theorem dX2_reading_74 : decode cX2_reading 74 = .ok (.ireturn, 1) := by decide +kernel
theorem dX2_back_0 : decode cX2_back 0 = .ok (.iload_n 1, 1) := by decide +kernel
theorem dX2_back_1 : decode cX2_back 1 = .ok (.ifCond .lt 11, 3) := by decide +kernel
theorem dX2_back_4 : decode cX2_back 4 = .ok (.iload_n 1, 1) := by decide +kernel
theorem dX2_back_5 : decode cX2_back 5 = .ok (.aload_n 0, 1) := by decide +kernel
theorem dX2_back_6 : decode cX2_back 6 = .ok (.getfield 37, 3) := by decide +kernel
theorem dX2_back_9 : decode cX2_back 9 = .ok (.if_icmp .le 6, 3) := by decide +kernel
theorem dX2_back_12 : decode cX2_back 12 = .ok (.bipush (-2), 2) := by decide +kernel
theorem dX2_back_14 : decode cX2_back 14 = .ok (.ireturn, 1) := by decide +kernel
theorem dX2_back_15 : decode cX2_back 15 = .ok (.aload_n 0, 1) := by decide +kernel
theorem dX2_back_16 : decode cX2_back 16 = .ok (.dup, 1) := by decide +kernel
theorem dX2_back_17 : decode cX2_back 17 = .ok (.getfield 37, 3) := by decide +kernel
theorem dX2_back_20 : decode cX2_back 20 = .ok (.iload_n 1, 1) := by decide +kernel
theorem dX2_back_21 : decode cX2_back 21 = .ok (.isub, 1) := by decide +kernel
theorem dX2_back_22 : decode cX2_back 22 = .ok (.putfield 37, 3) := by decide +kernel
theorem dX2_back_25 : decode cX2_back 25 = .ok (.aload_n 0, 1) := by decide +kernel
theorem dX2_back_26 : decode cX2_back 26 = .ok (.getfield 37, 3) := by decide +kernel
theorem dX2_back_29 : decode cX2_back 29 = .ok (.ireturn, 1) := by decide +kernel
set_option maxRecDepth 20000 in
theorem ggX2_weights_X0_has : GoodIn wsX2_weights wsX0_has := goodIn_r _ [7, 8, 36, 37, 38, 39, 40, 41] (by decide +kernel) (by decide +kernel)
set_option maxRecDepth 20000 in
theorem gX2_weights_X0_has : GoodIn wsX2_weights (wsV RX2 78 RX0 yX0_has wsX0_has) := goodIn_app (goodIn_of _ (by decide +kernel)) ggX2_weights_X0_has
set_option maxRecDepth 20000 in
theorem ggX2_weights_X2_allReadingsAreSo : GoodIn wsX2_weights wsX2_allReadingsAreSo := goodIn_r _ [13, 14, 15, 1, 16, 17, 18, 12, 19, 20, 21, 22, 6, 23, 24, 25, 26, 4, 5, 7, 8, 27, 28, 29, 30, 31, 32, 33, 34, 35, 36, 37, 38, 39, 40, 41] (by decide +kernel) (by decide +kernel)
set_option maxRecDepth 20000 in
theorem gX2_weights_X2_allReadingsAreSo : GoodIn wsX2_weights (wsV RX2 210 RX2 yX2_allReadingsAreSo wsX2_allReadingsAreSo) := goodIn_app (goodIn_of _ (by decide +kernel)) ggX2_weights_X2_allReadingsAreSo
theorem dX2_weights_0 : decode cX2_weights 0 = .ok (.aload_n 0, 1) := by decide +kernel
theorem dX2_weights_1 : decode cX2_weights 1 = .ok (.getfield 20, 3) := by decide +kernel
theorem dX2_weights_4 : decode cX2_weights 4 = .ok (.iload_n 1, 1) := by decide +kernel
theorem dX2_weights_5 : decode cX2_weights 5 = .ok (.invokevirtual 78, 3) := by decide +kernel
theorem dX2_weights_8 : decode cX2_weights 8 = .ok (.ifCond .ne 5, 3) := by decide +kernel
theorem dX2_weights_11 : decode cX2_weights 11 = .ok (.iconst (-1), 1) := by decide +kernel
theorem dX2_weights_12 : decode cX2_weights 12 = .ok (.ireturn, 1) := by decide +kernel
theorem dX2_weights_13 : decode cX2_weights 13 = .ok (.iconst 0, 1) := by decide +kernel
theorem dX2_weights_14 : decode cX2_weights 14 = .ok (.istore_n 2, 1) := by decide +kernel
theorem dX2_weights_15 : decode cX2_weights 15 = .ok (.iconst 1, 1) := by decide +kernel
theorem dX2_weights_16 : decode cX2_weights 16 = .ok (.istore_n 3, 1) := by decide +kernel
theorem dX2_weights_17 : decode cX2_weights 17 = .ok (.iload_n 3, 1) := by decide +kernel
theorem dX2_weights_18 : decode cX2_weights 18 = .ok (.bipush 9, 2) := by decide +kernel
theorem dX2_weights_20 : decode cX2_weights 20 = .ok (.if_icmp .gt 33, 3) := by decide +kernel
theorem dX2_weights_23 : decode cX2_weights 23 = .ok (.aload_n 0, 1) := by decide +kernel
theorem dX2_weights_24 : decode cX2_weights 24 = .ok (.iload_n 1, 1) := by decide +kernel
theorem dX2_weights_25 : decode cX2_weights 25 = .ok (.aload_n 0, 1) := by decide +kernel
theorem dX2_weights_26 : decode cX2_weights 26 = .ok (.getfield 20, 3) := by decide +kernel
theorem dX2_weights_29 : decode cX2_weights 29 = .ok (.getfield 81, 3) := by decide +kernel
theorem dX2_weights_32 : decode cX2_weights 32 = .ok (.iload_n 1, 1) := by decide +kernel
theorem dX2_weights_33 : decode cX2_weights 33 = .ok (.iaload, 1) := by decide +kernel
theorem dX2_weights_34 : decode cX2_weights 34 = .ok (.iload_n 3, 1) := by decide +kernel
theorem dX2_weights_35 : decode cX2_weights 35 = .ok (.invokevirtual 210, 3) := by decide +kernel
theorem dX2_weights_38 : decode cX2_weights 38 = .ok (.ifCond .eq 9, 3) := by decide +kernel
theorem dX2_weights_41 : decode cX2_weights 41 = .ok (.iload_n 2, 1) := by decide +kernel
theorem dX2_weights_42 : decode cX2_weights 42 = .ok (.iconst 1, 1) := by decide +kernel
theorem dX2_weights_43 : decode cX2_weights 43 = .ok (.iload_n 3, 1) := by decide +kernel
theorem dX2_weights_44 : decode cX2_weights 44 = .ok (.ishl, 1) := by decide +kernel
theorem dX2_weights_45 : decode cX2_weights 45 = .ok (.ior, 1) := by decide +kernel
theorem dX2_weights_46 : decode cX2_weights 46 = .ok (.istore_n 2, 1) := by decide +kernel
theorem dX2_weights_47 : decode cX2_weights 47 = .ok (.iinc 3 1, 3) := by decide +kernel
theorem dX2_weights_50 : decode cX2_weights 50 = .ok (.goto (-33), 3) := by decide +kernel
theorem dX2_weights_53 : decode cX2_weights 53 = .ok (.iload_n 2, 1) := by decide +kernel
theorem dX2_weights_54 : decode cX2_weights 54 = .ok (.ireturn, 1) := by decide +kernel
set_option maxRecDepth 20000 in
theorem ggX2_kinds_X0_has : GoodIn wsX2_kinds wsX0_has := goodIn_r _ [7, 8, 36, 37, 38, 39, 40, 41] (by decide +kernel) (by decide +kernel)
set_option maxRecDepth 20000 in
theorem gX2_kinds_X0_has : GoodIn wsX2_kinds (wsV RX2 78 RX0 yX0_has wsX0_has) := goodIn_app (goodIn_of _ (by decide +kernel)) ggX2_kinds_X0_has
set_option maxRecDepth 20000 in
theorem ggX2_kinds_X2_allReadingsAreSo : GoodIn wsX2_kinds wsX2_allReadingsAreSo := goodIn_r _ [13, 14, 15, 1, 16, 17, 18, 12, 19, 20, 21, 22, 6, 23, 24, 25, 26, 4, 5, 7, 8, 27, 28, 29, 30, 31, 32, 33, 34, 35, 36, 37, 38, 39, 40, 41] (by decide +kernel) (by decide +kernel)
set_option maxRecDepth 20000 in
theorem gX2_kinds_X2_allReadingsAreSo : GoodIn wsX2_kinds (wsV RX2 210 RX2 yX2_allReadingsAreSo wsX2_allReadingsAreSo) := goodIn_app (goodIn_of _ (by decide +kernel)) ggX2_kinds_X2_allReadingsAreSo
theorem dX2_kinds_0 : decode cX2_kinds 0 = .ok (.aload_n 0, 1) := by decide +kernel
theorem dX2_kinds_1 : decode cX2_kinds 1 = .ok (.getfield 20, 3) := by decide +kernel
theorem dX2_kinds_4 : decode cX2_kinds 4 = .ok (.iload_n 1, 1) := by decide +kernel
theorem dX2_kinds_5 : decode cX2_kinds 5 = .ok (.invokevirtual 78, 3) := by decide +kernel
theorem dX2_kinds_8 : decode cX2_kinds 8 = .ok (.ifCond .ne 5, 3) := by decide +kernel
theorem dX2_kinds_11 : decode cX2_kinds 11 = .ok (.iconst (-1), 1) := by decide +kernel
theorem dX2_kinds_12 : decode cX2_kinds 12 = .ok (.ireturn, 1) := by decide +kernel
theorem dX2_kinds_13 : decode cX2_kinds 13 = .ok (.iconst 0, 1) := by decide +kernel
theorem dX2_kinds_14 : decode cX2_kinds 14 = .ok (.istore_n 2, 1) := by decide +kernel
theorem dX2_kinds_15 : decode cX2_kinds 15 = .ok (.iconst 0, 1) := by decide +kernel
theorem dX2_kinds_16 : decode cX2_kinds 16 = .ok (.istore_n 3, 1) := by decide +kernel
theorem dX2_kinds_17 : decode cX2_kinds 17 = .ok (.iload_n 3, 1) := by decide +kernel
theorem dX2_kinds_18 : decode cX2_kinds 18 = .ok (.iconst 2, 1) := by decide +kernel
theorem dX2_kinds_19 : decode cX2_kinds 19 = .ok (.if_icmp .gt 33, 3) := by decide +kernel
theorem dX2_kinds_22 : decode cX2_kinds 22 = .ok (.aload_n 0, 1) := by decide +kernel
theorem dX2_kinds_23 : decode cX2_kinds 23 = .ok (.iload_n 1, 1) := by decide +kernel
theorem dX2_kinds_24 : decode cX2_kinds 24 = .ok (.iload_n 3, 1) := by decide +kernel
theorem dX2_kinds_25 : decode cX2_kinds 25 = .ok (.aload_n 0, 1) := by decide +kernel
theorem dX2_kinds_26 : decode cX2_kinds 26 = .ok (.getfield 20, 3) := by decide +kernel
theorem dX2_kinds_29 : decode cX2_kinds 29 = .ok (.getfield 87, 3) := by decide +kernel
theorem dX2_kinds_32 : decode cX2_kinds 32 = .ok (.iload_n 1, 1) := by decide +kernel
theorem dX2_kinds_33 : decode cX2_kinds 33 = .ok (.iaload, 1) := by decide +kernel
theorem dX2_kinds_34 : decode cX2_kinds 34 = .ok (.invokevirtual 210, 3) := by decide +kernel
theorem dX2_kinds_37 : decode cX2_kinds 37 = .ok (.ifCond .eq 9, 3) := by decide +kernel
theorem dX2_kinds_40 : decode cX2_kinds 40 = .ok (.iload_n 2, 1) := by decide +kernel
theorem dX2_kinds_41 : decode cX2_kinds 41 = .ok (.iconst 1, 1) := by decide +kernel
theorem dX2_kinds_42 : decode cX2_kinds 42 = .ok (.iload_n 3, 1) := by decide +kernel
theorem dX2_kinds_43 : decode cX2_kinds 43 = .ok (.ishl, 1) := by decide +kernel
theorem dX2_kinds_44 : decode cX2_kinds 44 = .ok (.ior, 1) := by decide +kernel
theorem dX2_kinds_45 : decode cX2_kinds 45 = .ok (.istore_n 2, 1) := by decide +kernel
theorem dX2_kinds_46 : decode cX2_kinds 46 = .ok (.iinc 3 1, 3) := by decide +kernel
theorem dX2_kinds_49 : decode cX2_kinds 49 = .ok (.goto (-32), 3) := by decide +kernel
theorem dX2_kinds_52 : decode cX2_kinds 52 = .ok (.iload_n 2, 1) := by decide +kernel
theorem dX2_kinds_53 : decode cX2_kinds 53 = .ok (.ireturn, 1) := by decide +kernel
set_option maxRecDepth 20000 in
theorem ggX2_odds_X2_hasFront : GoodIn wsX2_odds wsX2_hasFront := goodIn_r _ [8, 1, 3, 56, 57, 58, 59, 60, 61, 62, 63, 64, 65, 66, 67, 68, 69, 70] (by decide +kernel) (by decide +kernel)
set_option maxRecDepth 20000 in
theorem gX2_odds_X2_hasFront : GoodIn wsX2_odds (wsV RX2 105 RX2 yX2_hasFront wsX2_hasFront) := goodIn_app (goodIn_of _ (by decide +kernel)) ggX2_odds_X2_hasFront
set_option maxRecDepth 20000 in
theorem ggX2_odds_X0_has : GoodIn wsX2_odds wsX0_has := goodIn_r _ [13, 14, 65, 66, 67, 68, 69, 70] (by decide +kernel) (by decide +kernel)
set_option maxRecDepth 20000 in
theorem gX2_odds_X0_has : GoodIn wsX2_odds (wsV RX2 78 RX0 yX0_has wsX0_has) := goodIn_app (goodIn_of _ (by decide +kernel)) ggX2_odds_X0_has
set_option maxRecDepth 20000 in
theorem ggX2_odds_X2_isUpperOrLower : GoodIn wsX2_odds wsX2_isUpperOrLower := goodIn_r _ [17] (by decide +kernel) (by decide +kernel)
set_option maxRecDepth 20000 in
theorem gX2_odds_X2_isUpperOrLower : GoodIn wsX2_odds (va_wsS RX2 192 yX2_isUpperOrLower wsX2_isUpperOrLower) := goodIn_app (goodIn_of _ (by decide +kernel)) ggX2_odds_X2_isUpperOrLower
set_option maxRecDepth 20000 in
theorem ggX2_odds_X2_waysThatCarry : GoodIn wsX2_odds wsX2_waysThatCarry := goodIn_r _ [21, 1, 22, 23, 24, 12, 25, 14, 26, 7, 27, 28, 29, 30, 31, 32, 33, 34, 35, 36, 37, 38, 39, 40, 41, 42, 43, 10, 11, 13, 44, 45, 56, 57, 58, 59, 60, 61, 62, 63, 64, 65, 66, 67, 68, 69, 70] (by decide +kernel) (by decide +kernel)
set_option maxRecDepth 20000 in
theorem gX2_odds_X2_waysThatCarry : GoodIn wsX2_odds (wsV RX2 214 RX2 yX2_waysThatCarry wsX2_waysThatCarry) := goodIn_app (goodIn_of _ (by decide +kernel)) ggX2_odds_X2_waysThatCarry
set_option maxRecDepth 20000 in
theorem ggX2_odds_X2_share : GoodIn wsX2_odds wsX2_share := goodIn_r _ [48] (by decide +kernel) (by decide +kernel)
set_option maxRecDepth 20000 in
theorem gX2_odds_X2_share : GoodIn wsX2_odds (va_wsS RX2 200 yX2_share wsX2_share) := goodIn_app (goodIn_of _ (by decide +kernel)) ggX2_odds_X2_share
set_option maxRecDepth 20000 in
theorem ggX2_odds_X0_isFolded : GoodIn wsX2_odds wsX0_isFolded := goodIn_r _ [35, 36, 65, 66, 67, 68, 69, 70] (by decide +kernel) (by decide +kernel)
set_option maxRecDepth 20000 in
theorem gX2_odds_X0_isFolded : GoodIn wsX2_odds (wsV RX2 93 RX0 yX0_isFolded wsX0_isFolded) := goodIn_app (goodIn_of _ (by decide +kernel)) ggX2_odds_X0_isFolded
set_option maxRecDepth 20000 in
theorem ggX2_odds_X2_waysDecidedBy : GoodIn wsX2_odds wsX2_waysDecidedBy := goodIn_r _ [53, 1, 22, 23, 24, 12, 25, 14, 26, 7, 27, 28, 29, 30, 31, 32, 33, 34, 35, 36, 37, 38, 39, 40, 41, 42, 43, 10, 11, 13, 44, 45, 54, 55, 56, 57, 58, 59, 60, 61, 62, 63, 64, 65, 66, 67, 68, 69, 70] (by decide +kernel) (by decide +kernel)
set_option maxRecDepth 20000 in
theorem gX2_odds_X2_waysDecidedBy : GoodIn wsX2_odds (wsV RX2 217 RX2 yX2_waysDecidedBy wsX2_waysDecidedBy) := goodIn_app (goodIn_of _ (by decide +kernel)) ggX2_odds_X2_waysDecidedBy
theorem dX2_odds_0 : decode cX2_odds 0 = .ok (.aload_n 0, 1) := by decide +kernel
theorem dX2_odds_1 : decode cX2_odds 1 = .ok (.invokevirtual 105, 3) := by decide +kernel
theorem dX2_odds_4 : decode cX2_odds 4 = .ok (.ifCond .eq 26, 3) := by decide +kernel
theorem dX2_odds_7 : decode cX2_odds 7 = .ok (.iload_n 1, 1) := by decide +kernel
theorem dX2_odds_8 : decode cX2_odds 8 = .ok (.iconst (-1), 1) := by decide +kernel
theorem dX2_odds_9 : decode cX2_odds 9 = .ok (.if_icmp .eq 14, 3) := by decide +kernel
theorem dX2_odds_12 : decode cX2_odds 12 = .ok (.aload_n 0, 1) := by decide +kernel
theorem dX2_odds_13 : decode cX2_odds 13 = .ok (.getfield 20, 3) := by decide +kernel
theorem dX2_odds_16 : decode cX2_odds 16 = .ok (.iload_n 1, 1) := by decide +kernel
theorem dX2_odds_17 : decode cX2_odds 17 = .ok (.invokevirtual 78, 3) := by decide +kernel
theorem dX2_odds_20 : decode cX2_odds 20 = .ok (.ifCond .eq 10, 3) := by decide +kernel
theorem dX2_odds_23 : decode cX2_odds 23 = .ok (.iload_n 2, 1) := by decide +kernel
theorem dX2_odds_24 : decode cX2_odds 24 = .ok (.invokestatic 192, 3) := by decide +kernel
theorem dX2_odds_27 : decode cX2_odds 27 = .ok (.ifCond .ne 7, 3) := by decide +kernel
theorem dX2_odds_30 : decode cX2_odds 30 = .ok (.ldc2_w 195, 3) := by decide +kernel
theorem dX2_odds_33 : decode cX2_odds 33 = .ok (.lreturn, 1) := by decide +kernel
theorem dX2_odds_34 : decode cX2_odds 34 = .ok (.iconst 1, 1) := by decide +kernel
theorem dX2_odds_35 : decode cX2_odds 35 = .ok (.aload_n 0, 1) := by decide +kernel
theorem dX2_odds_36 : decode cX2_odds 36 = .ok (.getfield 20, 3) := by decide +kernel
theorem dX2_odds_39 : decode cX2_odds 39 = .ok (.getfield 75, 3) := by decide +kernel
theorem dX2_odds_42 : decode cX2_odds 42 = .ok (.ishl, 1) := by decide +kernel
theorem dX2_odds_43 : decode cX2_odds 43 = .ok (.istore_n 3, 1) := by decide +kernel
theorem dX2_odds_44 : decode cX2_odds 44 = .ok (.iload_n 1, 1) := by decide +kernel
theorem dX2_odds_45 : decode cX2_odds 45 = .ok (.iconst (-1), 1) := by decide +kernel
theorem dX2_odds_46 : decode cX2_odds 46 = .ok (.if_icmp .ne 14, 3) := by decide +kernel
theorem dX2_odds_49 : decode cX2_odds 49 = .ok (.aload_n 0, 1) := by decide +kernel
theorem dX2_odds_50 : decode cX2_odds 50 = .ok (.iload_n 3, 1) := by decide +kernel
theorem dX2_odds_51 : decode cX2_odds 51 = .ok (.invokevirtual 214, 3) := by decide +kernel
theorem dX2_odds_54 : decode cX2_odds 54 = .ok (.iload_n 3, 1) := by decide +kernel
theorem dX2_odds_55 : decode cX2_odds 55 = .ok (.iload_n 2, 1) := by decide +kernel
theorem dX2_odds_56 : decode cX2_odds 56 = .ok (.invokestatic 200, 3) := by decide +kernel
theorem dX2_odds_59 : decode cX2_odds 59 = .ok (.lreturn, 1) := by decide +kernel
theorem dX2_odds_60 : decode cX2_odds 60 = .ok (.aload_n 0, 1) := by decide +kernel
theorem dX2_odds_61 : decode cX2_odds 61 = .ok (.getfield 20, 3) := by decide +kernel
theorem dX2_odds_64 : decode cX2_odds 64 = .ok (.iload_n 1, 1) := by decide +kernel
theorem dX2_odds_65 : decode cX2_odds 65 = .ok (.invokevirtual 93, 3) := by decide +kernel
theorem dX2_odds_68 : decode cX2_odds 68 = .ok (.ifCond .eq 7, 3) := by decide +kernel
theorem dX2_odds_71 : decode cX2_odds 71 = .ok (.ldc2_w 195, 3) := by decide +kernel
theorem dX2_odds_74 : decode cX2_odds 74 = .ok (.lreturn, 1) := by decide +kernel
theorem dX2_odds_75 : decode cX2_odds 75 = .ok (.aload_n 0, 1) := by decide +kernel
theorem dX2_odds_76 : decode cX2_odds 76 = .ok (.iload_n 1, 1) := by decide +kernel
theorem dX2_odds_77 : decode cX2_odds 77 = .ok (.iload_n 3, 1) := by decide +kernel
theorem dX2_odds_78 : decode cX2_odds 78 = .ok (.invokevirtual 217, 3) := by decide +kernel
theorem dX2_odds_81 : decode cX2_odds 81 = .ok (.iload_n 3, 1) := by decide +kernel
theorem dX2_odds_82 : decode cX2_odds 82 = .ok (.iconst 2, 1) := by decide +kernel
theorem dX2_odds_83 : decode cX2_odds 83 = .ok (.idiv, 1) := by decide +kernel
theorem dX2_odds_84 : decode cX2_odds 84 = .ok (.iload_n 2, 1) := by decide +kernel
theorem dX2_odds_85 : decode cX2_odds 85 = .ok (.invokestatic 200, 3) := by decide +kernel
theorem dX2_odds_88 : decode cX2_odds 88 = .ok (.lreturn, 1) := by decide +kernel
set_option maxRecDepth 20000 in
theorem ggX2_allReadingsAreSo_X2_votesAs : GoodIn wsX2_allReadingsAreSo wsX2_votesAs := goodIn_r _ [8] (by decide +kernel) (by decide +kernel)
set_option maxRecDepth 20000 in
theorem gX2_allReadingsAreSo_X2_votesAs : GoodIn wsX2_allReadingsAreSo (va_wsS RX2 220 yX2_votesAs wsX2_votesAs) := goodIn_app (goodIn_of _ (by decide +kernel)) ggX2_allReadingsAreSo_X2_votesAs
set_option maxRecDepth 20000 in
theorem ggX2_allReadingsAreSo_X0_votesWhenOpen : GoodIn wsX2_allReadingsAreSo wsX0_votesWhenOpen := goodIn_r _ [13, 14, 15, 16, 17, 18, 12, 19, 20, 6, 7, 8, 30, 31, 32, 33, 34, 35] (by decide +kernel) (by decide +kernel)
set_option maxRecDepth 20000 in
theorem gX2_allReadingsAreSo_X0_votesWhenOpen : GoodIn wsX2_allReadingsAreSo (wsV RX2 223 RX0 yX0_votesWhenOpen wsX0_votesWhenOpen) := goodIn_app (goodIn_of _ (by decide +kernel)) ggX2_allReadingsAreSo_X0_votesWhenOpen
theorem dX2_allReadingsAreSo_0 : decode cX2_allReadingsAreSo 0 = .ok (.iconst 0, 1) := by decide +kernel
theorem dX2_allReadingsAreSo_1 : decode cX2_allReadingsAreSo 1 = .ok (.istore 4, 2) := by decide +kernel
theorem dX2_allReadingsAreSo_3 : decode cX2_allReadingsAreSo 3 = .ok (.iload 4, 2) := by decide +kernel
theorem dX2_allReadingsAreSo_5 : decode cX2_allReadingsAreSo 5 = .ok (.aload_n 0, 1) := by decide +kernel
theorem dX2_allReadingsAreSo_6 : decode cX2_allReadingsAreSo 6 = .ok (.getfield 37, 3) := by decide +kernel
theorem dX2_allReadingsAreSo_9 : decode cX2_allReadingsAreSo 9 = .ok (.if_icmp .ge 57, 3) := by decide +kernel
theorem dX2_allReadingsAreSo_12 : decode cX2_allReadingsAreSo 12 = .ok (.aload_n 0, 1) := by decide +kernel
theorem dX2_allReadingsAreSo_13 : decode cX2_allReadingsAreSo 13 = .ok (.getfield 31, 3) := by decide +kernel
theorem dX2_allReadingsAreSo_16 : decode cX2_allReadingsAreSo 16 = .ok (.iload 4, 2) := by decide +kernel
theorem dX2_allReadingsAreSo_18 : decode cX2_allReadingsAreSo 18 = .ok (.iaload, 1) := by decide +kernel
theorem dX2_allReadingsAreSo_19 : decode cX2_allReadingsAreSo 19 = .ok (.istore 5, 2) := by decide +kernel
