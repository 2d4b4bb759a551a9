theorem dX2_allReadingsAreSo_21 : decode cX2_allReadingsAreSo 21 = .ok (.iload 5, 2) := by decide +kernel
theorem dX2_allReadingsAreSo_23 : decode cX2_allReadingsAreSo 23 = .ok (.iload_n 1, 1) := by decide +kernel
theorem dX2_allReadingsAreSo_24 : decode cX2_allReadingsAreSo 24 = .ok (.if_icmp .ne 11, 3) := by decide +kernel
theorem dX2_allReadingsAreSo_27 : decode cX2_allReadingsAreSo 27 = .ok (.iload_n 2, 1) := by decide +kernel
theorem dX2_allReadingsAreSo_28 : decode cX2_allReadingsAreSo 28 = .ok (.iload_n 3, 1) := by decide +kernel
theorem dX2_allReadingsAreSo_29 : decode cX2_allReadingsAreSo 29 = .ok (.invokestatic 220, 3) := by decide +kernel
theorem dX2_allReadingsAreSo_32 : decode cX2_allReadingsAreSo 32 = .ok (.goto 12, 3) := by decide +kernel
theorem dX2_allReadingsAreSo_35 : decode cX2_allReadingsAreSo 35 = .ok (.aload_n 0, 1) := by decide +kernel
theorem dX2_allReadingsAreSo_36 : decode cX2_allReadingsAreSo 36 = .ok (.getfield 20, 3) := by decide +kernel
theorem dX2_allReadingsAreSo_39 : decode cX2_allReadingsAreSo 39 = .ok (.iload 5, 2) := by decide +kernel
theorem dX2_allReadingsAreSo_41 : decode cX2_allReadingsAreSo 41 = .ok (.invokevirtual 223, 3) := by decide +kernel
theorem dX2_allReadingsAreSo_44 : decode cX2_allReadingsAreSo 44 = .ok (.istore 6, 2) := by decide +kernel
theorem dX2_allReadingsAreSo_46 : decode cX2_allReadingsAreSo 46 = .ok (.iload 6, 2) := by decide +kernel
theorem dX2_allReadingsAreSo_48 : decode cX2_allReadingsAreSo 48 = .ok (.aload_n 0, 1) := by decide +kernel
theorem dX2_allReadingsAreSo_49 : decode cX2_allReadingsAreSo 49 = .ok (.getfield 34, 3) := by decide +kernel
theorem dX2_allReadingsAreSo_52 : decode cX2_allReadingsAreSo 52 = .ok (.iload 4, 2) := by decide +kernel
theorem dX2_allReadingsAreSo_54 : decode cX2_allReadingsAreSo 54 = .ok (.iaload, 1) := by decide +kernel
theorem dX2_allReadingsAreSo_55 : decode cX2_allReadingsAreSo 55 = .ok (.if_icmp .eq 5, 3) := by decide +kernel
theorem dX2_allReadingsAreSo_58 : decode cX2_allReadingsAreSo 58 = .ok (.iconst 0, 1) := by decide +kernel
theorem dX2_allReadingsAreSo_59 : decode cX2_allReadingsAreSo 59 = .ok (.ireturn, 1) := by decide +kernel
theorem dX2_allReadingsAreSo_60 : decode cX2_allReadingsAreSo 60 = .ok (.iinc 4 1, 3) := by decide +kernel
theorem dX2_allReadingsAreSo_63 : decode cX2_allReadingsAreSo 63 = .ok (.goto (-60), 3) := by decide +kernel
theorem dX2_allReadingsAreSo_66 : decode cX2_allReadingsAreSo 66 = .ok (.iconst 1, 1) := by decide +kernel
theorem dX2_allReadingsAreSo_67 : decode cX2_allReadingsAreSo 67 = .ok (.ireturn, 1) := by decide +kernel
set_option maxRecDepth 20000 in
theorem ggX2_waysThatCarry_X0_votesIn : GoodIn wsX2_waysThatCarry wsX0_votesIn := goodIn_r _ [6, 7, 8, 9, 10, 11, 12, 13, 5, 14, 15, 16, 17, 18, 19, 20, 21, 22, 23, 24, 25, 26, 27, 28, 29, 30, 31, 41, 42, 43, 44, 45, 46] (by decide +kernel) (by decide +kernel)
set_option maxRecDepth 20000 in
theorem gX2_waysThatCarry_X0_votesIn : GoodIn wsX2_waysThatCarry (wsV RX2 226 RX0 yX0_votesIn wsX0_votesIn) := goodIn_app (goodIn_of _ (by decide +kernel)) ggX2_waysThatCarry_X0_votesIn
theorem dX2_waysThatCarry_0 : decode cX2_waysThatCarry 0 = .ok (.aload_n 0, 1) := by decide +kernel
theorem dX2_waysThatCarry_1 : decode cX2_waysThatCarry 1 = .ok (.getfield 20, 3) := by decide +kernel
theorem dX2_waysThatCarry_4 : decode cX2_waysThatCarry 4 = .ok (.iload_n 1, 1) := by decide +kernel
theorem dX2_waysThatCarry_5 : decode cX2_waysThatCarry 5 = .ok (.iconst 1, 1) := by decide +kernel
theorem dX2_waysThatCarry_6 : decode cX2_waysThatCarry 6 = .ok (.isub, 1) := by decide +kernel
theorem dX2_waysThatCarry_7 : decode cX2_waysThatCarry 7 = .ok (.invokevirtual 226, 3) := by decide +kernel
theorem dX2_waysThatCarry_10 : decode cX2_waysThatCarry 10 = .ok (.istore_n 2, 1) := by decide +kernel
theorem dX2_waysThatCarry_11 : decode cX2_waysThatCarry 11 = .ok (.iconst 0, 1) := by decide +kernel
theorem dX2_waysThatCarry_12 : decode cX2_waysThatCarry 12 = .ok (.istore_n 3, 1) := by decide +kernel
theorem dX2_waysThatCarry_13 : decode cX2_waysThatCarry 13 = .ok (.iconst 0, 1) := by decide +kernel
theorem dX2_waysThatCarry_14 : decode cX2_waysThatCarry 14 = .ok (.istore 4, 2) := by decide +kernel
theorem dX2_waysThatCarry_16 : decode cX2_waysThatCarry 16 = .ok (.iload 4, 2) := by decide +kernel
theorem dX2_waysThatCarry_18 : decode cX2_waysThatCarry 18 = .ok (.iload_n 1, 1) := by decide +kernel
theorem dX2_waysThatCarry_19 : decode cX2_waysThatCarry 19 = .ok (.if_icmp .ge 27, 3) := by decide +kernel
theorem dX2_waysThatCarry_22 : decode cX2_waysThatCarry 22 = .ok (.iconst 2, 1) := by decide +kernel
theorem dX2_waysThatCarry_23 : decode cX2_waysThatCarry 23 = .ok (.aload_n 0, 1) := by decide +kernel
theorem dX2_waysThatCarry_24 : decode cX2_waysThatCarry 24 = .ok (.getfield 20, 3) := by decide +kernel
theorem dX2_waysThatCarry_27 : decode cX2_waysThatCarry 27 = .ok (.iload 4, 2) := by decide +kernel
theorem dX2_waysThatCarry_29 : decode cX2_waysThatCarry 29 = .ok (.invokevirtual 226, 3) := by decide +kernel
theorem dX2_waysThatCarry_32 : decode cX2_waysThatCarry 32 = .ok (.imul, 1) := by decide +kernel
theorem dX2_waysThatCarry_33 : decode cX2_waysThatCarry 33 = .ok (.iload_n 2, 1) := by decide +kernel
theorem dX2_waysThatCarry_34 : decode cX2_waysThatCarry 34 = .ok (.if_icmp .le 6, 3) := by decide +kernel
theorem dX2_waysThatCarry_37 : decode cX2_waysThatCarry 37 = .ok (.iinc 3 1, 3) := by decide +kernel
theorem dX2_waysThatCarry_40 : decode cX2_waysThatCarry 40 = .ok (.iinc 4 1, 3) := by decide +kernel
theorem dX2_waysThatCarry_43 : decode cX2_waysThatCarry 43 = .ok (.goto (-27), 3) := by decide +kernel
theorem dX2_waysThatCarry_46 : decode cX2_waysThatCarry 46 = .ok (.iload_n 3, 1) := by decide +kernel
theorem dX2_waysThatCarry_47 : decode cX2_waysThatCarry 47 = .ok (.ireturn, 1) := by decide +kernel
set_option maxRecDepth 20000 in
theorem ggX2_waysDecidedBy_X0_votesIn : GoodIn wsX2_waysDecidedBy wsX0_votesIn := goodIn_r _ [6, 7, 8, 9, 10, 11, 12, 13, 5, 14, 15, 16, 17, 18, 19, 20, 21, 22, 23, 24, 25, 26, 27, 28, 29, 30, 31, 43, 44, 45, 46, 47, 48] (by decide +kernel) (by decide +kernel)
set_option maxRecDepth 20000 in
theorem gX2_waysDecidedBy_X0_votesIn : GoodIn wsX2_waysDecidedBy (wsV RX2 226 RX0 yX0_votesIn wsX0_votesIn) := goodIn_app (goodIn_of _ (by decide +kernel)) ggX2_waysDecidedBy_X0_votesIn
set_option maxRecDepth 20000 in
theorem ggX2_waysDecidedBy_X0_votes : GoodIn wsX2_waysDecidedBy wsX0_votes := goodIn_r _ [14, 15, 16, 17, 5, 18, 19, 20, 21, 22, 23, 24, 25, 26, 27, 28, 29, 7, 30, 9, 31, 43, 44, 45, 46, 47, 48] (by decide +kernel) (by decide +kernel)
set_option maxRecDepth 20000 in
theorem gX2_waysDecidedBy_X0_votes : GoodIn wsX2_waysDecidedBy (wsV RX2 96 RX0 yX0_votes wsX0_votes) := goodIn_app (goodIn_of _ (by decide +kernel)) ggX2_waysDecidedBy_X0_votes
set_option maxRecDepth 20000 in
theorem ggX2_waysDecidedBy_X2_isIn : GoodIn wsX2_waysDecidedBy wsX2_isIn := goodIn_r _ [10] (by decide +kernel) (by decide +kernel)
set_option maxRecDepth 20000 in
theorem gX2_waysDecidedBy_X2_isIn : GoodIn wsX2_waysDecidedBy (va_wsS RX2 204 yX2_isIn wsX2_isIn) := goodIn_app (goodIn_of _ (by decide +kernel)) ggX2_waysDecidedBy_X2_isIn
theorem dX2_waysDecidedBy_0 : decode cX2_waysDecidedBy 0 = .ok (.aload_n 0, 1) := by decide +kernel
theorem dX2_waysDecidedBy_1 : decode cX2_waysDecidedBy 1 = .ok (.getfield 20, 3) := by decide +kernel
theorem dX2_waysDecidedBy_4 : decode cX2_waysDecidedBy 4 = .ok (.iload_n 2, 1) := by decide +kernel
theorem dX2_waysDecidedBy_5 : decode cX2_waysDecidedBy 5 = .ok (.iconst 1, 1) := by decide +kernel
theorem dX2_waysDecidedBy_6 : decode cX2_waysDecidedBy 6 = .ok (.isub, 1) := by decide +kernel
theorem dX2_waysDecidedBy_7 : decode cX2_waysDecidedBy 7 = .ok (.invokevirtual 226, 3) := by decide +kernel
theorem dX2_waysDecidedBy_10 : decode cX2_waysDecidedBy 10 = .ok (.istore_n 3, 1) := by decide +kernel
theorem dX2_waysDecidedBy_11 : decode cX2_waysDecidedBy 11 = .ok (.iconst 2, 1) := by decide +kernel
theorem dX2_waysDecidedBy_12 : decode cX2_waysDecidedBy 12 = .ok (.aload_n 0, 1) := by decide +kernel
theorem dX2_waysDecidedBy_13 : decode cX2_waysDecidedBy 13 = .ok (.getfield 20, 3) := by decide +kernel
theorem dX2_waysDecidedBy_16 : decode cX2_waysDecidedBy 16 = .ok (.iload_n 1, 1) := by decide +kernel
theorem dX2_waysDecidedBy_17 : decode cX2_waysDecidedBy 17 = .ok (.invokevirtual 96, 3) := by decide +kernel
theorem dX2_waysDecidedBy_20 : decode cX2_waysDecidedBy 20 = .ok (.imul, 1) := by decide +kernel
theorem dX2_waysDecidedBy_21 : decode cX2_waysDecidedBy 21 = .ok (.istore 4, 2) := by decide +kernel
theorem dX2_waysDecidedBy_23 : decode cX2_waysDecidedBy 23 = .ok (.iconst 0, 1) := by decide +kernel
theorem dX2_waysDecidedBy_24 : decode cX2_waysDecidedBy 24 = .ok (.istore 5, 2) := by decide +kernel
theorem dX2_waysDecidedBy_26 : decode cX2_waysDecidedBy 26 = .ok (.iconst 0, 1) := by decide +kernel
theorem dX2_waysDecidedBy_27 : decode cX2_waysDecidedBy 27 = .ok (.istore 6, 2) := by decide +kernel
theorem dX2_waysDecidedBy_29 : decode cX2_waysDecidedBy 29 = .ok (.iload 6, 2) := by decide +kernel
theorem dX2_waysDecidedBy_31 : decode cX2_waysDecidedBy 31 = .ok (.iload_n 2, 1) := by decide +kernel
theorem dX2_waysDecidedBy_32 : decode cX2_waysDecidedBy 32 = .ok (.if_icmp .ge 56, 3) := by decide +kernel
theorem dX2_waysDecidedBy_35 : decode cX2_waysDecidedBy 35 = .ok (.iload 6, 2) := by decide +kernel
theorem dX2_waysDecidedBy_37 : decode cX2_waysDecidedBy 37 = .ok (.iload_n 1, 1) := by decide +kernel
theorem dX2_waysDecidedBy_38 : decode cX2_waysDecidedBy 38 = .ok (.invokestatic 204, 3) := by decide +kernel
theorem dX2_waysDecidedBy_41 : decode cX2_waysDecidedBy 41 = .ok (.ifCond .ne 41, 3) := by decide +kernel
theorem dX2_waysDecidedBy_44 : decode cX2_waysDecidedBy 44 = .ok (.iconst 2, 1) := by decide +kernel
theorem dX2_waysDecidedBy_45 : decode cX2_waysDecidedBy 45 = .ok (.aload_n 0, 1) := by decide +kernel
theorem dX2_waysDecidedBy_46 : decode cX2_waysDecidedBy 46 = .ok (.getfield 20, 3) := by decide +kernel
theorem dX2_waysDecidedBy_49 : decode cX2_waysDecidedBy 49 = .ok (.iload 6, 2) := by decide +kernel
theorem dX2_waysDecidedBy_51 : decode cX2_waysDecidedBy 51 = .ok (.invokevirtual 226, 3) := by decide +kernel
theorem dX2_waysDecidedBy_54 : decode cX2_waysDecidedBy 54 = .ok (.imul, 1) := by decide +kernel
theorem dX2_waysDecidedBy_55 : decode cX2_waysDecidedBy 55 = .ok (.istore 7, 2) := by decide +kernel
theorem dX2_waysDecidedBy_57 : decode cX2_waysDecidedBy 57 = .ok (.iload 5, 2) := by decide +kernel
theorem dX2_waysDecidedBy_59 : decode cX2_waysDecidedBy 59 = .ok (.iload 7, 2) := by decide +kernel
theorem dX2_waysDecidedBy_61 : decode cX2_waysDecidedBy 61 = .ok (.iload_n 3, 1) := by decide +kernel
theorem dX2_waysDecidedBy_62 : decode cX2_waysDecidedBy 62 = .ok (.if_icmp .gt 16, 3) := by decide +kernel
theorem dX2_waysDecidedBy_65 : decode cX2_waysDecidedBy 65 = .ok (.iload 7, 2) := by decide +kernel
theorem dX2_waysDecidedBy_67 : decode cX2_waysDecidedBy 67 = .ok (.iload 4, 2) := by decide +kernel
theorem dX2_waysDecidedBy_69 : decode cX2_waysDecidedBy 69 = .ok (.iadd, 1) := by decide +kernel
theorem dX2_waysDecidedBy_70 : decode cX2_waysDecidedBy 70 = .ok (.iload_n 3, 1) := by decide +kernel
theorem dX2_waysDecidedBy_71 : decode cX2_waysDecidedBy 71 = .ok (.if_icmp .le 7, 3) := by decide +kernel
theorem dX2_waysDecidedBy_74 : decode cX2_waysDecidedBy 74 = .ok (.iconst 1, 1) := by decide +kernel
theorem dX2_waysDecidedBy_75 : decode cX2_waysDecidedBy 75 = .ok (.goto 4, 3) := by decide +kernel
theorem dX2_waysDecidedBy_78 : decode cX2_waysDecidedBy 78 = .ok (.iconst 0, 1) := by decide +kernel
theorem dX2_waysDecidedBy_79 : decode cX2_waysDecidedBy 79 = .ok (.iadd, 1) := by decide +kernel
theorem dX2_waysDecidedBy_80 : decode cX2_waysDecidedBy 80 = .ok (.istore 5, 2) := by decide +kernel
theorem dX2_waysDecidedBy_82 : decode cX2_waysDecidedBy 82 = .ok (.iinc 6 1, 3) := by decide +kernel
theorem dX2_waysDecidedBy_85 : decode cX2_waysDecidedBy 85 = .ok (.goto (-56), 3) := by decide +kernel
theorem dX2_waysDecidedBy_88 : decode cX2_waysDecidedBy 88 = .ok (.iload 5, 2) := by decide +kernel
theorem dX2_waysDecidedBy_90 : decode cX2_waysDecidedBy 90 = .ok (.ireturn, 1) := by decide +kernel
theorem dX2_votesAs_0 : decode cX2_votesAs 0 = .ok (.iload_n 0, 1) := by decide +kernel
theorem dX2_votesAs_1 : decode cX2_votesAs 1 = .ok (.lookupswitch 33 #[(0, 27), (1, 29)], 27) := by decide +kernel
theorem dX2_votesAs_28 : decode cX2_votesAs 28 = .ok (.iload_n 1, 1) := by decide +kernel
theorem dX2_votesAs_29 : decode cX2_votesAs 29 = .ok (.ireturn, 1) := by decide +kernel
theorem dX2_votesAs_30 : decode cX2_votesAs 30 = .ok (.iload_n 1, 1) := by decide +kernel
theorem dX2_votesAs_31 : decode cX2_votesAs 31 = .ok (.iconst 1, 1) := by decide +kernel
theorem dX2_votesAs_32 : decode cX2_votesAs 32 = .ok (.iadd, 1) := by decide +kernel
theorem dX2_votesAs_33 : decode cX2_votesAs 33 = .ok (.ireturn, 1) := by decide +kernel
theorem dX2_votesAs_34 : decode cX2_votesAs 34 = .ok (.iload_n 1, 1) := by decide +kernel
theorem dX2_votesAs_35 : decode cX2_votesAs 35 = .ok (.iconst 1, 1) := by decide +kernel
theorem dX2_votesAs_36 : decode cX2_votesAs 36 = .ok (.iadd, 1) := by decide +kernel
theorem dX2_votesAs_37 : decode cX2_votesAs 37 = .ok (.iconst 2, 1) := by decide +kernel
theorem dX2_votesAs_38 : decode cX2_votesAs 38 = .ok (.idiv, 1) := by decide +kernel
theorem dX2_votesAs_39 : decode cX2_votesAs 39 = .ok (.ireturn, 1) := by decide +kernel
set_option maxRecDepth 20000 in
theorem ggX2_sheet_X2_sheetAt : GoodIn wsX2_sheet wsX2_sheetAt := goodIn_r _ [6, 7, 28, 29, 30, 31, 32, 33, 34, 35, 36] (by decide +kernel) (by decide +kernel)
set_option maxRecDepth 20000 in
theorem gX2_sheet_X2_sheetAt : GoodIn wsX2_sheet (wsV RX2 48 RX2 yX2_sheetAt wsX2_sheetAt) := goodIn_app (goodIn_of _ (by decide +kernel)) ggX2_sheet_X2_sheetAt
set_option maxRecDepth 20000 in
theorem ggX2_sheet_X2_isLane : GoodIn wsX2_sheet wsX2_isLane := goodIn_r _ [10] (by decide +kernel) (by decide +kernel)
set_option maxRecDepth 20000 in
theorem gX2_sheet_X2_isLane : GoodIn wsX2_sheet (va_wsS RX2 52 yX2_isLane wsX2_isLane) := goodIn_app (goodIn_of _ (by decide +kernel)) ggX2_sheet_X2_isLane
set_option maxRecDepth 20000 in
theorem ggX2_sheet_X2_faulted : GoodIn wsX2_sheet wsX2_faulted := goodIn_r _ [14, 1, 28, 29, 30, 31, 32, 33, 34, 35, 36] (by decide +kernel) (by decide +kernel)
set_option maxRecDepth 20000 in
theorem gX2_sheet_X2_faulted : GoodIn wsX2_sheet (wsV RX2 60 RX2 yX2_faulted wsX2_faulted) := goodIn_app (goodIn_of _ (by decide +kernel)) ggX2_sheet_X2_faulted
set_option maxRecDepth 20000 in
theorem ggX2_sheet_X1_getsRow : GoodIn wsX2_sheet wsX1_getsRow := goodIn_r _ [19, 20, 21, 22, 23, 24, 25, 26, 27, 37, 38, 39, 40] (by decide +kernel) (by decide +kernel)
set_option maxRecDepth 20000 in
theorem gX2_sheet_X1_getsRow : GoodIn wsX2_sheet (wsV RX2 229 RX1 yX1_getsRow wsX1_getsRow) := goodIn_app (goodIn_of _ (by decide +kernel)) ggX2_sheet_X1_getsRow
theorem dX2_sheet_0 : decode cX2_sheet 0 = .ok (.aload_n 0, 1) := by decide +kernel
theorem dX2_sheet_1 : decode cX2_sheet 1 = .ok (.iconst 0, 1) := by decide +kernel
theorem dX2_sheet_2 : decode cX2_sheet 2 = .ok (.putfield 44, 3) := by decide +kernel
theorem dX2_sheet_5 : decode cX2_sheet 5 = .ok (.aload_n 0, 1) := by decide +kernel
theorem dX2_sheet_6 : decode cX2_sheet 6 = .ok (.iload_n 1, 1) := by decide +kernel
theorem dX2_sheet_7 : decode cX2_sheet 7 = .ok (.invokevirtual 48, 3) := by decide +kernel
theorem dX2_sheet_10 : decode cX2_sheet 10 = .ok (.astore 4, 2) := by decide +kernel
theorem dX2_sheet_12 : decode cX2_sheet 12 = .ok (.aload 4, 2) := by decide +kernel
theorem dX2_sheet_14 : decode cX2_sheet 14 = .ok (.ifnonnull 5, 3) := by decide +kernel
theorem dX2_sheet_17 : decode cX2_sheet 17 = .ok (.iconst (-1), 1) := by decide +kernel
theorem dX2_sheet_18 : decode cX2_sheet 18 = .ok (.ireturn, 1) := by decide +kernel
theorem dX2_sheet_19 : decode cX2_sheet 19 = .ok (.iload_n 2, 1) := by decide +kernel
theorem dX2_sheet_20 : decode cX2_sheet 20 = .ok (.invokestatic 52, 3) := by decide +kernel
theorem dX2_sheet_23 : decode cX2_sheet 23 = .ok (.ifCond .eq 9, 3) := by decide +kernel
theorem dX2_sheet_26 : decode cX2_sheet 26 = .ok (.iload_n 3, 1) := by decide +kernel
theorem dX2_sheet_27 : decode cX2_sheet 27 = .ok (.bipush 60, 2) := by decide +kernel
theorem dX2_sheet_29 : decode cX2_sheet 29 = .ok (.if_icmp .le 6, 3) := by decide +kernel
theorem dX2_sheet_32 : decode cX2_sheet 32 = .ok (.bipush (-2), 2) := by decide +kernel
theorem dX2_sheet_34 : decode cX2_sheet 34 = .ok (.ireturn, 1) := by decide +kernel
theorem dX2_sheet_35 : decode cX2_sheet 35 = .ok (.iload_n 3, 1) := by decide +kernel
theorem dX2_sheet_36 : decode cX2_sheet 36 = .ok (.ifCond .ge 9, 3) := by decide +kernel
theorem dX2_sheet_39 : decode cX2_sheet 39 = .ok (.aload_n 0, 1) := by decide +kernel
theorem dX2_sheet_40 : decode cX2_sheet 40 = .ok (.iconst 4, 1) := by decide +kernel
theorem dX2_sheet_41 : decode cX2_sheet 41 = .ok (.invokevirtual 60, 3) := by decide +kernel
theorem dX2_sheet_44 : decode cX2_sheet 44 = .ok (.ireturn, 1) := by decide +kernel
theorem dX2_sheet_45 : decode cX2_sheet 45 = .ok (.aload 4, 2) := by decide +kernel
theorem dX2_sheet_47 : decode cX2_sheet 47 = .ok (.iload_n 2, 1) := by decide +kernel
theorem dX2_sheet_48 : decode cX2_sheet 48 = .ok (.iload_n 3, 1) := by decide +kernel
theorem dX2_sheet_49 : decode cX2_sheet 49 = .ok (.invokevirtual 229, 3) := by decide +kernel
theorem dX2_sheet_52 : decode cX2_sheet 52 = .ok (.iconst 1, 1) := by decide +kernel
theorem dX2_sheet_53 : decode cX2_sheet 53 = .ok (.ireturn, 1) := by decide +kernel
set_option maxRecDepth 20000 in
theorem ggX2_lose_X2_sheetAt : GoodIn wsX2_lose wsX2_sheetAt := goodIn_r _ [6, 7, 12, 13, 14, 15, 16, 17, 18, 19, 20] (by decide +kernel) (by decide +kernel)
set_option maxRecDepth 20000 in
theorem gX2_lose_X2_sheetAt : GoodIn wsX2_lose (wsV RX2 48 RX2 yX2_sheetAt wsX2_sheetAt) := goodIn_app (goodIn_of _ (by decide +kernel)) ggX2_lose_X2_sheetAt
theorem dX2_lose_0 : decode cX2_lose 0 = .ok (.aload_n 0, 1) := by decide +kernel
theorem dX2_lose_1 : decode cX2_lose 1 = .ok (.iload_n 1, 1) := by decide +kernel
theorem dX2_lose_2 : decode cX2_lose 2 = .ok (.invokevirtual 48, 3) := by decide +kernel
theorem dX2_lose_5 : decode cX2_lose 5 = .ok (.astore_n 2, 1) := by decide +kernel
theorem dX2_lose_6 : decode cX2_lose 6 = .ok (.aload_n 2, 1) := by decide +kernel
theorem dX2_lose_7 : decode cX2_lose 7 = .ok (.ifnonnull 5, 3) := by decide +kernel
theorem dX2_lose_10 : decode cX2_lose 10 = .ok (.iconst (-1), 1) := by decide +kernel
theorem dX2_lose_11 : decode cX2_lose 11 = .ok (.ireturn, 1) := by decide +kernel
theorem dX2_lose_12 : decode cX2_lose 12 = .ok (.aload_n 2, 1) := by decide +kernel
theorem dX2_lose_13 : decode cX2_lose 13 = .ok (.getfield 233, 3) := by decide +kernel
theorem dX2_lose_16 : decode cX2_lose 16 = .ok (.istore_n 3, 1) := by decide +kernel
theorem dX2_lose_17 : decode cX2_lose 17 = .ok (.aload_n 2, 1) := by decide +kernel
theorem dX2_lose_18 : decode cX2_lose 18 = .ok (.iconst 0, 1) := by decide +kernel
theorem dX2_lose_19 : decode cX2_lose 19 = .ok (.putfield 233, 3) := by decide +kernel
theorem dX2_lose_22 : decode cX2_lose 22 = .ok (.iload_n 3, 1) := by decide +kernel
theorem dX2_lose_23 : decode cX2_lose 23 = .ok (.ifCond .eq 7, 3) := by decide +kernel
theorem dX2_lose_26 : decode cX2_lose 26 = .ok (.iconst 1, 1) := by decide +kernel
theorem dX2_lose_27 : decode cX2_lose 27 = .ok (.goto 4, 3) := by decide +kernel
theorem dX2_lose_30 : decode cX2_lose 30 = .ok (.iconst 0, 1) := by decide +kernel
theorem dX2_lose_31 : decode cX2_lose 31 = .ok (.ireturn, 1) := by decide +kernel
set_option maxRecDepth 20000 in
theorem ggX2_put_X2_sheetAt : GoodIn wsX2_put wsX2_sheetAt := goodIn_r _ [7, 8, 30, 31, 32, 33, 34, 35, 36, 37, 38] (by decide +kernel) (by decide +kernel)
set_option maxRecDepth 20000 in
theorem gX2_put_X2_sheetAt : GoodIn wsX2_put (wsV RX2 48 RX2 yX2_sheetAt wsX2_sheetAt) := goodIn_app (goodIn_of _ (by decide +kernel)) ggX2_put_X2_sheetAt
set_option maxRecDepth 20000 in
theorem ggX2_put_X2_faulted : GoodIn wsX2_put wsX2_faulted := goodIn_r _ [12, 1, 30, 31, 32, 33, 34, 35, 36, 37, 38] (by decide +kernel) (by decide +kernel)
set_option maxRecDepth 20000 in
theorem gX2_put_X2_faulted : GoodIn wsX2_put (wsV RX2 60 RX2 yX2_faulted wsX2_faulted) := goodIn_app (goodIn_of _ (by decide +kernel)) ggX2_put_X2_faulted
set_option maxRecDepth 20000 in
theorem ggX2_put_X1_holds : GoodIn wsX2_put wsX1_holds := goodIn_r _ [17, 18, 39, 40, 41, 42] (by decide +kernel) (by decide +kernel)
set_option maxRecDepth 20000 in
theorem gX2_put_X1_holds : GoodIn wsX2_put (wsV RX2 63 RX1 yX1_holds wsX1_holds) := goodIn_app (goodIn_of _ (by decide +kernel)) ggX2_put_X1_holds
set_option maxRecDepth 20000 in
theorem ggX2_put_X1_becomesAt : GoodIn wsX2_put wsX1_becomesAt := goodIn_r _ [22, 23, 24, 14, 15, 16, 17, 18, 25, 26, 27, 28, 29, 39, 40, 41, 42] (by decide +kernel) (by decide +kernel)
set_option maxRecDepth 20000 in
theorem gX2_put_X1_becomesAt : GoodIn wsX2_put (wsV RX2 237 RX1 yX1_becomesAt wsX1_becomesAt) := goodIn_app (goodIn_of _ (by decide +kernel)) ggX2_put_X1_becomesAt
theorem dX2_put_0 : decode cX2_put 0 = .ok (.aload_n 0, 1) := by decide +kernel
theorem dX2_put_1 : decode cX2_put 1 = .ok (.iconst 0, 1) := by decide +kernel
theorem dX2_put_2 : decode cX2_put 2 = .ok (.putfield 44, 3) := by decide +kernel
theorem dX2_put_5 : decode cX2_put 5 = .ok (.aload_n 0, 1) := by decide +kernel
theorem dX2_put_6 : decode cX2_put 6 = .ok (.iload_n 1, 1) := by decide +kernel
theorem dX2_put_7 : decode cX2_put 7 = .ok (.invokevirtual 48, 3) := by decide +kernel
theorem dX2_put_10 : decode cX2_put 10 = .ok (.astore 4, 2) := by decide +kernel
theorem dX2_put_12 : decode cX2_put 12 = .ok (.aload 4, 2) := by decide +kernel
theorem dX2_put_14 : decode cX2_put 14 = .ok (.ifnonnull 5, 3) := by decide +kernel
theorem dX2_put_17 : decode cX2_put 17 = .ok (.iconst (-1), 1) := by decide +kernel
theorem dX2_put_18 : decode cX2_put 18 = .ok (.ireturn, 1) := by decide +kernel
theorem dX2_put_19 : decode cX2_put 19 = .ok (.aload 4, 2) := by decide +kernel
theorem dX2_put_21 : decode cX2_put 21 = .ok (.getfield 233, 3) := by decide +kernel
theorem dX2_put_24 : decode cX2_put 24 = .ok (.ifCond .ne 9, 3) := by decide +kernel
theorem dX2_put_27 : decode cX2_put 27 = .ok (.aload_n 0, 1) := by decide +kernel
theorem dX2_put_28 : decode cX2_put 28 = .ok (.iconst 1, 1) := by decide +kernel
theorem dX2_put_29 : decode cX2_put 29 = .ok (.invokevirtual 60, 3) := by decide +kernel
theorem dX2_put_32 : decode cX2_put 32 = .ok (.ireturn, 1) := by decide +kernel
theorem dX2_put_33 : decode cX2_put 33 = .ok (.aload 4, 2) := by decide +kernel
theorem dX2_put_35 : decode cX2_put 35 = .ok (.iload_n 2, 1) := by decide +kernel
theorem dX2_put_36 : decode cX2_put 36 = .ok (.iconst 1, 1) := by decide +kernel
theorem dX2_put_37 : decode cX2_put 37 = .ok (.invokevirtual 63, 3) := by decide +kernel
theorem dX2_put_40 : decode cX2_put 40 = .ok (.ifCond .ne 9, 3) := by decide +kernel
theorem dX2_put_43 : decode cX2_put 43 = .ok (.aload_n 0, 1) := by decide +kernel
theorem dX2_put_44 : decode cX2_put 44 = .ok (.iconst 3, 1) := by decide +kernel
theorem dX2_put_45 : decode cX2_put 45 = .ok (.invokevirtual 60, 3) := by decide +kernel
theorem dX2_put_48 : decode cX2_put 48 = .ok (.ireturn, 1) := by decide +kernel
theorem dX2_put_49 : decode cX2_put 49 = .ok (.aload 4, 2) := by decide +kernel
theorem dX2_put_51 : decode cX2_put 51 = .ok (.iload_n 2, 1) := by decide +kernel
theorem dX2_put_52 : decode cX2_put 52 = .ok (.iload_n 3, 1) := by decide +kernel
theorem dX2_put_53 : decode cX2_put 53 = .ok (.invokevirtual 237, 3) := by decide +kernel
theorem dX2_put_56 : decode cX2_put 56 = .ok (.iconst 1, 1) := by decide +kernel
theorem dX2_put_57 : decode cX2_put 57 = .ok (.ireturn, 1) := by decide +kernel
set_option maxRecDepth 20000 in
theorem ggX2_cell_X2_sheetAt : GoodIn wsX2_cell wsX2_sheetAt := goodIn_r _ [7, 8, 30, 31, 32, 33, 34, 35, 36, 37, 38] (by decide +kernel) (by decide +kernel)
set_option maxRecDepth 20000 in
theorem gX2_cell_X2_sheetAt : GoodIn wsX2_cell (wsV RX2 48 RX2 yX2_sheetAt wsX2_sheetAt) := goodIn_app (goodIn_of _ (by decide +kernel)) ggX2_cell_X2_sheetAt
set_option maxRecDepth 20000 in
theorem ggX2_cell_X2_isLane : GoodIn wsX2_cell wsX2_isLane := goodIn_r _ [11] (by decide +kernel) (by decide +kernel)
set_option maxRecDepth 20000 in
theorem gX2_cell_X2_isLane : GoodIn wsX2_cell (va_wsS RX2 52 yX2_isLane wsX2_isLane) := goodIn_app (goodIn_of _ (by decide +kernel)) ggX2_cell_X2_isLane
set_option maxRecDepth 20000 in
theorem ggX2_cell_X1_faultAs : GoodIn wsX2_cell wsX1_faultAs := goodIn_r _ [16, 17, 18, 39, 40, 41, 42] (by decide +kernel) (by decide +kernel)
set_option maxRecDepth 20000 in
theorem gX2_cell_X1_faultAs : GoodIn wsX2_cell (wsV RX2 56 RX1 yX1_faultAs wsX1_faultAs) := goodIn_app (goodIn_of _ (by decide +kernel)) ggX2_cell_X1_faultAs
set_option maxRecDepth 20000 in
theorem ggX2_cell_X1_holds : GoodIn wsX2_cell wsX1_holds := goodIn_r _ [22, 23, 39, 40, 41, 42] (by decide +kernel) (by decide +kernel)
set_option maxRecDepth 20000 in
theorem gX2_cell_X1_holds : GoodIn wsX2_cell (wsV RX2 63 RX1 yX1_holds wsX1_holds) := goodIn_app (goodIn_of _ (by decide +kernel)) ggX2_cell_X1_holds
set_option maxRecDepth 20000 in
theorem ggX2_cell_X1_at : GoodIn wsX2_cell wsX1_at := goodIn_r _ [27, 28, 29, 20, 21, 15, 22, 23, 39, 40, 41, 42] (by decide +kernel) (by decide +kernel)
set_option maxRecDepth 20000 in
theorem gX2_cell_X1_at : GoodIn wsX2_cell (wsV RX2 118 RX1 yX1_at wsX1_at) := goodIn_app (goodIn_of _ (by decide +kernel)) ggX2_cell_X1_at
theorem dX2_cell_0 : decode cX2_cell 0 = .ok (.aload_n 0, 1) := by decide +kernel
theorem dX2_cell_1 : decode cX2_cell 1 = .ok (.iconst 0, 1) := by decide +kernel
theorem dX2_cell_2 : decode cX2_cell 2 = .ok (.putfield 44, 3) := by decide +kernel
theorem dX2_cell_5 : decode cX2_cell 5 = .ok (.aload_n 0, 1) := by decide +kernel
theorem dX2_cell_6 : decode cX2_cell 6 = .ok (.iload_n 1, 1) := by decide +kernel
theorem dX2_cell_7 : decode cX2_cell 7 = .ok (.invokevirtual 48, 3) := by decide +kernel
theorem dX2_cell_10 : decode cX2_cell 10 = .ok (.astore 4, 2) := by decide +kernel
theorem dX2_cell_12 : decode cX2_cell 12 = .ok (.aload 4, 2) := by decide +kernel
theorem dX2_cell_14 : decode cX2_cell 14 = .ok (.ifnull 10, 3) := by decide +kernel
theorem dX2_cell_17 : decode cX2_cell 17 = .ok (.iload_n 3, 1) := by decide +kernel
theorem dX2_cell_18 : decode cX2_cell 18 = .ok (.invokestatic 52, 3) := by decide +kernel
theorem dX2_cell_21 : decode cX2_cell 21 = .ok (.ifCond .ne 7, 3) := by decide +kernel
theorem dX2_cell_24 : decode cX2_cell 24 = .ok (.ldc2_w 195, 3) := by decide +kernel
theorem dX2_cell_27 : decode cX2_cell 27 = .ok (.lreturn, 1) := by decide +kernel
theorem dX2_cell_28 : decode cX2_cell 28 = .ok (.aload_n 0, 1) := by decide +kernel
theorem dX2_cell_29 : decode cX2_cell 29 = .ok (.aload 4, 2) := by decide +kernel
theorem dX2_cell_31 : decode cX2_cell 31 = .ok (.iload_n 3, 1) := by decide +kernel
theorem dX2_cell_32 : decode cX2_cell 32 = .ok (.invokevirtual 56, 3) := by decide +kernel
theorem dX2_cell_35 : decode cX2_cell 35 = .ok (.putfield 44, 3) := by decide +kernel
theorem dX2_cell_38 : decode cX2_cell 38 = .ok (.aload_n 0, 1) := by decide +kernel
theorem dX2_cell_39 : decode cX2_cell 39 = .ok (.getfield 44, 3) := by decide +kernel
theorem dX2_cell_42 : decode cX2_cell 42 = .ok (.ifCond .ne 18, 3) := by decide +kernel
theorem dX2_cell_45 : decode cX2_cell 45 = .ok (.aload 4, 2) := by decide +kernel
theorem dX2_cell_47 : decode cX2_cell 47 = .ok (.iload_n 2, 1) := by decide +kernel
theorem dX2_cell_48 : decode cX2_cell 48 = .ok (.iconst 1, 1) := by decide +kernel
theorem dX2_cell_49 : decode cX2_cell 49 = .ok (.invokevirtual 63, 3) := by decide +kernel
theorem dX2_cell_52 : decode cX2_cell 52 = .ok (.ifCond .ne 8, 3) := by decide +kernel
theorem dX2_cell_55 : decode cX2_cell 55 = .ok (.aload_n 0, 1) := by decide +kernel
theorem dX2_cell_56 : decode cX2_cell 56 = .ok (.iconst 3, 1) := by decide +kernel
theorem dX2_cell_57 : decode cX2_cell 57 = .ok (.putfield 44, 3) := by decide +kernel
theorem dX2_cell_60 : decode cX2_cell 60 = .ok (.aload_n 0, 1) := by decide +kernel
theorem dX2_cell_61 : decode cX2_cell 61 = .ok (.getfield 44, 3) := by decide +kernel
theorem dX2_cell_64 : decode cX2_cell 64 = .ok (.ifCond .ne 13, 3) := by decide +kernel
theorem dX2_cell_67 : decode cX2_cell 67 = .ok (.aload 4, 2) := by decide +kernel
theorem dX2_cell_69 : decode cX2_cell 69 = .ok (.iload_n 2, 1) := by decide +kernel
theorem dX2_cell_70 : decode cX2_cell 70 = .ok (.invokevirtual 118, 3) := by decide +kernel
theorem dX2_cell_73 : decode cX2_cell 73 = .ok (.i2l, 1) := by decide +kernel
theorem dX2_cell_74 : decode cX2_cell 74 = .ok (.goto 6, 3) := by decide +kernel
theorem dX2_cell_77 : decode cX2_cell 77 = .ok (.ldc2_w 195, 3) := by decide +kernel
theorem dX2_cell_80 : decode cX2_cell 80 = .ok (.lreturn, 1) := by decide +kernel
set_option maxRecDepth 20000 in
theorem ggX2_copy_X2_sheetAt : GoodIn wsX2_copy wsX2_sheetAt := goodIn_r _ [13, 14, 25, 26, 27, 28, 29, 30, 31, 32, 33] (by decide +kernel) (by decide +kernel)
set_option maxRecDepth 20000 in
theorem gX2_copy_X2_sheetAt : GoodIn wsX2_copy (wsV RX2 48 RX2 yX2_sheetAt wsX2_sheetAt) := goodIn_app (goodIn_of _ (by decide +kernel)) ggX2_copy_X2_sheetAt
set_option maxRecDepth 20000 in
theorem ggX2_copy_X2_faulted : GoodIn wsX2_copy wsX2_faulted := goodIn_r _ [18, 1, 25, 26, 27, 28, 29, 30, 31, 32, 33] (by decide +kernel) (by decide +kernel)
set_option maxRecDepth 20000 in
theorem gX2_copy_X2_faulted : GoodIn wsX2_copy (wsV RX2 60 RX2 yX2_faulted wsX2_faulted) := goodIn_app (goodIn_of _ (by decide +kernel)) ggX2_copy_X2_faulted
set_option maxRecDepth 20000 in
theorem ggX2_copy_X1_holds : GoodIn wsX2_copy wsX1_holds := goodIn_r _ [23, 24, 34, 35, 36, 37] (by decide +kernel) (by decide +kernel)
set_option maxRecDepth 20000 in
theorem gX2_copy_X1_holds : GoodIn wsX2_copy (wsV RX2 63 RX1 yX1_holds wsX1_holds) := goodIn_app (goodIn_of _ (by decide +kernel)) ggX2_copy_X1_holds
theorem dX2_copy_0 : decode cX2_copy 0 = .ok (.aload_n 0, 1) := by decide +kernel
theorem dX2_copy_1 : decode cX2_copy 1 = .ok (.iconst 0, 1) := by decide +kernel
theorem dX2_copy_2 : decode cX2_copy 2 = .ok (.putfield 44, 3) := by decide +kernel
theorem dX2_copy_5 : decode cX2_copy 5 = .ok (.aload_n 0, 1) := by decide +kernel
theorem dX2_copy_6 : decode cX2_copy 6 = .ok (.iload_n 1, 1) := by decide +kernel
theorem dX2_copy_7 : decode cX2_copy 7 = .ok (.invokevirtual 48, 3) := by decide +kernel
theorem dX2_copy_10 : decode cX2_copy 10 = .ok (.astore 6, 2) := by decide +kernel
theorem dX2_copy_12 : decode cX2_copy 12 = .ok (.aload_n 0, 1) := by decide +kernel
theorem dX2_copy_13 : decode cX2_copy 13 = .ok (.iload_n 3, 1) := by decide +kernel
theorem dX2_copy_14 : decode cX2_copy 14 = .ok (.invokevirtual 48, 3) := by decide +kernel
theorem dX2_copy_17 : decode cX2_copy 17 = .ok (.astore 7, 2) := by decide +kernel
theorem dX2_copy_19 : decode cX2_copy 19 = .ok (.aload 6, 2) := by decide +kernel
theorem dX2_copy_21 : decode cX2_copy 21 = .ok (.ifnull 8, 3) := by decide +kernel
theorem dX2_copy_24 : decode cX2_copy 24 = .ok (.aload 7, 2) := by decide +kernel
theorem dX2_copy_26 : decode cX2_copy 26 = .ok (.ifnonnull 5, 3) := by decide +kernel
theorem dX2_copy_29 : decode cX2_copy 29 = .ok (.iconst (-1), 1) := by decide +kernel
theorem dX2_copy_30 : decode cX2_copy 30 = .ok (.ireturn, 1) := by decide +kernel
theorem dX2_copy_31 : decode cX2_copy 31 = .ok (.aload 6, 2) := by decide +kernel
theorem dX2_copy_33 : decode cX2_copy 33 = .ok (.getfield 233, 3) := by decide +kernel
theorem dX2_copy_36 : decode cX2_copy 36 = .ok (.ifCond .eq 11, 3) := by decide +kernel
theorem dX2_copy_39 : decode cX2_copy 39 = .ok (.aload 7, 2) := by decide +kernel
theorem dX2_copy_41 : decode cX2_copy 41 = .ok (.getfield 233, 3) := by decide +kernel
theorem dX2_copy_44 : decode cX2_copy 44 = .ok (.ifCond .ne 9, 3) := by decide +kernel
theorem dX2_copy_47 : decode cX2_copy 47 = .ok (.aload_n 0, 1) := by decide +kernel
theorem dX2_copy_48 : decode cX2_copy 48 = .ok (.iconst 1, 1) := by decide +kernel
theorem dX2_copy_49 : decode cX2_copy 49 = .ok (.invokevirtual 60, 3) := by decide +kernel
theorem dX2_copy_52 : decode cX2_copy 52 = .ok (.ireturn, 1) := by decide +kernel
theorem dX2_copy_53 : decode cX2_copy 53 = .ok (.aload 6, 2) := by decide +kernel
theorem dX2_copy_55 : decode cX2_copy 55 = .ok (.getfield 240, 3) := by decide +kernel
theorem dX2_copy_58 : decode cX2_copy 58 = .ok (.aload 7, 2) := by decide +kernel
theorem dX2_copy_60 : decode cX2_copy 60 = .ok (.getfield 240, 3) := by decide +kernel
theorem dX2_copy_63 : decode cX2_copy 63 = .ok (.if_icmp .eq 9, 3) := by decide +kernel
theorem dX2_copy_66 : decode cX2_copy 66 = .ok (.aload_n 0, 1) := by decide +kernel
theorem dX2_copy_67 : decode cX2_copy 67 = .ok (.iconst 2, 1) := by decide +kernel
theorem dX2_copy_68 : decode cX2_copy 68 = .ok (.invokevirtual 60, 3) := by decide +kernel
theorem dX2_copy_71 : decode cX2_copy 71 = .ok (.ireturn, 1) := by decide +kernel
theorem dX2_copy_72 : decode cX2_copy 72 = .ok (.aload 6, 2) := by decide +kernel
theorem dX2_copy_74 : decode cX2_copy 74 = .ok (.iload_n 2, 1) := by decide +kernel
theorem dX2_copy_75 : decode cX2_copy 75 = .ok (.iload 5, 2) := by decide +kernel
theorem dX2_copy_77 : decode cX2_copy 77 = .ok (.invokevirtual 63, 3) := by decide +kernel
theorem dX2_copy_80 : decode cX2_copy 80 = .ok (.ifCond .eq 15, 3) := by decide +kernel
theorem dX2_copy_83 : decode cX2_copy 83 = .ok (.aload 7, 2) := by decide +kernel
theorem dX2_copy_85 : decode cX2_copy 85 = .ok (.iload 4, 2) := by decide +kernel
theorem dX2_copy_87 : decode cX2_copy 87 = .ok (.iload 5, 2) := by decide +kernel
theorem dX2_copy_89 : decode cX2_copy 89 = .ok (.invokevirtual 63, 3) := by decide +kernel
theorem dX2_copy_92 : decode cX2_copy 92 = .ok (.ifCond .ne 9, 3) := by decide +kernel
theorem dX2_copy_95 : decode cX2_copy 95 = .ok (.aload_n 0, 1) := by decide +kernel
theorem dX2_copy_96 : decode cX2_copy 96 = .ok (.iconst 3, 1) := by decide +kernel
theorem dX2_copy_97 : decode cX2_copy 97 = .ok (.invokevirtual 60, 3) := by decide +kernel
theorem dX2_copy_100 : decode cX2_copy 100 = .ok (.ireturn, 1) := by decide +kernel
theorem dX2_copy_101 : decode cX2_copy 101 = .ok (.aload 6, 2) := by decide +kernel
theorem dX2_copy_103 : decode cX2_copy 103 = .ok (.getfield 243, 3) := by decide +kernel
theorem dX2_copy_106 : decode cX2_copy 106 = .ok (.iload_n 2, 1) := by decide +kernel
theorem dX2_copy_107 : decode cX2_copy 107 = .ok (.aload 7, 2) := by decide +kernel
theorem dX2_copy_109 : decode cX2_copy 109 = .ok (.getfield 243, 3) := by decide +kernel
theorem dX2_copy_112 : decode cX2_copy 112 = .ok (.iload 4, 2) := by decide +kernel
theorem dX2_copy_114 : decode cX2_copy 114 = .ok (.iload 5, 2) := by decide +kernel
theorem dX2_copy_116 : decode cX2_copy 116 = .ok (.invokestatic 246, 3) := by decide +kernel
theorem dX2_copy_119 : decode cX2_copy 119 = .ok (.iload 5, 2) := by decide +kernel
theorem dX2_copy_121 : decode cX2_copy 121 = .ok (.ireturn, 1) := by decide +kernel
set_option maxRecDepth 20000 in
theorem ggX2_tell_X0_has : GoodIn wsX2_tell wsX0_has := goodIn_r _ [8, 9, 37, 38, 39, 40, 41, 42] (by decide +kernel) (by decide +kernel)
set_option maxRecDepth 20000 in
theorem gX2_tell_X0_has : GoodIn wsX2_tell (wsV RX2 78 RX0 yX0_has wsX0_has) := goodIn_app (goodIn_of _ (by decide +kernel)) ggX2_tell_X0_has
set_option maxRecDepth 20000 in
theorem ggX2_tell_X2_toldAsPlain : GoodIn wsX2_tell wsX2_toldAsPlain := goodIn_r _ [14, 15, 16, 17, 13, 18, 19, 28, 29, 30, 31, 32, 33, 34, 35, 36] (by decide +kernel) (by decide +kernel)
set_option maxRecDepth 20000 in
theorem gX2_tell_X2_toldAsPlain : GoodIn wsX2_tell (wsV RX2 252 RX2 yX2_toldAsPlain wsX2_toldAsPlain) := goodIn_app (goodIn_of _ (by decide +kernel)) ggX2_tell_X2_toldAsPlain
set_option maxRecDepth 20000 in
theorem ggX2_tell_X2_toldAsShaded : GoodIn wsX2_tell wsX2_toldAsShaded := goodIn_r _ [23, 15, 16, 17, 13, 18, 19, 10, 11, 12, 14, 28, 29, 30, 31, 32, 33, 34, 35, 36] (by decide +kernel) (by decide +kernel)
set_option maxRecDepth 20000 in
theorem gX2_tell_X2_toldAsShaded : GoodIn wsX2_tell (wsV RX2 255 RX2 yX2_toldAsShaded wsX2_toldAsShaded) := goodIn_app (goodIn_of _ (by decide +kernel)) ggX2_tell_X2_toldAsShaded
set_option maxRecDepth 20000 in
theorem ggX2_tell_X2_toldAsBroken : GoodIn wsX2_tell wsX2_toldAsBroken := goodIn_r _ [27, 15, 16, 17, 13, 18, 19, 20, 21, 22, 23, 10, 11, 12, 14, 28, 29, 30, 31, 32, 33, 34, 35, 36] (by decide +kernel) (by decide +kernel)
set_option maxRecDepth 20000 in
theorem gX2_tell_X2_toldAsBroken : GoodIn wsX2_tell (wsV RX2 258 RX2 yX2_toldAsBroken wsX2_toldAsBroken) := goodIn_app (goodIn_of _ (by decide +kernel)) ggX2_tell_X2_toldAsBroken
theorem dX2_tell_0 : decode cX2_tell 0 = .ok (.aload_n 0, 1) := by decide +kernel
theorem dX2_tell_1 : decode cX2_tell 1 = .ok (.getfield 20, 3) := by decide +kernel
theorem dX2_tell_4 : decode cX2_tell 4 = .ok (.iload_n 1, 1) := by decide +kernel
theorem dX2_tell_5 : decode cX2_tell 5 = .ok (.invokevirtual 78, 3) := by decide +kernel
theorem dX2_tell_8 : decode cX2_tell 8 = .ok (.ifCond .ne 5, 3) := by decide +kernel
theorem dX2_tell_11 : decode cX2_tell 11 = .ok (.iconst (-1), 1) := by decide +kernel
theorem dX2_tell_12 : decode cX2_tell 12 = .ok (.ireturn, 1) := by decide +kernel
theorem dX2_tell_13 : decode cX2_tell 13 = .ok (.aload_n 0, 1) := by decide +kernel
theorem dX2_tell_14 : decode cX2_tell 14 = .ok (.getfield 20, 3) := by decide +kernel
theorem dX2_tell_17 : decode cX2_tell 17 = .ok (.getfield 81, 3) := by decide +kernel
theorem dX2_tell_20 : decode cX2_tell 20 = .ok (.iload_n 1, 1) := by decide +kernel
theorem dX2_tell_21 : decode cX2_tell 21 = .ok (.iaload, 1) := by decide +kernel
theorem dX2_tell_22 : decode cX2_tell 22 = .ok (.lookupswitch 54 #[(0, 26), (1, 40)], 26) := by decide +kernel
theorem dX2_tell_48 : decode cX2_tell 48 = .ok (.aload_n 0, 1) := by decide +kernel
theorem dX2_tell_49 : decode cX2_tell 49 = .ok (.aload_n 0, 1) := by decide +kernel
theorem dX2_tell_50 : decode cX2_tell 50 = .ok (.getfield 20, 3) := by decide +kernel
theorem dX2_tell_53 : decode cX2_tell 53 = .ok (.getfield 87, 3) := by decide +kernel
theorem dX2_tell_56 : decode cX2_tell 56 = .ok (.iload_n 1, 1) := by decide +kernel
theorem dX2_tell_57 : decode cX2_tell 57 = .ok (.iaload, 1) := by decide +kernel
theorem dX2_tell_58 : decode cX2_tell 58 = .ok (.invokevirtual 252, 3) := by decide +kernel
theorem dX2_tell_61 : decode cX2_tell 61 = .ok (.ireturn, 1) := by decide +kernel
theorem dX2_tell_62 : decode cX2_tell 62 = .ok (.aload_n 0, 1) := by decide +kernel
theorem dX2_tell_63 : decode cX2_tell 63 = .ok (.aload_n 0, 1) := by decide +kernel
theorem dX2_tell_64 : decode cX2_tell 64 = .ok (.getfield 20, 3) := by decide +kernel
theorem dX2_tell_67 : decode cX2_tell 67 = .ok (.getfield 87, 3) := by decide +kernel
theorem dX2_tell_70 : decode cX2_tell 70 = .ok (.iload_n 1, 1) := by decide +kernel
theorem dX2_tell_71 : decode cX2_tell 71 = .ok (.iaload, 1) := by decide +kernel
theorem dX2_tell_72 : decode cX2_tell 72 = .ok (.invokevirtual 255, 3) := by decide +kernel
theorem dX2_tell_75 : decode cX2_tell 75 = .ok (.ireturn, 1) := by decide +kernel
theorem dX2_tell_76 : decode cX2_tell 76 = .ok (.aload_n 0, 1) := by decide +kernel
theorem dX2_tell_77 : decode cX2_tell 77 = .ok (.aload_n 0, 1) := by decide +kernel
theorem dX2_tell_78 : decode cX2_tell 78 = .ok (.getfield 20, 3) := by decide +kernel
theorem dX2_tell_81 : decode cX2_tell 81 = .ok (.getfield 87, 3) := by decide +kernel
theorem dX2_tell_84 : decode cX2_tell 84 = .ok (.iload_n 1, 1) := by decide +kernel
theorem dX2_tell_85 : decode cX2_tell 85 = .ok (.iaload, 1) := by decide +kernel
theorem dX2_tell_86 : decode cX2_tell 86 = .ok (.invokevirtual 258, 3) := by decide +kernel
theorem dX2_tell_89 : decode cX2_tell 89 = .ok (.ireturn, 1) := by decide +kernel
set_option maxRecDepth 20000 in
theorem ggX2_chalk_X0_has : GoodIn wsX2_chalk wsX0_has := goodIn_r _ [7, 8, 24, 25, 26, 27, 28, 29] (by decide +kernel) (by decide +kernel)
set_option maxRecDepth 20000 in
theorem gX2_chalk_X0_has : GoodIn wsX2_chalk (wsV RX2 78 RX0 yX0_has wsX0_has) := goodIn_app (goodIn_of _ (by decide +kernel)) ggX2_chalk_X0_has
set_option maxRecDepth 20000 in
theorem ggX2_chalk_X2_leaveInTrace : GoodIn wsX2_chalk wsX2_leaveInTrace := goodIn_r _ [13, 14, 15, 16, 17, 18, 19, 20, 21, 22, 23] (by decide +kernel) (by decide +kernel)
set_option maxRecDepth 20000 in
theorem gX2_chalk_X2_leaveInTrace : GoodIn wsX2_chalk (wsV RX2 261 RX2 yX2_leaveInTrace wsX2_leaveInTrace) := goodIn_app (goodIn_of _ (by decide +kernel)) ggX2_chalk_X2_leaveInTrace
theorem dX2_chalk_0 : decode cX2_chalk 0 = .ok (.aload_n 0, 1) := by decide +kernel
theorem dX2_chalk_1 : decode cX2_chalk 1 = .ok (.getfield 20, 3) := by decide +kernel
theorem dX2_chalk_4 : decode cX2_chalk 4 = .ok (.iload_n 1, 1) := by decide +kernel
theorem dX2_chalk_5 : decode cX2_chalk 5 = .ok (.invokevirtual 78, 3) := by decide +kernel
theorem dX2_chalk_8 : decode cX2_chalk 8 = .ok (.ifCond .ne 5, 3) := by decide +kernel
theorem dX2_chalk_11 : decode cX2_chalk 11 = .ok (.iconst (-1), 1) := by decide +kernel
theorem dX2_chalk_12 : decode cX2_chalk 12 = .ok (.ireturn, 1) := by decide +kernel
theorem dX2_chalk_13 : decode cX2_chalk 13 = .ok (.aload_n 0, 1) := by decide +kernel
theorem dX2_chalk_14 : decode cX2_chalk 14 = .ok (.getfield 20, 3) := by decide +kernel
theorem dX2_chalk_17 : decode cX2_chalk 17 = .ok (.getfield 81, 3) := by decide +kernel
theorem dX2_chalk_20 : decode cX2_chalk 20 = .ok (.iload_n 1, 1) := by decide +kernel
theorem dX2_chalk_21 : decode cX2_chalk 21 = .ok (.iaload, 1) := by decide +kernel
theorem dX2_chalk_22 : decode cX2_chalk 22 = .ok (.iconst 2, 1) := by decide +kernel
theorem dX2_chalk_23 : decode cX2_chalk 23 = .ok (.if_icmp .ne 11, 3) := by decide +kernel
theorem dX2_chalk_26 : decode cX2_chalk 26 = .ok (.aload_n 0, 1) := by decide +kernel
theorem dX2_chalk_27 : decode cX2_chalk 27 = .ok (.iconst 5, 1) := by decide +kernel
theorem dX2_chalk_28 : decode cX2_chalk 28 = .ok (.invokevirtual 261, 3) := by decide +kernel
theorem dX2_chalk_31 : decode cX2_chalk 31 = .ok (.bipush 40, 2) := by decide +kernel
theorem dX2_chalk_33 : decode cX2_chalk 33 = .ok (.ireturn, 1) := by decide +kernel
theorem dX2_chalk_34 : decode cX2_chalk 34 = .ok (.aload_n 0, 1) := by decide +kernel
theorem dX2_chalk_35 : decode cX2_chalk 35 = .ok (.iconst 4, 1) := by decide +kernel
theorem dX2_chalk_36 : decode cX2_chalk 36 = .ok (.invokevirtual 261, 3) := by decide +kernel
theorem dX2_chalk_39 : decode cX2_chalk 39 = .ok (.iload_n 1, 1) := by decide +kernel
theorem dX2_chalk_40 : decode cX2_chalk 40 = .ok (.ireturn, 1) := by decide +kernel
set_option maxRecDepth 20000 in
theorem ggX2_as_X0_has : GoodIn wsX2_as wsX0_has := goodIn_r _ [8, 9, 24, 25, 26, 27, 28, 29] (by decide +kernel) (by decide +kernel)
set_option maxRecDepth 20000 in
theorem gX2_as_X0_has : GoodIn wsX2_as (wsV RX2 78 RX0 yX0_has wsX0_has) := goodIn_app (goodIn_of _ (by decide +kernel)) ggX2_as_X0_has
set_option maxRecDepth 20000 in
theorem ggX2_as_X2_faulted : GoodIn wsX2_as wsX2_faulted := goodIn_r _ [14, 1, 15, 16, 17, 18, 19, 20, 21, 22, 23] (by decide +kernel) (by decide +kernel)
set_option maxRecDepth 20000 in
theorem gX2_as_X2_faulted : GoodIn wsX2_as (wsV RX2 60 RX2 yX2_faulted wsX2_faulted) := goodIn_app (goodIn_of _ (by decide +kernel)) ggX2_as_X2_faulted
theorem dX2_as_0 : decode cX2_as 0 = .ok (.aload_n 0, 1) := by decide +kernel
theorem dX2_as_1 : decode cX2_as 1 = .ok (.iconst 0, 1) := by decide +kernel
theorem dX2_as_2 : decode cX2_as 2 = .ok (.putfield 44, 3) := by decide +kernel
theorem dX2_as_5 : decode cX2_as 5 = .ok (.aload_n 0, 1) := by decide +kernel
theorem dX2_as_6 : decode cX2_as 6 = .ok (.getfield 20, 3) := by decide +kernel
theorem dX2_as_9 : decode cX2_as 9 = .ok (.iload_n 1, 1) := by decide +kernel
theorem dX2_as_10 : decode cX2_as 10 = .ok (.invokevirtual 78, 3) := by decide +kernel
theorem dX2_as_13 : decode cX2_as 13 = .ok (.ifCond .ne 5, 3) := by decide +kernel
theorem dX2_as_16 : decode cX2_as 16 = .ok (.iconst (-1), 1) := by decide +kernel
theorem dX2_as_17 : decode cX2_as 17 = .ok (.ireturn, 1) := by decide +kernel
theorem dX2_as_18 : decode cX2_as 18 = .ok (.iload_n 2, 1) := by decide +kernel
theorem dX2_as_19 : decode cX2_as 19 = .ok (.ifCond .lt 8, 3) := by decide +kernel
theorem dX2_as_22 : decode cX2_as 22 = .ok (.iload_n 2, 1) := by decide +kernel
theorem dX2_as_23 : decode cX2_as 23 = .ok (.iconst 2, 1) := by decide +kernel
theorem dX2_as_24 : decode cX2_as 24 = .ok (.if_icmp .le 6, 3) := by decide +kernel
theorem dX2_as_27 : decode cX2_as 27 = .ok (.bipush (-2), 2) := by decide +kernel
theorem dX2_as_29 : decode cX2_as 29 = .ok (.ireturn, 1) := by decide +kernel
theorem dX2_as_30 : decode cX2_as 30 = .ok (.aload_n 0, 1) := by decide +kernel
theorem dX2_as_31 : decode cX2_as 31 = .ok (.getfield 20, 3) := by decide +kernel
theorem dX2_as_34 : decode cX2_as 34 = .ok (.getfield 81, 3) := by decide +kernel
theorem dX2_as_37 : decode cX2_as 37 = .ok (.iload_n 1, 1) := by decide +kernel
theorem dX2_as_38 : decode cX2_as 38 = .ok (.iaload, 1) := by decide +kernel
theorem dX2_as_39 : decode cX2_as 39 = .ok (.iload_n 2, 1) := by decide +kernel
theorem dX2_as_40 : decode cX2_as 40 = .ok (.if_icmp .lt 7, 3) := by decide +kernel
theorem dX2_as_43 : decode cX2_as 43 = .ok (.iconst 1, 1) := by decide +kernel
theorem dX2_as_44 : decode cX2_as 44 = .ok (.goto 8, 3) := by decide +kernel
theorem dX2_as_47 : decode cX2_as 47 = .ok (.aload_n 0, 1) := by decide +kernel
theorem dX2_as_48 : decode cX2_as 48 = .ok (.iconst 2, 1) := by decide +kernel
theorem dX2_as_49 : decode cX2_as 49 = .ok (.invokevirtual 60, 3) := by decide +kernel
theorem dX2_as_52 : decode cX2_as 52 = .ok (.ireturn, 1) := by decide +kernel
theorem dX2_trace_0 : decode cX2_trace 0 = .ok (.aload_n 0, 1) := by decide +kernel
theorem dX2_trace_1 : decode cX2_trace 1 = .ok (.getfield 41, 3) := by decide +kernel
theorem dX2_trace_4 : decode cX2_trace 4 = .ok (.ireturn, 1) := by decide +kernel
theorem dX2_fault_0 : decode cX2_fault 0 = .ok (.aload_n 0, 1) := by decide +kernel
theorem dX2_fault_1 : decode cX2_fault 1 = .ok (.getfield 44, 3) := by decide +kernel
theorem dX2_fault_4 : decode cX2_fault 4 = .ok (.ireturn, 1) := by decide +kernel
set_option maxRecDepth 20000 in
theorem ggX2_many_J6_bitCount_0f7a4 : GoodIn wsX2_many wsJ6_bitCount_0f7a4 := goodIn_r _ [8, 9, 10, 11] (by decide +kernel) (by decide +kernel)
set_option maxRecDepth 20000 in
theorem gX2_many_J6_bitCount_0f7a4 : GoodIn wsX2_many (va_wsS RX2 152 yJ6_bitCount_0f7a4 wsJ6_bitCount_0f7a4) := goodIn_app (goodIn_of _ (by decide +kernel)) ggX2_many_J6_bitCount_0f7a4
set_option maxRecDepth 20000 in
theorem ggX2_many_X0_votesOfStripes : GoodIn wsX2_many wsX0_votesOfStripes := goodIn_r _ [16, 17, 18, 19, 20, 21, 22, 23, 24, 15, 25, 26, 27, 28, 29, 30, 31, 32, 33, 34, 35, 36, 37, 38, 39, 40, 41, 42, 52, 53, 54, 55, 56, 57] (by decide +kernel) (by decide +kernel)
set_option maxRecDepth 20000 in
theorem gX2_many_X0_votesOfStripes : GoodIn wsX2_many (wsV RX2 197 RX0 yX0_votesOfStripes wsX0_votesOfStripes) := goodIn_app (goodIn_of _ (by decide +kernel)) ggX2_many_X0_votesOfStripes
theorem dX2_many_0 : decode cX2_many 0 = .ok (.iload_n 1, 1) := by decide +kernel
theorem dX2_many_1 : decode cX2_many 1 = .ok (.tableswitch 65 0 3 #[31, 39, 50, 60], 31) := by decide +kernel
theorem dX2_many_32 : decode cX2_many 32 = .ok (.aload_n 0, 1) := by decide +kernel
theorem dX2_many_33 : decode cX2_many 33 = .ok (.getfield 20, 3) := by decide +kernel
theorem dX2_many_36 : decode cX2_many 36 = .ok (.getfield 75, 3) := by decide +kernel
theorem dX2_many_39 : decode cX2_many 39 = .ok (.ireturn, 1) := by decide +kernel
theorem dX2_many_40 : decode cX2_many 40 = .ok (.aload_n 0, 1) := by decide +kernel
theorem dX2_many_41 : decode cX2_many 41 = .ok (.getfield 20, 3) := by decide +kernel
theorem dX2_many_44 : decode cX2_many 44 = .ok (.getfield 136, 3) := by decide +kernel
theorem dX2_many_47 : decode cX2_many 47 = .ok (.invokestatic 152, 3) := by decide +kernel
theorem dX2_many_50 : decode cX2_many 50 = .ok (.ireturn, 1) := by decide +kernel
theorem dX2_many_51 : decode cX2_many 51 = .ok (.aload_n 0, 1) := by decide +kernel
theorem dX2_many_52 : decode cX2_many 52 = .ok (.getfield 20, 3) := by decide +kernel
theorem dX2_many_55 : decode cX2_many 55 = .ok (.bipush 15, 2) := by decide +kernel
theorem dX2_many_57 : decode cX2_many 57 = .ok (.invokevirtual 197, 3) := by decide +kernel
theorem dX2_many_60 : decode cX2_many 60 = .ok (.ireturn, 1) := by decide +kernel
theorem dX2_many_61 : decode cX2_many 61 = .ok (.aload_n 0, 1) := by decide +kernel
theorem dX2_many_62 : decode cX2_many 62 = .ok (.getfield 37, 3) := by decide +kernel
theorem dX2_many_65 : decode cX2_many 65 = .ok (.ireturn, 1) := by decide +kernel
theorem dX2_many_66 : decode cX2_many 66 = .ok (.bipush (-2), 2) := by decide +kernel
theorem dX2_many_68 : decode cX2_many 68 = .ok (.ireturn, 1) := by decide +kernel
theorem dX2_sheetAt_0 : decode cX2_sheetAt 0 = .ok (.iload_n 1, 1) := by decide +kernel
theorem dX2_sheetAt_1 : decode cX2_sheetAt 1 = .ok (.ifCond .lt 21, 3) := by decide +kernel
theorem dX2_sheetAt_4 : decode cX2_sheetAt 4 = .ok (.iload_n 1, 1) := by decide +kernel
theorem dX2_sheetAt_5 : decode cX2_sheetAt 5 = .ok (.aload_n 0, 1) := by decide +kernel
theorem dX2_sheetAt_6 : decode cX2_sheetAt 6 = .ok (.getfield 13, 3) := by decide +kernel
theorem dX2_sheetAt_9 : decode cX2_sheetAt 9 = .ok (.arraylength, 1) := by decide +kernel
theorem dX2_sheetAt_10 : decode cX2_sheetAt 10 = .ok (.if_icmp .ge 12, 3) := by decide +kernel
theorem dX2_sheetAt_13 : decode cX2_sheetAt 13 = .ok (.aload_n 0, 1) := by decide +kernel
theorem dX2_sheetAt_14 : decode cX2_sheetAt 14 = .ok (.getfield 13, 3) := by decide +kernel
theorem dX2_sheetAt_17 : decode cX2_sheetAt 17 = .ok (.iload_n 1, 1) := by decide +kernel
theorem dX2_sheetAt_18 : decode cX2_sheetAt 18 = .ok (.aaload, 1) := by decide +kernel
theorem dX2_sheetAt_19 : decode cX2_sheetAt 19 = .ok (.goto 4, 3) := by decide +kernel
theorem dX2_sheetAt_22 : decode cX2_sheetAt 22 = .ok (.aconst_null, 1) := by decide +kernel
theorem dX2_sheetAt_23 : decode cX2_sheetAt 23 = .ok (.areturn, 1) := by decide +kernel
theorem dX2_isLane_0 : decode cX2_isLane 0 = .ok (.iload_n 0, 1) := by decide +kernel
theorem dX2_isLane_1 : decode cX2_isLane 1 = .ok (.ifCond .lt 12, 3) := by decide +kernel
theorem dX2_isLane_4 : decode cX2_isLane 4 = .ok (.iload_n 0, 1) := by decide +kernel
theorem dX2_isLane_5 : decode cX2_isLane 5 = .ok (.iconst 2, 1) := by decide +kernel
theorem dX2_isLane_6 : decode cX2_isLane 6 = .ok (.if_icmp .gt 7, 3) := by decide +kernel
theorem dX2_isLane_9 : decode cX2_isLane 9 = .ok (.iconst 1, 1) := by decide +kernel
theorem dX2_isLane_10 : decode cX2_isLane 10 = .ok (.goto 4, 3) := by decide +kernel
theorem dX2_isLane_13 : decode cX2_isLane 13 = .ok (.iconst 0, 1) := by decide +kernel
theorem dX2_isLane_14 : decode cX2_isLane 14 = .ok (.ireturn, 1) := by decide +kernel
theorem dX2_faulted_0 : decode cX2_faulted 0 = .ok (.aload_n 0, 1) := by decide +kernel
theorem dX2_faulted_1 : decode cX2_faulted 1 = .ok (.iload_n 1, 1) := by decide +kernel
theorem dX2_faulted_2 : decode cX2_faulted 2 = .ok (.putfield 44, 3) := by decide +kernel
theorem dX2_faulted_5 : decode cX2_faulted 5 = .ok (.bipush (-10), 2) := by decide +kernel
theorem dX2_faulted_7 : decode cX2_faulted 7 = .ok (.iload_n 1, 1) := by decide +kernel
theorem dX2_faulted_8 : decode cX2_faulted 8 = .ok (.isub, 1) := by decide +kernel
theorem dX2_faulted_9 : decode cX2_faulted 9 = .ok (.ireturn, 1) := by decide +kernel
set_option maxRecDepth 20000 in
theorem ggX2_toldAsPlain_X2_leaveInTrace : GoodIn wsX2_toldAsPlain wsX2_leaveInTrace := goodIn_r _ [5, 6, 7, 8, 9, 10, 11, 12, 13, 14, 15] (by decide +kernel) (by decide +kernel)
set_option maxRecDepth 20000 in
theorem gX2_toldAsPlain_X2_leaveInTrace : GoodIn wsX2_toldAsPlain (wsV RX2 261 RX2 yX2_leaveInTrace wsX2_leaveInTrace) := goodIn_app (goodIn_of _ (by decide +kernel)) ggX2_toldAsPlain_X2_leaveInTrace
theorem dX2_toldAsPlain_0 : decode cX2_toldAsPlain 0 = .ok (.aload_n 0, 1) := by decide +kernel
theorem dX2_toldAsPlain_1 : decode cX2_toldAsPlain 1 = .ok (.iconst 1, 1) := by decide +kernel
theorem dX2_toldAsPlain_2 : decode cX2_toldAsPlain 2 = .ok (.invokevirtual 261, 3) := by decide +kernel
theorem dX2_toldAsPlain_5 : decode cX2_toldAsPlain 5 = .ok (.iload_n 1, 1) := by decide +kernel
theorem dX2_toldAsPlain_6 : decode cX2_toldAsPlain 6 = .ok (.ireturn, 1) := by decide +kernel
set_option maxRecDepth 20000 in
theorem ggX2_toldAsShaded_X2_leaveInTrace : GoodIn wsX2_toldAsShaded wsX2_leaveInTrace := goodIn_r _ [5, 6, 11, 12, 13, 14, 15, 16, 17, 18, 19] (by decide +kernel) (by decide +kernel)
set_option maxRecDepth 20000 in
theorem gX2_toldAsShaded_X2_leaveInTrace : GoodIn wsX2_toldAsShaded (wsV RX2 261 RX2 yX2_leaveInTrace wsX2_leaveInTrace) := goodIn_app (goodIn_of _ (by decide +kernel)) ggX2_toldAsShaded_X2_leaveInTrace
set_option maxRecDepth 20000 in
theorem ggX2_toldAsShaded_X2_toldAsPlain : GoodIn wsX2_toldAsShaded wsX2_toldAsPlain := goodIn_r _ [10, 1, 2, 3, 4, 5, 6, 11, 12, 13, 14, 15, 16, 17, 18, 19] (by decide +kernel) (by decide +kernel)
set_option maxRecDepth 20000 in
theorem gX2_toldAsShaded_X2_toldAsPlain : GoodIn wsX2_toldAsShaded (wsV RX2 252 RX2 yX2_toldAsPlain wsX2_toldAsPlain) := goodIn_app (goodIn_of _ (by decide +kernel)) ggX2_toldAsShaded_X2_toldAsPlain
theorem dX2_toldAsShaded_0 : decode cX2_toldAsShaded 0 = .ok (.aload_n 0, 1) := by decide +kernel
theorem dX2_toldAsShaded_1 : decode cX2_toldAsShaded 1 = .ok (.iconst 2, 1) := by decide +kernel
theorem dX2_toldAsShaded_2 : decode cX2_toldAsShaded 2 = .ok (.invokevirtual 261, 3) := by decide +kernel
theorem dX2_toldAsShaded_5 : decode cX2_toldAsShaded 5 = .ok (.aload_n 0, 1) := by decide +kernel
theorem dX2_toldAsShaded_6 : decode cX2_toldAsShaded 6 = .ok (.iload_n 1, 1) := by decide +kernel
theorem dX2_toldAsShaded_7 : decode cX2_toldAsShaded 7 = .ok (.invokevirtual 252, 3) := by decide +kernel
theorem dX2_toldAsShaded_10 : decode cX2_toldAsShaded 10 = .ok (.bipush 100, 2) := by decide +kernel
theorem dX2_toldAsShaded_12 : decode cX2_toldAsShaded 12 = .ok (.iadd, 1) := by decide +kernel
theorem dX2_toldAsShaded_13 : decode cX2_toldAsShaded 13 = .ok (.ireturn, 1) := by decide +kernel
set_option maxRecDepth 20000 in
theorem ggX2_toldAsBroken_X2_leaveInTrace : GoodIn wsX2_toldAsBroken wsX2_leaveInTrace := goodIn_r _ [5, 6, 15, 16, 17, 18, 19, 20, 21, 22, 23] (by decide +kernel) (by decide +kernel)
set_option maxRecDepth 20000 in
theorem gX2_toldAsBroken_X2_leaveInTrace : GoodIn wsX2_toldAsBroken (wsV RX2 261 RX2 yX2_leaveInTrace wsX2_leaveInTrace) := goodIn_app (goodIn_of _ (by decide +kernel)) ggX2_toldAsBroken_X2_leaveInTrace
set_option maxRecDepth 20000 in
theorem ggX2_toldAsBroken_X2_toldAsShaded : GoodIn wsX2_toldAsBroken wsX2_toldAsShaded := goodIn_r _ [10, 1, 2, 3, 4, 5, 6, 11, 12, 13, 14, 15, 16, 17, 18, 19, 20, 21, 22, 23] (by decide +kernel) (by decide +kernel)
set_option maxRecDepth 20000 in
theorem gX2_toldAsBroken_X2_toldAsShaded : GoodIn wsX2_toldAsBroken (wsV RX2 255 RX2 yX2_toldAsShaded wsX2_toldAsShaded) := goodIn_app (goodIn_of _ (by decide +kernel)) ggX2_toldAsBroken_X2_toldAsShaded
set_option maxRecDepth 20000 in
theorem ggX2_toldAsBroken_X2_toldAsPlain : GoodIn wsX2_toldAsBroken wsX2_toldAsPlain := goodIn_r _ [14, 1, 2, 3, 4, 5, 6, 15, 16, 17, 18, 19, 20, 21, 22, 23] (by decide +kernel) (by decide +kernel)
set_option maxRecDepth 20000 in
theorem gX2_toldAsBroken_X2_toldAsPlain : GoodIn wsX2_toldAsBroken (wsV RX2 252 RX2 yX2_toldAsPlain wsX2_toldAsPlain) := goodIn_app (goodIn_of _ (by decide +kernel)) ggX2_toldAsBroken_X2_toldAsPlain
theorem dX2_toldAsBroken_0 : decode cX2_toldAsBroken 0 = .ok (.aload_n 0, 1) := by decide +kernel
theorem dX2_toldAsBroken_1 : decode cX2_toldAsBroken 1 = .ok (.iconst 3, 1) := by decide +kernel
theorem dX2_toldAsBroken_2 : decode cX2_toldAsBroken 2 = .ok (.invokevirtual 261, 3) := by decide +kernel
theorem dX2_toldAsBroken_5 : decode cX2_toldAsBroken 5 = .ok (.aload_n 0, 1) := by decide +kernel
theorem dX2_toldAsBroken_6 : decode cX2_toldAsBroken 6 = .ok (.iload_n 1, 1) := by decide +kernel
theorem dX2_toldAsBroken_7 : decode cX2_toldAsBroken 7 = .ok (.invokevirtual 255, 3) := by decide +kernel
theorem dX2_toldAsBroken_10 : decode cX2_toldAsBroken 10 = .ok (.istore_n 2, 1) := by decide +kernel
theorem dX2_toldAsBroken_11 : decode cX2_toldAsBroken 11 = .ok (.iload_n 2, 1) := by decide +kernel
theorem dX2_toldAsBroken_12 : decode cX2_toldAsBroken 12 = .ok (.aload_n 0, 1) := by decide +kernel
theorem dX2_toldAsBroken_13 : decode cX2_toldAsBroken 13 = .ok (.iload_n 1, 1) := by decide +kernel
theorem dX2_toldAsBroken_14 : decode cX2_toldAsBroken 14 = .ok (.invokevirtual 252, 3) := by decide +kernel
theorem dX2_toldAsBroken_17 : decode cX2_toldAsBroken 17 = .ok (.iadd, 1) := by decide +kernel
theorem dX2_toldAsBroken_18 : decode cX2_toldAsBroken 18 = .ok (.ireturn, 1) := by decide +kernel
theorem dX2_leaveInTrace_0 : decode cX2_leaveInTrace 0 = .ok (.aload_n 0, 1) := by decide +kernel
theorem dX2_leaveInTrace_1 : decode cX2_leaveInTrace 1 = .ok (.bipush 31, 2) := by decide +kernel
theorem dX2_leaveInTrace_3 : decode cX2_leaveInTrace 3 = .ok (.aload_n 0, 1) := by decide +kernel
theorem dX2_leaveInTrace_4 : decode cX2_leaveInTrace 4 = .ok (.getfield 41, 3) := by decide +kernel
theorem dX2_leaveInTrace_7 : decode cX2_leaveInTrace 7 = .ok (.imul, 1) := by decide +kernel
theorem dX2_leaveInTrace_8 : decode cX2_leaveInTrace 8 = .ok (.iload_n 1, 1) := by decide +kernel
theorem dX2_leaveInTrace_9 : decode cX2_leaveInTrace 9 = .ok (.iadd, 1) := by decide +kernel
theorem dX2_leaveInTrace_10 : decode cX2_leaveInTrace 10 = .ok (.putfield 41, 3) := by decide +kernel
theorem dX2_leaveInTrace_13 : decode cX2_leaveInTrace 13 = .ok (.return_, 1) := by decide +kernel
theorem dX3_init_0 : decode cX3_init 0 = .ok (.aload_n 0, 1) := by decide +kernel
theorem dX3_init_1 : decode cX3_init 1 = .ok (.invokespecial 1, 3) := by decide +kernel
theorem dX3_init_4 : decode cX3_init 4 = .ok (.aload_n 0, 1) := by decide +kernel
theorem dX3_init_5 : decode cX3_init 5 = .ok (.bipush 8, 2) := by decide +kernel
theorem dX3_init_7 : decode cX3_init 7 = .ok (.newarray .int, 2) := by decide +kernel
theorem dX3_init_9 : decode cX3_init 9 = .ok (.putfield 7, 3) := by decide +kernel
theorem dX3_init_12 : decode cX3_init 12 = .ok (.aload_n 0, 1) := by decide +kernel
theorem dX3_init_13 : decode cX3_init 13 = .ok (.bipush 8, 2) := by decide +kernel
theorem dX3_init_15 : decode cX3_init 15 = .ok (.newarray .int, 2) := by decide +kernel
theorem dX3_init_17 : decode cX3_init 17 = .ok (.putfield 13, 3) := by decide +kernel
theorem dX3_init_20 : decode cX3_init 20 = .ok (.aload_n 0, 1) := by decide +kernel
theorem dX3_init_21 : decode cX3_init 21 = .ok (.bipush 8, 2) := by decide +kernel
theorem dX3_init_23 : decode cX3_init 23 = .ok (.newarray .int, 2) := by decide +kernel
theorem dX3_init_25 : decode cX3_init 25 = .ok (.putfield 16, 3) := by decide +kernel
theorem dX3_init_28 : decode cX3_init 28 = .ok (.aload_n 0, 1) := by decide +kernel
theorem dX3_init_29 : decode cX3_init 29 = .ok (.bipush 8, 2) := by decide +kernel
theorem dX3_init_31 : decode cX3_init 31 = .ok (.newarray .int, 2) := by decide +kernel
theorem dX3_init_33 : decode cX3_init 33 = .ok (.putfield 19, 3) := by decide +kernel
theorem dX3_init_36 : decode cX3_init 36 = .ok (.aload_n 0, 1) := by decide +kernel
theorem dX3_init_37 : decode cX3_init 37 = .ok (.bipush 8, 2) := by decide +kernel
theorem dX3_init_39 : decode cX3_init 39 = .ok (.newarray .int, 2) := by decide +kernel
theorem dX3_init_41 : decode cX3_init 41 = .ok (.putfield 22, 3) := by decide +kernel
theorem dX3_init_44 : decode cX3_init 44 = .ok (.aload_n 0, 1) := by decide +kernel
theorem dX3_init_45 : decode cX3_init 45 = .ok (.bipush 8, 2) := by decide +kernel
theorem dX3_init_47 : decode cX3_init 47 = .ok (.newarray .int, 2) := by decide +kernel
theorem dX3_init_49 : decode cX3_init 49 = .ok (.putfield 25, 3) := by decide +kernel
theorem dX3_init_52 : decode cX3_init 52 = .ok (.aload_n 0, 1) := by decide +kernel
theorem dX3_init_53 : decode cX3_init 53 = .ok (.bipush 8, 2) := by decide +kernel
theorem dX3_init_55 : decode cX3_init 55 = .ok (.newarray .int, 2) := by decide +kernel
theorem dX3_init_57 : decode cX3_init 57 = .ok (.putfield 28, 3) := by decide +kernel
theorem dX3_init_60 : decode cX3_init 60 = .ok (.aload_n 0, 1) := by decide +kernel
theorem dX3_init_61 : decode cX3_init 61 = .ok (.bipush 8, 2) := by decide +kernel
theorem dX3_init_63 : decode cX3_init 63 = .ok (.newarray .int, 2) := by decide +kernel
theorem dX3_init_65 : decode cX3_init 65 = .ok (.putfield 31, 3) := by decide +kernel
theorem dX3_init_68 : decode cX3_init 68 = .ok (.aload_n 0, 1) := by decide +kernel
theorem dX3_init_69 : decode cX3_init 69 = .ok (.bipush 8, 2) := by decide +kernel
theorem dX3_init_71 : decode cX3_init 71 = .ok (.newarray .int, 2) := by decide +kernel
theorem dX3_init_73 : decode cX3_init 73 = .ok (.putfield 34, 3) := by decide +kernel
theorem dX3_init_76 : decode cX3_init 76 = .ok (.aload_n 0, 1) := by decide +kernel
theorem dX3_init_77 : decode cX3_init 77 = .ok (.bipush 8, 2) := by decide +kernel
theorem dX3_init_79 : decode cX3_init 79 = .ok (.newarray .int, 2) := by decide +kernel
theorem dX3_init_81 : decode cX3_init 81 = .ok (.putfield 37, 3) := by decide +kernel
theorem dX3_init_84 : decode cX3_init 84 = .ok (.aload_n 0, 1) := by decide +kernel
theorem dX3_init_85 : decode cX3_init 85 = .ok (.bipush 8, 2) := by decide +kernel
theorem dX3_init_87 : decode cX3_init 87 = .ok (.newarray .int, 2) := by decide +kernel
theorem dX3_init_89 : decode cX3_init 89 = .ok (.putfield 40, 3) := by decide +kernel
theorem dX3_init_92 : decode cX3_init 92 = .ok (.aload_n 0, 1) := by decide +kernel
theorem dX3_init_93 : decode cX3_init 93 = .ok (.iconst 4, 1) := by decide +kernel
theorem dX3_init_94 : decode cX3_init 94 = .ok (.newarray .int, 2) := by decide +kernel
theorem dX3_init_96 : decode cX3_init 96 = .ok (.putfield 43, 3) := by decide +kernel
theorem dX3_init_99 : decode cX3_init 99 = .ok (.aload_n 0, 1) := by decide +kernel
theorem dX3_init_100 : decode cX3_init 100 = .ok (.iconst 4, 1) := by decide +kernel
theorem dX3_init_101 : decode cX3_init 101 = .ok (.newarray .int, 2) := by decide +kernel
theorem dX3_init_103 : decode cX3_init 103 = .ok (.putfield 46, 3) := by decide +kernel
theorem dX3_init_106 : decode cX3_init 106 = .ok (.aload_n 0, 1) := by decide +kernel
theorem dX3_init_107 : decode cX3_init 107 = .ok (.sipush 240, 3) := by decide +kernel
theorem dX3_init_110 : decode cX3_init 110 = .ok (.newarray .int, 2) := by decide +kernel
theorem dX3_init_112 : decode cX3_init 112 = .ok (.putfield 49, 3) := by decide +kernel
theorem dX3_init_115 : decode cX3_init 115 = .ok (.aload_n 0, 1) := by decide +kernel
theorem dX3_init_116 : decode cX3_init 116 = .ok (.bipush 60, 2) := by decide +kernel
theorem dX3_init_118 : decode cX3_init 118 = .ok (.newarray .int, 2) := by decide +kernel
theorem dX3_init_120 : decode cX3_init 120 = .ok (.putfield 52, 3) := by decide +kernel
theorem dX3_init_123 : decode cX3_init 123 = .ok (.iconst 0, 1) := by decide +kernel
theorem dX3_init_124 : decode cX3_init 124 = .ok (.istore_n 1, 1) := by decide +kernel
theorem dX3_init_125 : decode cX3_init 125 = .ok (.iload_n 1, 1) := by decide +kernel
theorem dX3_init_126 : decode cX3_init 126 = .ok (.iconst 4, 1) := by decide +kernel
theorem dX3_init_127 : decode cX3_init 127 = .ok (.if_icmp .ge 16, 3) := by decide +kernel
theorem dX3_init_130 : decode cX3_init 130 = .ok (.aload_n 0, 1) := by decide +kernel
theorem dX3_init_131 : decode cX3_init 131 = .ok (.getfield 43, 3) := by decide +kernel
theorem dX3_init_134 : decode cX3_init 134 = .ok (.iload_n 1, 1) := by decide +kernel
theorem dX3_init_135 : decode cX3_init 135 = .ok (.iconst (-1), 1) := by decide +kernel
theorem dX3_init_136 : decode cX3_init 136 = .ok (.iastore, 1) := by decide +kernel
theorem dX3_init_137 : decode cX3_init 137 = .ok (.iinc 1 1, 3) := by decide +kernel
theorem dX3_init_140 : decode cX3_init 140 = .ok (.goto (-15), 3) := by decide +kernel
theorem dX3_init_143 : decode cX3_init 143 = .ok (.return_, 1) := by decide +kernel
theorem dX3_in_0 : decode cX3_in 0 = .ok (.lload_n 0, 1) := by decide +kernel
theorem dX3_in_1 : decode cX3_in 1 = .ok (.lload_n 2, 1) := by decide +kernel
theorem dX3_in_2 : decode cX3_in 2 = .ok (.lcmp, 1) := by decide +kernel
theorem dX3_in_3 : decode cX3_in 3 = .ok (.ifCond .lt 14, 3) := by decide +kernel
theorem dX3_in_6 : decode cX3_in 6 = .ok (.lload_n 0, 1) := by decide +kernel
theorem dX3_in_7 : decode cX3_in 7 = .ok (.lload 4, 2) := by decide +kernel
theorem dX3_in_9 : decode cX3_in 9 = .ok (.lcmp, 1) := by decide +kernel
theorem dX3_in_10 : decode cX3_in 10 = .ok (.ifCond .gt 7, 3) := by decide +kernel
theorem dX3_in_13 : decode cX3_in 13 = .ok (.iconst 1, 1) := by decide +kernel
theorem dX3_in_14 : decode cX3_in 14 = .ok (.goto 4, 3) := by decide +kernel
theorem dX3_in_17 : decode cX3_in 17 = .ok (.iconst 0, 1) := by decide +kernel
theorem dX3_in_18 : decode cX3_in 18 = .ok (.ireturn, 1) := by decide +kernel
theorem dX3_lost_0 : decode cX3_lost 0 = .ok (.ldc2_w 55, 3) := by decide +kernel
theorem dX3_lost_3 : decode cX3_lost 3 = .ok (.lreturn, 1) := by decide +kernel
theorem dX3_isIn_0 : decode cX3_isIn 0 = .ok (.iload_n 0, 1) := by decide +kernel
theorem dX3_isIn_1 : decode cX3_isIn 1 = .ok (.iload_n 1, 1) := by decide +kernel
theorem dX3_isIn_2 : decode cX3_isIn 2 = .ok (.ishr, 1) := by decide +kernel
theorem dX3_isIn_3 : decode cX3_isIn 3 = .ok (.iconst 1, 1) := by decide +kernel
theorem dX3_isIn_4 : decode cX3_isIn 4 = .ok (.iand, 1) := by decide +kernel
theorem dX3_isIn_5 : decode cX3_isIn 5 = .ok (.iconst 1, 1) := by decide +kernel
theorem dX3_isIn_6 : decode cX3_isIn 6 = .ok (.if_icmp .ne 7, 3) := by decide +kernel
theorem dX3_isIn_9 : decode cX3_isIn 9 = .ok (.iconst 1, 1) := by decide +kernel
theorem dX3_isIn_10 : decode cX3_isIn 10 = .ok (.goto 4, 3) := by decide +kernel
theorem dX3_isIn_13 : decode cX3_isIn 13 = .ok (.iconst 0, 1) := by decide +kernel
theorem dX3_isIn_14 : decode cX3_isIn 14 = .ok (.ireturn, 1) := by decide +kernel
theorem dX3_bits_0 : decode cX3_bits 0 = .ok (.iconst 0, 1) := by decide +kernel
theorem dX3_bits_1 : decode cX3_bits 1 = .ok (.istore_n 1, 1) := by decide +kernel
theorem dX3_bits_2 : decode cX3_bits 2 = .ok (.iload_n 0, 1) := by decide +kernel
theorem dX3_bits_3 : decode cX3_bits 3 = .ok (.istore_n 2, 1) := by decide +kernel
theorem dX3_bits_4 : decode cX3_bits 4 = .ok (.iload_n 2, 1) := by decide +kernel
theorem dX3_bits_5 : decode cX3_bits 5 = .ok (.ifCond .le 16, 3) := by decide +kernel
theorem dX3_bits_8 : decode cX3_bits 8 = .ok (.iload_n 1, 1) := by decide +kernel
theorem dX3_bits_9 : decode cX3_bits 9 = .ok (.iload_n 2, 1) := by decide +kernel
theorem dX3_bits_10 : decode cX3_bits 10 = .ok (.iconst 1, 1) := by decide +kernel
theorem dX3_bits_11 : decode cX3_bits 11 = .ok (.iand, 1) := by decide +kernel
theorem dX3_bits_12 : decode cX3_bits 12 = .ok (.iadd, 1) := by decide +kernel
theorem dX3_bits_13 : decode cX3_bits 13 = .ok (.istore_n 1, 1) := by decide +kernel
theorem dX3_bits_14 : decode cX3_bits 14 = .ok (.iload_n 2, 1) := by decide +kernel
theorem dX3_bits_15 : decode cX3_bits 15 = .ok (.iconst 1, 1) := by decide +kernel
theorem dX3_bits_16 : decode cX3_bits 16 = .ok (.ishr, 1) := by decide +kernel
theorem dX3_bits_17 : decode cX3_bits 17 = .ok (.istore_n 2, 1) := by decide +kernel
theorem dX3_bits_18 : decode cX3_bits 18 = .ok (.goto (-14), 3) := by decide +kernel
theorem dX3_bits_21 : decode cX3_bits 21 = .ok (.iload_n 1, 1) := by decide +kernel
theorem dX3_bits_22 : decode cX3_bits 22 = .ok (.ireturn, 1) := by decide +kernel
theorem dX3_share_0 : decode cX3_share 0 = .ok (.lload_n 0, 1) := by decide +kernel
theorem dX3_share_1 : decode cX3_share 1 = .ok (.lstore 5, 2) := by decide +kernel
theorem dX3_share_3 : decode cX3_share 3 = .ok (.lload_n 2, 1) := by decide +kernel
theorem dX3_share_4 : decode cX3_share 4 = .ok (.lstore 7, 2) := by decide +kernel
theorem dX3_share_6 : decode cX3_share 6 = .ok (.lload 7, 2) := by decide +kernel
theorem dX3_share_8 : decode cX3_share 8 = .ok (.lconst 0, 1) := by decide +kernel
theorem dX3_share_9 : decode cX3_share 9 = .ok (.lcmp, 1) := by decide +kernel
theorem dX3_share_10 : decode cX3_share 10 = .ok (.ifCond .eq 21, 3) := by decide +kernel
theorem dX3_share_13 : decode cX3_share 13 = .ok (.lload 5, 2) := by decide +kernel
theorem dX3_share_15 : decode cX3_share 15 = .ok (.lload 7, 2) := by decide +kernel
theorem dX3_share_17 : decode cX3_share 17 = .ok (.lrem, 1) := by decide +kernel
theorem dX3_share_18 : decode cX3_share 18 = .ok (.lstore 9, 2) := by decide +kernel
theorem dX3_share_20 : decode cX3_share 20 = .ok (.lload 7, 2) := by decide +kernel
theorem dX3_share_22 : decode cX3_share 22 = .ok (.lstore 5, 2) := by decide +kernel
theorem dX3_share_24 : decode cX3_share 24 = .ok (.lload 9, 2) := by decide +kernel
theorem dX3_share_26 : decode cX3_share 26 = .ok (.lstore 7, 2) := by decide +kernel
theorem dX3_share_28 : decode cX3_share 28 = .ok (.goto (-22), 3) := by decide +kernel
theorem dX3_share_31 : decode cX3_share 31 = .ok (.iload 4, 2) := by decide +kernel
theorem dX3_share_33 : decode cX3_share 33 = .ok (.ifCond .ne 7, 3) := by decide +kernel
theorem dX3_share_36 : decode cX3_share 36 = .ok (.lload_n 0, 1) := by decide +kernel
theorem dX3_share_37 : decode cX3_share 37 = .ok (.goto 4, 3) := by decide +kernel
theorem dX3_share_40 : decode cX3_share 40 = .ok (.lload_n 2, 1) := by decide +kernel
theorem dX3_share_41 : decode cX3_share 41 = .ok (.lload 5, 2) := by decide +kernel
theorem dX3_share_43 : decode cX3_share 43 = .ok (.ldiv, 1) := by decide +kernel
theorem dX3_share_44 : decode cX3_share 44 = .ok (.lreturn, 1) := by decide +kernel
theorem dX3_refused_0 : decode cX3_refused 0 = .ok (.aload_n 0, 1) := by decide +kernel
theorem dX3_refused_1 : decode cX3_refused 1 = .ok (.iconst 0, 1) := by decide +kernel
theorem dX3_refused_2 : decode cX3_refused 2 = .ok (.putfield 57, 3) := by decide +kernel
theorem dX3_refused_5 : decode cX3_refused 5 = .ok (.iload_n 1, 1) := by decide +kernel
theorem dX3_refused_6 : decode cX3_refused 6 = .ok (.ireturn, 1) := by decide +kernel
theorem dX3_failed_0 : decode cX3_failed 0 = .ok (.aload_n 0, 1) := by decide +kernel
theorem dX3_failed_1 : decode cX3_failed 1 = .ok (.iload_n 1, 1) := by decide +kernel
theorem dX3_failed_2 : decode cX3_failed 2 = .ok (.putfield 57, 3) := by decide +kernel
theorem dX3_failed_5 : decode cX3_failed 5 = .ok (.bipush (-10), 2) := by decide +kernel
theorem dX3_failed_7 : decode cX3_failed 7 = .ok (.iload_n 1, 1) := by decide +kernel
theorem dX3_failed_8 : decode cX3_failed 8 = .ok (.isub, 1) := by decide +kernel
theorem dX3_failed_9 : decode cX3_failed 9 = .ok (.ireturn, 1) := by decide +kernel
set_option maxRecDepth 20000 in
theorem ggX3_failedLong_X3_lost : GoodIn wsX3_failedLong wsX3_lost := goodIn_r _ [5, 6] (by decide +kernel) (by decide +kernel)
set_option maxRecDepth 20000 in
theorem gX3_failedLong_X3_lost : GoodIn wsX3_failedLong (va_wsS RX3 61 yX3_lost wsX3_lost) := goodIn_app (goodIn_of _ (by decide +kernel)) ggX3_failedLong_X3_lost
theorem dX3_failedLong_0 : decode cX3_failedLong 0 = .ok (.aload_n 0, 1) := by decide +kernel
theorem dX3_failedLong_1 : decode cX3_failedLong 1 = .ok (.iload_n 1, 1) := by decide +kernel
theorem dX3_failedLong_2 : decode cX3_failedLong 2 = .ok (.putfield 57, 3) := by decide +kernel
theorem dX3_failedLong_5 : decode cX3_failedLong 5 = .ok (.invokestatic 61, 3) := by decide +kernel
theorem dX3_failedLong_8 : decode cX3_failedLong 8 = .ok (.lreturn, 1) := by decide +kernel
set_option maxRecDepth 20000 in
theorem ggX3_noChair_X3_in : GoodIn wsX3_noChair wsX3_in := goodIn_r _ [5] (by decide +kernel) (by decide +kernel)
set_option maxRecDepth 20000 in
theorem gX3_noChair_X3_in : GoodIn wsX3_noChair (va_wsS RX3 68 yX3_in wsX3_in) := goodIn_app (goodIn_of _ (by decide +kernel)) ggX3_noChair_X3_in
theorem dX3_noChair_0 : decode cX3_noChair 0 = .ok (.iload_n 1, 1) := by decide +kernel
theorem dX3_noChair_1 : decode cX3_noChair 1 = .ok (.i2l, 1) := by decide +kernel
theorem dX3_noChair_2 : decode cX3_noChair 2 = .ok (.lconst 0, 1) := by decide +kernel
theorem dX3_noChair_3 : decode cX3_noChair 3 = .ok (.aload_n 0, 1) := by decide +kernel
theorem dX3_noChair_4 : decode cX3_noChair 4 = .ok (.getfield 65, 3) := by decide +kernel
theorem dX3_noChair_7 : decode cX3_noChair 7 = .ok (.i2l, 1) := by decide +kernel
theorem dX3_noChair_8 : decode cX3_noChair 8 = .ok (.lconst 1, 1) := by decide +kernel
theorem dX3_noChair_9 : decode cX3_noChair 9 = .ok (.lsub, 1) := by decide +kernel
theorem dX3_noChair_10 : decode cX3_noChair 10 = .ok (.invokestatic 68, 3) := by decide +kernel
theorem dX3_noChair_13 : decode cX3_noChair 13 = .ok (.ifCond .ne 7, 3) := by decide +kernel
theorem dX3_noChair_16 : decode cX3_noChair 16 = .ok (.iconst 1, 1) := by decide +kernel
theorem dX3_noChair_17 : decode cX3_noChair 17 = .ok (.goto 4, 3) := by decide +kernel
theorem dX3_noChair_20 : decode cX3_noChair 20 = .ok (.iconst 0, 1) := by decide +kernel
theorem dX3_noChair_21 : decode cX3_noChair 21 = .ok (.ireturn, 1) := by decide +kernel
theorem dX3_everyChair_0 : decode cX3_everyChair 0 = .ok (.iconst 1, 1) := by decide +kernel
theorem dX3_everyChair_1 : decode cX3_everyChair 1 = .ok (.aload_n 0, 1) := by decide +kernel
theorem dX3_everyChair_2 : decode cX3_everyChair 2 = .ok (.getfield 65, 3) := by decide +kernel
theorem dX3_everyChair_5 : decode cX3_everyChair 5 = .ok (.ishl, 1) := by decide +kernel
theorem dX3_everyChair_6 : decode cX3_everyChair 6 = .ok (.iconst 1, 1) := by decide +kernel
theorem dX3_everyChair_7 : decode cX3_everyChair 7 = .ok (.isub, 1) := by decide +kernel
theorem dX3_everyChair_8 : decode cX3_everyChair 8 = .ok (.ireturn, 1) := by decide +kernel
theorem dX3_codeAt_0 : decode cX3_codeAt 0 = .ok (.aload_n 0, 1) := by decide +kernel
theorem dX3_codeAt_1 : decode cX3_codeAt 1 = .ok (.getfield 72, 3) := by decide +kernel
theorem dX3_codeAt_4 : decode cX3_codeAt 4 = .ok (.iload_n 2, 1) := by decide +kernel
theorem dX3_codeAt_5 : decode cX3_codeAt 5 = .ok (.if_icmp .ge 17, 3) := by decide +kernel
theorem dX3_codeAt_8 : decode cX3_codeAt 8 = .ok (.aload_n 0, 1) := by decide +kernel
theorem dX3_codeAt_9 : decode cX3_codeAt 9 = .ok (.getfield 49, 3) := by decide +kernel
theorem dX3_codeAt_12 : decode cX3_codeAt 12 = .ok (.iload_n 1, 1) := by decide +kernel
theorem dX3_codeAt_13 : decode cX3_codeAt 13 = .ok (.aload_n 0, 1) := by decide +kernel
theorem dX3_codeAt_14 : decode cX3_codeAt 14 = .ok (.getfield 72, 3) := by decide +kernel
theorem dX3_codeAt_17 : decode cX3_codeAt 17 = .ok (.iadd, 1) := by decide +kernel
theorem dX3_codeAt_18 : decode cX3_codeAt 18 = .ok (.iaload, 1) := by decide +kernel
theorem dX3_codeAt_19 : decode cX3_codeAt 19 = .ok (.goto 5, 3) := by decide +kernel
theorem dX3_codeAt_22 : decode cX3_codeAt 22 = .ok (.bipush (-9), 2) := by decide +kernel
theorem dX3_codeAt_24 : decode cX3_codeAt 24 = .ok (.ireturn, 1) := by decide +kernel
set_option maxRecDepth 20000 in
theorem ggX3_figure_X3_codeAt : GoodIn wsX3_figure wsX3_codeAt := goodIn_r _ [6, 1, 7, 11, 12, 13, 14, 15, 16, 17, 18, 19, 20, 21, 22, 23, 24, 25, 26, 27, 28, 29, 30, 31, 32, 33] (by decide +kernel) (by decide +kernel)
set_option maxRecDepth 20000 in
theorem gX3_figure_X3_codeAt : GoodIn wsX3_figure (wsV RX3 75 RX3 yX3_codeAt wsX3_codeAt) := goodIn_app (goodIn_of _ (by decide +kernel)) ggX3_figure_X3_codeAt
set_option maxRecDepth 20000 in
theorem ggX3_figure_X3_in : GoodIn wsX3_figure wsX3_in := goodIn_r _ [10] (by decide +kernel) (by decide +kernel)
set_option maxRecDepth 20000 in
theorem gX3_figure_X3_in : GoodIn wsX3_figure (va_wsS RX3 68 yX3_in wsX3_in) := goodIn_app (goodIn_of _ (by decide +kernel)) ggX3_figure_X3_in
theorem dX3_figure_0 : decode cX3_figure 0 = .ok (.iload_n 3, 1) := by decide +kernel
theorem dX3_figure_1 : decode cX3_figure 1 = .ok (.ifCond .ge 8, 3) := by decide +kernel
theorem dX3_figure_4 : decode cX3_figure 4 = .ok (.bipush (-9), 2) := by decide +kernel
theorem dX3_figure_6 : decode cX3_figure 6 = .ok (.goto 12, 3) := by decide +kernel
theorem dX3_figure_9 : decode cX3_figure 9 = .ok (.aload_n 0, 1) := by decide +kernel
theorem dX3_figure_10 : decode cX3_figure 10 = .ok (.iload_n 1, 1) := by decide +kernel
theorem dX3_figure_11 : decode cX3_figure 11 = .ok (.iload_n 2, 1) := by decide +kernel
theorem dX3_figure_12 : decode cX3_figure 12 = .ok (.invokevirtual 75, 3) := by decide +kernel
theorem dX3_figure_15 : decode cX3_figure 15 = .ok (.bipush 48, 2) := by decide +kernel
theorem dX3_figure_17 : decode cX3_figure 17 = .ok (.isub, 1) := by decide +kernel
theorem dX3_figure_18 : decode cX3_figure 18 = .ok (.istore 6, 2) := by decide +kernel
theorem dX3_figure_20 : decode cX3_figure 20 = .ok (.iload 6, 2) := by decide +kernel
theorem dX3_figure_22 : decode cX3_figure 22 = .ok (.i2l, 1) := by decide +kernel
theorem dX3_figure_23 : decode cX3_figure 23 = .ok (.iload 4, 2) := by decide +kernel
theorem dX3_figure_25 : decode cX3_figure 25 = .ok (.i2l, 1) := by decide +kernel
theorem dX3_figure_26 : decode cX3_figure 26 = .ok (.iload 5, 2) := by decide +kernel
theorem dX3_figure_28 : decode cX3_figure 28 = .ok (.i2l, 1) := by decide +kernel
theorem dX3_figure_29 : decode cX3_figure 29 = .ok (.invokestatic 68, 3) := by decide +kernel
theorem dX3_figure_32 : decode cX3_figure 32 = .ok (.istore 7, 2) := by decide +kernel
theorem dX3_figure_34 : decode cX3_figure 34 = .ok (.aload_n 0, 1) := by decide +kernel
theorem dX3_figure_35 : decode cX3_figure 35 = .ok (.dup, 1) := by decide +kernel
theorem dX3_figure_36 : decode cX3_figure 36 = .ok (.getfield 72, 3) := by decide +kernel
theorem dX3_figure_39 : decode cX3_figure 39 = .ok (.iload 7, 2) := by decide +kernel
theorem dX3_figure_41 : decode cX3_figure 41 = .ok (.ifCond .eq 7, 3) := by decide +kernel
theorem dX3_figure_44 : decode cX3_figure 44 = .ok (.iconst 1, 1) := by decide +kernel
theorem dX3_figure_45 : decode cX3_figure 45 = .ok (.goto 4, 3) := by decide +kernel
theorem dX3_figure_48 : decode cX3_figure 48 = .ok (.iconst 0, 1) := by decide +kernel
theorem dX3_figure_49 : decode cX3_figure 49 = .ok (.iadd, 1) := by decide +kernel
theorem dX3_figure_50 : decode cX3_figure 50 = .ok (.putfield 72, 3) := by decide +kernel
theorem dX3_figure_53 : decode cX3_figure 53 = .ok (.iload 7, 2) := by decide +kernel
theorem dX3_figure_55 : decode cX3_figure 55 = .ok (.ifCond .eq 8, 3) := by decide +kernel
theorem dX3_figure_58 : decode cX3_figure 58 = .ok (.iload 6, 2) := by decide +kernel
theorem dX3_figure_60 : decode cX3_figure 60 = .ok (.goto 5, 3) := by decide +kernel
theorem dX3_figure_63 : decode cX3_figure 63 = .ok (.bipush (-9), 2) := by decide +kernel
theorem dX3_figure_65 : decode cX3_figure 65 = .ok (.ireturn, 1) := by decide +kernel
set_option maxRecDepth 20000 in
theorem ggX3_readsChair_X3_codeAt : GoodIn wsX3_readsChair wsX3_codeAt := goodIn_r _ [11, 2, 12, 20, 21, 22, 23, 24, 25, 26, 27, 28, 29, 30, 31, 32, 33, 34, 35, 36, 37, 38, 39, 40, 41, 42] (by decide +kernel) (by decide +kernel)
set_option maxRecDepth 20000 in
theorem gX3_readsChair_X3_codeAt : GoodIn wsX3_readsChair (wsV RX3 75 RX3 yX3_codeAt wsX3_codeAt) := goodIn_app (goodIn_of _ (by decide +kernel)) ggX3_readsChair_X3_codeAt
set_option maxRecDepth 20000 in
theorem ggX3_readsChair_X3_figure : GoodIn wsX3_readsChair wsX3_figure := goodIn_r _ [16, 2, 7, 8, 9, 10, 11, 12, 17, 18, 19, 20, 21, 22, 23, 24, 25, 26, 27, 28, 29, 30, 31, 32, 33, 34, 35, 36, 37, 38, 39, 40, 41, 42] (by decide +kernel) (by decide +kernel)
set_option maxRecDepth 20000 in
theorem gX3_readsChair_X3_figure : GoodIn wsX3_readsChair (wsV RX3 82 RX3 yX3_figure wsX3_figure) := goodIn_app (goodIn_of _ (by decide +kernel)) ggX3_readsChair_X3_figure
theorem dX3_readsChair_0 : decode cX3_readsChair 0 = .ok (.aload_n 0, 1) := by decide +kernel
theorem dX3_readsChair_1 : decode cX3_readsChair 1 = .ok (.getfield 79, 3) := by decide +kernel
theorem dX3_readsChair_4 : decode cX3_readsChair 4 = .ok (.bipush 8, 2) := by decide +kernel
theorem dX3_readsChair_6 : decode cX3_readsChair 6 = .ok (.if_icmp .eq 14, 3) := by decide +kernel
theorem dX3_readsChair_9 : decode cX3_readsChair 9 = .ok (.aload_n 0, 1) := by decide +kernel
theorem dX3_readsChair_10 : decode cX3_readsChair 10 = .ok (.iload_n 1, 1) := by decide +kernel
theorem dX3_readsChair_11 : decode cX3_readsChair 11 = .ok (.iload_n 2, 1) := by decide +kernel
theorem dX3_readsChair_12 : decode cX3_readsChair 12 = .ok (.invokevirtual 75, 3) := by decide +kernel
theorem dX3_readsChair_15 : decode cX3_readsChair 15 = .ok (.bipush 59, 2) := by decide +kernel
theorem dX3_readsChair_17 : decode cX3_readsChair 17 = .ok (.if_icmp .eq 5, 3) := by decide +kernel
theorem dX3_readsChair_20 : decode cX3_readsChair 20 = .ok (.iconst 0, 1) := by decide +kernel
theorem dX3_readsChair_21 : decode cX3_readsChair 21 = .ok (.ireturn, 1) := by decide +kernel
theorem dX3_readsChair_22 : decode cX3_readsChair 22 = .ok (.aload_n 0, 1) := by decide +kernel
theorem dX3_readsChair_23 : decode cX3_readsChair 23 = .ok (.dup, 1) := by decide +kernel
theorem dX3_readsChair_24 : decode cX3_readsChair 24 = .ok (.getfield 72, 3) := by decide +kernel
theorem dX3_readsChair_27 : decode cX3_readsChair 27 = .ok (.iconst 1, 1) := by decide +kernel
theorem dX3_readsChair_28 : decode cX3_readsChair 28 = .ok (.iadd, 1) := by decide +kernel
theorem dX3_readsChair_29 : decode cX3_readsChair 29 = .ok (.putfield 72, 3) := by decide +kernel
theorem dX3_readsChair_32 : decode cX3_readsChair 32 = .ok (.aload_n 0, 1) := by decide +kernel
theorem dX3_readsChair_33 : decode cX3_readsChair 33 = .ok (.iload_n 1, 1) := by decide +kernel
theorem dX3_readsChair_34 : decode cX3_readsChair 34 = .ok (.iload_n 2, 1) := by decide +kernel
theorem dX3_readsChair_35 : decode cX3_readsChair 35 = .ok (.invokevirtual 75, 3) := by decide +kernel
theorem dX3_readsChair_38 : decode cX3_readsChair 38 = .ok (.istore_n 3, 1) := by decide +kernel
theorem dX3_readsChair_39 : decode cX3_readsChair 39 = .ok (.iload_n 3, 1) := by decide +kernel
theorem dX3_readsChair_40 : decode cX3_readsChair 40 = .ok (.bipush 112, 2) := by decide +kernel
theorem dX3_readsChair_42 : decode cX3_readsChair 42 = .ok (.if_icmp .eq 17, 3) := by decide +kernel
theorem dX3_readsChair_45 : decode cX3_readsChair 45 = .ok (.iload_n 3, 1) := by decide +kernel
theorem dX3_readsChair_46 : decode cX3_readsChair 46 = .ok (.bipush 115, 2) := by decide +kernel
theorem dX3_readsChair_48 : decode cX3_readsChair 48 = .ok (.if_icmp .eq 11, 3) := by decide +kernel
theorem dX3_readsChair_51 : decode cX3_readsChair 51 = .ok (.iload_n 3, 1) := by decide +kernel
theorem dX3_readsChair_52 : decode cX3_readsChair 52 = .ok (.bipush 98, 2) := by decide +kernel
theorem dX3_readsChair_54 : decode cX3_readsChair 54 = .ok (.if_icmp .eq 5, 3) := by decide +kernel
theorem dX3_readsChair_57 : decode cX3_readsChair 57 = .ok (.iconst 0, 1) := by decide +kernel
theorem dX3_readsChair_58 : decode cX3_readsChair 58 = .ok (.ireturn, 1) := by decide +kernel
theorem dX3_readsChair_59 : decode cX3_readsChair 59 = .ok (.aload_n 0, 1) := by decide +kernel
theorem dX3_readsChair_60 : decode cX3_readsChair 60 = .ok (.dup, 1) := by decide +kernel
theorem dX3_readsChair_61 : decode cX3_readsChair 61 = .ok (.getfield 72, 3) := by decide +kernel
theorem dX3_readsChair_64 : decode cX3_readsChair 64 = .ok (.iconst 1, 1) := by decide +kernel
theorem dX3_readsChair_65 : decode cX3_readsChair 65 = .ok (.iadd, 1) := by decide +kernel
theorem dX3_readsChair_66 : decode cX3_readsChair 66 = .ok (.putfield 72, 3) := by decide +kernel
theorem dX3_readsChair_69 : decode cX3_readsChair 69 = .ok (.aload_n 0, 1) := by decide +kernel
theorem dX3_readsChair_70 : decode cX3_readsChair 70 = .ok (.iload_n 1, 1) := by decide +kernel
theorem dX3_readsChair_71 : decode cX3_readsChair 71 = .ok (.iload_n 2, 1) := by decide +kernel
theorem dX3_readsChair_72 : decode cX3_readsChair 72 = .ok (.iconst 0, 1) := by decide +kernel
theorem dX3_readsChair_73 : decode cX3_readsChair 73 = .ok (.iconst 0, 1) := by decide +kernel
theorem dX3_readsChair_74 : decode cX3_readsChair 74 = .ok (.iconst 3, 1) := by decide +kernel
theorem dX3_readsChair_75 : decode cX3_readsChair 75 = .ok (.invokevirtual 82, 3) := by decide +kernel
theorem dX3_readsChair_78 : decode cX3_readsChair 78 = .ok (.istore 4, 2) := by decide +kernel
theorem dX3_readsChair_80 : decode cX3_readsChair 80 = .ok (.aload_n 0, 1) := by decide +kernel
theorem dX3_readsChair_81 : decode cX3_readsChair 81 = .ok (.iload_n 1, 1) := by decide +kernel
theorem dX3_readsChair_82 : decode cX3_readsChair 82 = .ok (.iload_n 2, 1) := by decide +kernel
theorem dX3_readsChair_83 : decode cX3_readsChair 83 = .ok (.iload 4, 2) := by decide +kernel
theorem dX3_readsChair_85 : decode cX3_readsChair 85 = .ok (.iconst 1, 1) := by decide +kernel
theorem dX3_readsChair_86 : decode cX3_readsChair 86 = .ok (.bipush 9, 2) := by decide +kernel
theorem dX3_readsChair_88 : decode cX3_readsChair 88 = .ok (.invokevirtual 82, 3) := by decide +kernel
theorem dX3_readsChair_91 : decode cX3_readsChair 91 = .ok (.istore 5, 2) := by decide +kernel
theorem dX3_readsChair_93 : decode cX3_readsChair 93 = .ok (.aload_n 0, 1) := by decide +kernel
theorem dX3_readsChair_94 : decode cX3_readsChair 94 = .ok (.iload_n 1, 1) := by decide +kernel
theorem dX3_readsChair_95 : decode cX3_readsChair 95 = .ok (.iload_n 2, 1) := by decide +kernel
theorem dX3_readsChair_96 : decode cX3_readsChair 96 = .ok (.iload 5, 2) := by decide +kernel
theorem dX3_readsChair_98 : decode cX3_readsChair 98 = .ok (.iconst 0, 1) := by decide +kernel
theorem dX3_readsChair_99 : decode cX3_readsChair 99 = .ok (.iconst 3, 1) := by decide +kernel
theorem dX3_readsChair_100 : decode cX3_readsChair 100 = .ok (.invokevirtual 82, 3) := by decide +kernel
theorem dX3_readsChair_103 : decode cX3_readsChair 103 = .ok (.istore 6, 2) := by decide +kernel
theorem dX3_readsChair_105 : decode cX3_readsChair 105 = .ok (.aload_n 0, 1) := by decide +kernel
theorem dX3_readsChair_106 : decode cX3_readsChair 106 = .ok (.getfield 22, 3) := by decide +kernel
theorem dX3_readsChair_109 : decode cX3_readsChair 109 = .ok (.aload_n 0, 1) := by decide +kernel
theorem dX3_readsChair_110 : decode cX3_readsChair 110 = .ok (.getfield 79, 3) := by decide +kernel
theorem dX3_readsChair_113 : decode cX3_readsChair 113 = .ok (.iload_n 3, 1) := by decide +kernel
theorem dX3_readsChair_114 : decode cX3_readsChair 114 = .ok (.bipush 112, 2) := by decide +kernel
theorem dX3_readsChair_116 : decode cX3_readsChair 116 = .ok (.if_icmp .ne 7, 3) := by decide +kernel
theorem dX3_readsChair_119 : decode cX3_readsChair 119 = .ok (.iconst 0, 1) := by decide +kernel
theorem dX3_readsChair_120 : decode cX3_readsChair 120 = .ok (.goto 14, 3) := by decide +kernel
theorem dX3_readsChair_123 : decode cX3_readsChair 123 = .ok (.iload_n 3, 1) := by decide +kernel
theorem dX3_readsChair_124 : decode cX3_readsChair 124 = .ok (.bipush 115, 2) := by decide +kernel
theorem dX3_readsChair_126 : decode cX3_readsChair 126 = .ok (.if_icmp .ne 7, 3) := by decide +kernel
theorem dX3_readsChair_129 : decode cX3_readsChair 129 = .ok (.iconst 1, 1) := by decide +kernel
theorem dX3_readsChair_130 : decode cX3_readsChair 130 = .ok (.goto 4, 3) := by decide +kernel
theorem dX3_readsChair_133 : decode cX3_readsChair 133 = .ok (.iconst 2, 1) := by decide +kernel
theorem dX3_readsChair_134 : decode cX3_readsChair 134 = .ok (.iastore, 1) := by decide +kernel
theorem dX3_readsChair_135 : decode cX3_readsChair 135 = .ok (.aload_n 0, 1) := by decide +kernel
theorem dX3_readsChair_136 : decode cX3_readsChair 136 = .ok (.getfield 25, 3) := by decide +kernel
theorem dX3_readsChair_139 : decode cX3_readsChair 139 = .ok (.aload_n 0, 1) := by decide +kernel
theorem dX3_readsChair_140 : decode cX3_readsChair 140 = .ok (.getfield 79, 3) := by decide +kernel
theorem dX3_readsChair_143 : decode cX3_readsChair 143 = .ok (.iload 4, 2) := by decide +kernel
theorem dX3_readsChair_145 : decode cX3_readsChair 145 = .ok (.iastore, 1) := by decide +kernel
theorem dX3_readsChair_146 : decode cX3_readsChair 146 = .ok (.aload_n 0, 1) := by decide +kernel
theorem dX3_readsChair_147 : decode cX3_readsChair 147 = .ok (.getfield 28, 3) := by decide +kernel
theorem dX3_readsChair_150 : decode cX3_readsChair 150 = .ok (.aload_n 0, 1) := by decide +kernel
theorem dX3_readsChair_151 : decode cX3_readsChair 151 = .ok (.getfield 79, 3) := by decide +kernel
theorem dX3_readsChair_154 : decode cX3_readsChair 154 = .ok (.iload 5, 2) := by decide +kernel
theorem dX3_readsChair_156 : decode cX3_readsChair 156 = .ok (.iastore, 1) := by decide +kernel
theorem dX3_readsChair_157 : decode cX3_readsChair 157 = .ok (.aload_n 0, 1) := by decide +kernel
theorem dX3_readsChair_158 : decode cX3_readsChair 158 = .ok (.getfield 31, 3) := by decide +kernel
theorem dX3_readsChair_161 : decode cX3_readsChair 161 = .ok (.aload_n 0, 1) := by decide +kernel
theorem dX3_readsChair_162 : decode cX3_readsChair 162 = .ok (.getfield 79, 3) := by decide +kernel
theorem dX3_readsChair_165 : decode cX3_readsChair 165 = .ok (.iload 6, 2) := by decide +kernel
theorem dX3_readsChair_167 : decode cX3_readsChair 167 = .ok (.iastore, 1) := by decide +kernel
theorem dX3_readsChair_168 : decode cX3_readsChair 168 = .ok (.aload_n 0, 1) := by decide +kernel
theorem dX3_readsChair_169 : decode cX3_readsChair 169 = .ok (.dup, 1) := by decide +kernel
theorem dX3_readsChair_170 : decode cX3_readsChair 170 = .ok (.getfield 79, 3) := by decide +kernel
theorem dX3_readsChair_173 : decode cX3_readsChair 173 = .ok (.iconst 1, 1) := by decide +kernel
theorem dX3_readsChair_174 : decode cX3_readsChair 174 = .ok (.iadd, 1) := by decide +kernel
theorem dX3_readsChair_175 : decode cX3_readsChair 175 = .ok (.putfield 79, 3) := by decide +kernel
theorem dX3_readsChair_178 : decode cX3_readsChair 178 = .ok (.iload 6, 2) := by decide +kernel
theorem dX3_readsChair_180 : decode cX3_readsChair 180 = .ok (.ifCond .lt 7, 3) := by decide +kernel
theorem dX3_readsChair_183 : decode cX3_readsChair 183 = .ok (.iconst 1, 1) := by decide +kernel
theorem dX3_readsChair_184 : decode cX3_readsChair 184 = .ok (.goto 4, 3) := by decide +kernel
theorem dX3_readsChair_187 : decode cX3_readsChair 187 = .ok (.iconst 0, 1) := by decide +kernel
theorem dX3_readsChair_188 : decode cX3_readsChair 188 = .ok (.ireturn, 1) := by decide +kernel
set_option maxRecDepth 20000 in
theorem ggX3_readsFront_X3_codeAt : GoodIn wsX3_readsFront wsX3_codeAt := goodIn_r _ [7, 1, 8, 24, 25, 26, 27, 28, 29, 30, 31, 32, 33, 34, 35, 36, 37, 38, 39, 40, 41, 42, 43, 44, 45, 46] (by decide +kernel) (by decide +kernel)
set_option maxRecDepth 20000 in
theorem gX3_readsFront_X3_codeAt : GoodIn wsX3_readsFront (wsV RX3 75 RX3 yX3_codeAt wsX3_codeAt) := goodIn_app (goodIn_of _ (by decide +kernel)) ggX3_readsFront_X3_codeAt
set_option maxRecDepth 20000 in
theorem ggX3_readsFront_X3_readsChair : GoodIn wsX3_readsFront wsX3_readsChair := goodIn_r _ [12, 2, 1, 13, 14, 15, 16, 3, 4, 5, 6, 7, 8, 17, 18, 19, 20, 21, 22, 23, 24, 25, 26, 27, 28, 29, 30, 31, 32, 33, 34, 35, 36, 37, 38, 39, 40, 41, 42, 43, 44, 45, 46] (by decide +kernel) (by decide +kernel)
set_option maxRecDepth 20000 in
theorem gX3_readsFront_X3_readsChair : GoodIn wsX3_readsFront (wsV RX3 86 RX3 yX3_readsChair wsX3_readsChair) := goodIn_app (goodIn_of _ (by decide +kernel)) ggX3_readsFront_X3_readsChair
theorem dX3_readsFront_0 : decode cX3_readsFront 0 = .ok (.aload_n 0, 1) := by decide +kernel
theorem dX3_readsFront_1 : decode cX3_readsFront 1 = .ok (.iconst 0, 1) := by decide +kernel
theorem dX3_readsFront_2 : decode cX3_readsFront 2 = .ok (.putfield 72, 3) := by decide +kernel
theorem dX3_readsFront_5 : decode cX3_readsFront 5 = .ok (.aload_n 0, 1) := by decide +kernel
theorem dX3_readsFront_6 : decode cX3_readsFront 6 = .ok (.iconst 0, 1) := by decide +kernel
theorem dX3_readsFront_7 : decode cX3_readsFront 7 = .ok (.putfield 79, 3) := by decide +kernel
theorem dX3_readsFront_10 : decode cX3_readsFront 10 = .ok (.aload_n 0, 1) := by decide +kernel
theorem dX3_readsFront_11 : decode cX3_readsFront 11 = .ok (.iload_n 1, 1) := by decide +kernel
theorem dX3_readsFront_12 : decode cX3_readsFront 12 = .ok (.iload_n 2, 1) := by decide +kernel
theorem dX3_readsFront_13 : decode cX3_readsFront 13 = .ok (.invokevirtual 75, 3) := by decide +kernel
theorem dX3_readsFront_16 : decode cX3_readsFront 16 = .ok (.bipush 102, 2) := by decide +kernel
theorem dX3_readsFront_18 : decode cX3_readsFront 18 = .ok (.if_icmp .ne 7, 3) := by decide +kernel
theorem dX3_readsFront_21 : decode cX3_readsFront 21 = .ok (.iconst 1, 1) := by decide +kernel
theorem dX3_readsFront_22 : decode cX3_readsFront 22 = .ok (.goto 4, 3) := by decide +kernel
theorem dX3_readsFront_25 : decode cX3_readsFront 25 = .ok (.iconst 0, 1) := by decide +kernel
theorem dX3_readsFront_26 : decode cX3_readsFront 26 = .ok (.istore_n 3, 1) := by decide +kernel
theorem dX3_readsFront_27 : decode cX3_readsFront 27 = .ok (.aload_n 0, 1) := by decide +kernel
theorem dX3_readsFront_28 : decode cX3_readsFront 28 = .ok (.dup, 1) := by decide +kernel
theorem dX3_readsFront_29 : decode cX3_readsFront 29 = .ok (.getfield 72, 3) := by decide +kernel
theorem dX3_readsFront_32 : decode cX3_readsFront 32 = .ok (.iload_n 3, 1) := by decide +kernel
theorem dX3_readsFront_33 : decode cX3_readsFront 33 = .ok (.ifCond .eq 7, 3) := by decide +kernel
theorem dX3_readsFront_36 : decode cX3_readsFront 36 = .ok (.iconst 1, 1) := by decide +kernel
theorem dX3_readsFront_37 : decode cX3_readsFront 37 = .ok (.goto 4, 3) := by decide +kernel
theorem dX3_readsFront_40 : decode cX3_readsFront 40 = .ok (.iconst 0, 1) := by decide +kernel
theorem dX3_readsFront_41 : decode cX3_readsFront 41 = .ok (.iadd, 1) := by decide +kernel
theorem dX3_readsFront_42 : decode cX3_readsFront 42 = .ok (.putfield 72, 3) := by decide +kernel
theorem dX3_readsFront_45 : decode cX3_readsFront 45 = .ok (.iload_n 3, 1) := by decide +kernel
theorem dX3_readsFront_46 : decode cX3_readsFront 46 = .ok (.ifCond .eq 29, 3) := by decide +kernel
theorem dX3_readsFront_49 : decode cX3_readsFront 49 = .ok (.aload_n 0, 1) := by decide +kernel
theorem dX3_readsFront_50 : decode cX3_readsFront 50 = .ok (.getfield 79, 3) := by decide +kernel
theorem dX3_readsFront_53 : decode cX3_readsFront 53 = .ok (.iconst 2, 1) := by decide +kernel
theorem dX3_readsFront_54 : decode cX3_readsFront 54 = .ok (.if_icmp .lt 11, 3) := by decide +kernel
theorem dX3_readsFront_57 : decode cX3_readsFront 57 = .ok (.aload_n 0, 1) := by decide +kernel
theorem dX3_readsFront_58 : decode cX3_readsFront 58 = .ok (.getfield 72, 3) := by decide +kernel
theorem dX3_readsFront_61 : decode cX3_readsFront 61 = .ok (.iload_n 2, 1) := by decide +kernel
theorem dX3_readsFront_62 : decode cX3_readsFront 62 = .ok (.if_icmp .ge 13, 3) := by decide +kernel
theorem dX3_readsFront_65 : decode cX3_readsFront 65 = .ok (.aload_n 0, 1) := by decide +kernel
theorem dX3_readsFront_66 : decode cX3_readsFront 66 = .ok (.iload_n 1, 1) := by decide +kernel
theorem dX3_readsFront_67 : decode cX3_readsFront 67 = .ok (.iload_n 2, 1) := by decide +kernel
theorem dX3_readsFront_68 : decode cX3_readsFront 68 = .ok (.invokevirtual 86, 3) := by decide +kernel
theorem dX3_readsFront_71 : decode cX3_readsFront 71 = .ok (.istore_n 3, 1) := by decide +kernel
theorem dX3_readsFront_72 : decode cX3_readsFront 72 = .ok (.goto (-27), 3) := by decide +kernel
theorem dX3_readsFront_75 : decode cX3_readsFront 75 = .ok (.iload_n 3, 1) := by decide +kernel
theorem dX3_readsFront_76 : decode cX3_readsFront 76 = .ok (.ireturn, 1) := by decide +kernel
set_option maxRecDepth 20000 in
theorem ggX3_cellsBarred_X3_failed : GoodIn wsX3_cellsBarred wsX3_failed := goodIn_r _ [7, 8, 12, 13, 14, 15, 16, 17, 18, 19, 20, 21, 22, 23, 24, 25, 26, 27, 28, 29, 30, 31, 32, 33, 34] (by decide +kernel) (by decide +kernel)
set_option maxRecDepth 20000 in
theorem gX3_cellsBarred_X3_failed : GoodIn wsX3_cellsBarred (wsV RX3 90 RX3 yX3_failed wsX3_failed) := goodIn_app (goodIn_of _ (by decide +kernel)) ggX3_cellsBarred_X3_failed
set_option maxRecDepth 20000 in
theorem ggX3_cellsBarred_X3_isBeyond : GoodIn wsX3_cellsBarred wsX3_isBeyond := goodIn_r _ [11] (by decide +kernel) (by decide +kernel)
set_option maxRecDepth 20000 in
theorem gX3_cellsBarred_X3_isBeyond : GoodIn wsX3_cellsBarred (va_wsS RX3 94 yX3_isBeyond wsX3_isBeyond) := goodIn_app (goodIn_of _ (by decide +kernel)) ggX3_cellsBarred_X3_isBeyond
theorem dX3_cellsBarred_0 : decode cX3_cellsBarred 0 = .ok (.aload_n 0, 1) := by decide +kernel
theorem dX3_cellsBarred_1 : decode cX3_cellsBarred 1 = .ok (.getfield 43, 3) := by decide +kernel
theorem dX3_cellsBarred_4 : decode cX3_cellsBarred 4 = .ok (.iload_n 1, 1) := by decide +kernel
theorem dX3_cellsBarred_5 : decode cX3_cellsBarred 5 = .ok (.iaload, 1) := by decide +kernel
theorem dX3_cellsBarred_6 : decode cX3_cellsBarred 6 = .ok (.ifCond .lt 19, 3) := by decide +kernel
theorem dX3_cellsBarred_9 : decode cX3_cellsBarred 9 = .ok (.aload_n 0, 1) := by decide +kernel
theorem dX3_cellsBarred_10 : decode cX3_cellsBarred 10 = .ok (.getfield 46, 3) := by decide +kernel
theorem dX3_cellsBarred_13 : decode cX3_cellsBarred 13 = .ok (.iload_n 1, 1) := by decide +kernel
theorem dX3_cellsBarred_14 : decode cX3_cellsBarred 14 = .ok (.iaload, 1) := by decide +kernel
theorem dX3_cellsBarred_15 : decode cX3_cellsBarred 15 = .ok (.iload_n 2, 1) := by decide +kernel
theorem dX3_cellsBarred_16 : decode cX3_cellsBarred 16 = .ok (.if_icmp .eq 9, 3) := by decide +kernel
theorem dX3_cellsBarred_19 : decode cX3_cellsBarred 19 = .ok (.aload_n 0, 1) := by decide +kernel
theorem dX3_cellsBarred_20 : decode cX3_cellsBarred 20 = .ok (.iconst 2, 1) := by decide +kernel
theorem dX3_cellsBarred_21 : decode cX3_cellsBarred 21 = .ok (.invokevirtual 90, 3) := by decide +kernel
theorem dX3_cellsBarred_24 : decode cX3_cellsBarred 24 = .ok (.ireturn, 1) := by decide +kernel
theorem dX3_cellsBarred_25 : decode cX3_cellsBarred 25 = .ok (.aload_n 0, 1) := by decide +kernel
theorem dX3_cellsBarred_26 : decode cX3_cellsBarred 26 = .ok (.getfield 43, 3) := by decide +kernel
theorem dX3_cellsBarred_29 : decode cX3_cellsBarred 29 = .ok (.iload_n 1, 1) := by decide +kernel
theorem dX3_cellsBarred_30 : decode cX3_cellsBarred 30 = .ok (.iaload, 1) := by decide +kernel
theorem dX3_cellsBarred_31 : decode cX3_cellsBarred 31 = .ok (.ifCond .ge 9, 3) := by decide +kernel
theorem dX3_cellsBarred_34 : decode cX3_cellsBarred 34 = .ok (.aload_n 0, 1) := by decide +kernel
theorem dX3_cellsBarred_35 : decode cX3_cellsBarred 35 = .ok (.iconst 1, 1) := by decide +kernel
theorem dX3_cellsBarred_36 : decode cX3_cellsBarred 36 = .ok (.invokevirtual 90, 3) := by decide +kernel
theorem dX3_cellsBarred_39 : decode cX3_cellsBarred 39 = .ok (.ireturn, 1) := by decide +kernel
theorem dX3_cellsBarred_40 : decode cX3_cellsBarred 40 = .ok (.lload 4, 2) := by decide +kernel
theorem dX3_cellsBarred_42 : decode cX3_cellsBarred 42 = .ok (.lconst 0, 1) := by decide +kernel
theorem dX3_cellsBarred_43 : decode cX3_cellsBarred 43 = .ok (.lcmp, 1) := by decide +kernel
theorem dX3_cellsBarred_44 : decode cX3_cellsBarred 44 = .ok (.ifCond .ge 9, 3) := by decide +kernel
theorem dX3_cellsBarred_47 : decode cX3_cellsBarred 47 = .ok (.aload_n 0, 1) := by decide +kernel
theorem dX3_cellsBarred_48 : decode cX3_cellsBarred 48 = .ok (.iconst 4, 1) := by decide +kernel
theorem dX3_cellsBarred_49 : decode cX3_cellsBarred 49 = .ok (.invokevirtual 90, 3) := by decide +kernel
theorem dX3_cellsBarred_52 : decode cX3_cellsBarred 52 = .ok (.ireturn, 1) := by decide +kernel
theorem dX3_cellsBarred_53 : decode cX3_cellsBarred 53 = .ok (.iload_n 3, 1) := by decide +kernel
theorem dX3_cellsBarred_54 : decode cX3_cellsBarred 54 = .ok (.lload 4, 2) := by decide +kernel
theorem dX3_cellsBarred_56 : decode cX3_cellsBarred 56 = .ok (.aload_n 0, 1) := by decide +kernel
theorem dX3_cellsBarred_57 : decode cX3_cellsBarred 57 = .ok (.getfield 43, 3) := by decide +kernel
theorem dX3_cellsBarred_60 : decode cX3_cellsBarred 60 = .ok (.iload_n 1, 1) := by decide +kernel
theorem dX3_cellsBarred_61 : decode cX3_cellsBarred 61 = .ok (.iaload, 1) := by decide +kernel
theorem dX3_cellsBarred_62 : decode cX3_cellsBarred 62 = .ok (.invokestatic 94, 3) := by decide +kernel
theorem dX3_cellsBarred_65 : decode cX3_cellsBarred 65 = .ok (.ifCond .eq 11, 3) := by decide +kernel
theorem dX3_cellsBarred_68 : decode cX3_cellsBarred 68 = .ok (.aload_n 0, 1) := by decide +kernel
theorem dX3_cellsBarred_69 : decode cX3_cellsBarred 69 = .ok (.iconst 3, 1) := by decide +kernel
theorem dX3_cellsBarred_70 : decode cX3_cellsBarred 70 = .ok (.invokevirtual 90, 3) := by decide +kernel
theorem dX3_cellsBarred_73 : decode cX3_cellsBarred 73 = .ok (.goto 4, 3) := by decide +kernel
theorem dX3_cellsBarred_76 : decode cX3_cellsBarred 76 = .ok (.iconst 0, 1) := by decide +kernel
theorem dX3_cellsBarred_77 : decode cX3_cellsBarred 77 = .ok (.ireturn, 1) := by decide +kernel
set_option maxRecDepth 20000 in
theorem ggX3_front_X3_noSheet : GoodIn wsX3_front wsX3_noSheet := goodIn_r _ [18, 19, 20, 21, 17, 22] (by decide +kernel) (by decide +kernel)
set_option maxRecDepth 20000 in
theorem gX3_front_X3_noSheet : GoodIn wsX3_front (va_wsS RX3 98 yX3_noSheet wsX3_noSheet) := goodIn_app (goodIn_of _ (by decide +kernel)) ggX3_front_X3_noSheet
set_option maxRecDepth 20000 in
theorem ggX3_front_X3_refused : GoodIn wsX3_front wsX3_refused := goodIn_r _ [26, 27, 58, 59, 60, 61, 62, 63, 64, 65, 66, 67, 68, 69, 70, 71, 72, 73, 74, 75, 76, 77, 78, 79, 80] (by decide +kernel) (by decide +kernel)
set_option maxRecDepth 20000 in
theorem gX3_front_X3_refused : GoodIn wsX3_front (wsV RX3 102 RX3 yX3_refused wsX3_refused) := goodIn_app (goodIn_of _ (by decide +kernel)) ggX3_front_X3_refused
set_option maxRecDepth 20000 in
theorem ggX3_front_X3_in : GoodIn wsX3_front wsX3_in := goodIn_r _ [22] (by decide +kernel) (by decide +kernel)
set_option maxRecDepth 20000 in
theorem gX3_front_X3_in : GoodIn wsX3_front (va_wsS RX3 68 yX3_in wsX3_in) := goodIn_app (goodIn_of _ (by decide +kernel)) ggX3_front_X3_in
set_option maxRecDepth 20000 in
theorem ggX3_front_X3_cellsBarred : GoodIn wsX3_front wsX3_cellsBarred := goodIn_r _ [31, 32, 33, 34, 35, 36, 17, 37, 27, 38, 39, 40, 58, 59, 60, 61, 62, 63, 64, 65, 66, 67, 68, 69, 70, 71, 72, 73, 74, 75, 76, 77, 78, 79, 80] (by decide +kernel) (by decide +kernel)
set_option maxRecDepth 20000 in
theorem gX3_front_X3_cellsBarred : GoodIn wsX3_front (wsV RX3 107 RX3 yX3_cellsBarred wsX3_cellsBarred) := goodIn_app (goodIn_of _ (by decide +kernel)) ggX3_front_X3_cellsBarred
set_option maxRecDepth 20000 in
theorem ggX3_front_X3_readsFront : GoodIn wsX3_front wsX3_readsFront := goodIn_r _ [44, 2, 3, 45, 46, 47, 17, 48, 49, 50, 51, 52, 53, 7, 9, 11, 13, 54, 55, 56, 57, 20, 21, 22, 58, 59, 60, 61, 62, 63, 64, 65, 66, 67, 68, 69, 70, 71, 72, 73, 74, 75, 76, 77, 78, 79, 80] (by decide +kernel) (by decide +kernel)
set_option maxRecDepth 20000 in
theorem gX3_front_X3_readsFront : GoodIn wsX3_front (wsV RX3 111 RX3 yX3_readsFront wsX3_readsFront) := goodIn_app (goodIn_of _ (by decide +kernel)) ggX3_front_X3_readsFront
theorem dX3_front_0 : decode cX3_front 0 = .ok (.iload_n 1, 1) := by decide +kernel
theorem dX3_front_1 : decode cX3_front 1 = .ok (.invokestatic 98, 3) := by decide +kernel
theorem dX3_front_4 : decode cX3_front 4 = .ok (.ifCond .eq 9, 3) := by decide +kernel
theorem dX3_front_7 : decode cX3_front 7 = .ok (.aload_n 0, 1) := by decide +kernel
theorem dX3_front_8 : decode cX3_front 8 = .ok (.iconst (-1), 1) := by decide +kernel
theorem dX3_front_9 : decode cX3_front 9 = .ok (.invokevirtual 102, 3) := by decide +kernel
theorem dX3_front_12 : decode cX3_front 12 = .ok (.ireturn, 1) := by decide +kernel
theorem dX3_front_13 : decode cX3_front 13 = .ok (.iload_n 2, 1) := by decide +kernel
theorem dX3_front_14 : decode cX3_front 14 = .ok (.i2l, 1) := by decide +kernel
theorem dX3_front_15 : decode cX3_front 15 = .ok (.lconst 0, 1) := by decide +kernel
theorem dX3_front_16 : decode cX3_front 16 = .ok (.ldc2_w 105, 3) := by decide +kernel
theorem dX3_front_19 : decode cX3_front 19 = .ok (.invokestatic 68, 3) := by decide +kernel
theorem dX3_front_22 : decode cX3_front 22 = .ok (.ifCond .ne 10, 3) := by decide +kernel
theorem dX3_front_25 : decode cX3_front 25 = .ok (.aload_n 0, 1) := by decide +kernel
theorem dX3_front_26 : decode cX3_front 26 = .ok (.bipush (-2), 2) := by decide +kernel
theorem dX3_front_28 : decode cX3_front 28 = .ok (.invokevirtual 102, 3) := by decide +kernel
theorem dX3_front_31 : decode cX3_front 31 = .ok (.ireturn, 1) := by decide +kernel
theorem dX3_front_32 : decode cX3_front 32 = .ok (.aload_n 0, 1) := by decide +kernel
theorem dX3_front_33 : decode cX3_front 33 = .ok (.iload_n 1, 1) := by decide +kernel
theorem dX3_front_34 : decode cX3_front 34 = .ok (.iload_n 2, 1) := by decide +kernel
theorem dX3_front_35 : decode cX3_front 35 = .ok (.iload_n 3, 1) := by decide +kernel
theorem dX3_front_36 : decode cX3_front 36 = .ok (.iload 4, 2) := by decide +kernel
theorem dX3_front_38 : decode cX3_front 38 = .ok (.i2l, 1) := by decide +kernel
theorem dX3_front_39 : decode cX3_front 39 = .ok (.invokevirtual 107, 3) := by decide +kernel
theorem dX3_front_42 : decode cX3_front 42 = .ok (.istore 5, 2) := by decide +kernel
theorem dX3_front_44 : decode cX3_front 44 = .ok (.iload 5, 2) := by decide +kernel
theorem dX3_front_46 : decode cX3_front 46 = .ok (.ifCond .ge 6, 3) := by decide +kernel
theorem dX3_front_49 : decode cX3_front 49 = .ok (.iload 5, 2) := by decide +kernel
theorem dX3_front_51 : decode cX3_front 51 = .ok (.ireturn, 1) := by decide +kernel
theorem dX3_front_52 : decode cX3_front 52 = .ok (.aload_n 0, 1) := by decide +kernel
theorem dX3_front_53 : decode cX3_front 53 = .ok (.bipush 60, 2) := by decide +kernel
theorem dX3_front_55 : decode cX3_front 55 = .ok (.iload_n 1, 1) := by decide +kernel
theorem dX3_front_56 : decode cX3_front 56 = .ok (.imul, 1) := by decide +kernel
theorem dX3_front_57 : decode cX3_front 57 = .ok (.iload_n 3, 1) := by decide +kernel
theorem dX3_front_58 : decode cX3_front 58 = .ok (.iadd, 1) := by decide +kernel
theorem dX3_front_59 : decode cX3_front 59 = .ok (.iload 4, 2) := by decide +kernel
theorem dX3_front_61 : decode cX3_front 61 = .ok (.invokevirtual 111, 3) := by decide +kernel
theorem dX3_front_64 : decode cX3_front 64 = .ok (.ifCond .ne 15, 3) := by decide +kernel
theorem dX3_front_67 : decode cX3_front 67 = .ok (.aload_n 0, 1) := by decide +kernel
theorem dX3_front_68 : decode cX3_front 68 = .ok (.bipush (-100), 2) := by decide +kernel
theorem dX3_front_70 : decode cX3_front 70 = .ok (.aload_n 0, 1) := by decide +kernel
theorem dX3_front_71 : decode cX3_front 71 = .ok (.getfield 72, 3) := by decide +kernel
theorem dX3_front_74 : decode cX3_front 74 = .ok (.isub, 1) := by decide +kernel
theorem dX3_front_75 : decode cX3_front 75 = .ok (.invokevirtual 102, 3) := by decide +kernel
theorem dX3_front_78 : decode cX3_front 78 = .ok (.ireturn, 1) := by decide +kernel
theorem dX3_front_79 : decode cX3_front 79 = .ok (.aload_n 0, 1) := by decide +kernel
theorem dX3_front_80 : decode cX3_front 80 = .ok (.aload_n 0, 1) := by decide +kernel
theorem dX3_front_81 : decode cX3_front 81 = .ok (.getfield 79, 3) := by decide +kernel
theorem dX3_front_84 : decode cX3_front 84 = .ok (.putfield 65, 3) := by decide +kernel
theorem dX3_front_87 : decode cX3_front 87 = .ok (.aload_n 0, 1) := by decide +kernel
theorem dX3_front_88 : decode cX3_front 88 = .ok (.iconst 0, 1) := by decide +kernel
theorem dX3_front_89 : decode cX3_front 89 = .ok (.putfield 114, 3) := by decide +kernel
theorem dX3_front_92 : decode cX3_front 92 = .ok (.iconst 0, 1) := by decide +kernel
theorem dX3_front_93 : decode cX3_front 93 = .ok (.istore 6, 2) := by decide +kernel
theorem dX3_front_95 : decode cX3_front 95 = .ok (.iload 6, 2) := by decide +kernel
theorem dX3_front_97 : decode cX3_front 97 = .ok (.aload_n 0, 1) := by decide +kernel
theorem dX3_front_98 : decode cX3_front 98 = .ok (.getfield 65, 3) := by decide +kernel
theorem dX3_front_101 : decode cX3_front 101 = .ok (.if_icmp .ge 65, 3) := by decide +kernel
theorem dX3_front_104 : decode cX3_front 104 = .ok (.aload_n 0, 1) := by decide +kernel
theorem dX3_front_105 : decode cX3_front 105 = .ok (.getfield 7, 3) := by decide +kernel
theorem dX3_front_108 : decode cX3_front 108 = .ok (.iload 6, 2) := by decide +kernel
theorem dX3_front_110 : decode cX3_front 110 = .ok (.aload_n 0, 1) := by decide +kernel
theorem dX3_front_111 : decode cX3_front 111 = .ok (.getfield 22, 3) := by decide +kernel
theorem dX3_front_114 : decode cX3_front 114 = .ok (.iload 6, 2) := by decide +kernel
theorem dX3_front_116 : decode cX3_front 116 = .ok (.iaload, 1) := by decide +kernel
theorem dX3_front_117 : decode cX3_front 117 = .ok (.iastore, 1) := by decide +kernel
theorem dX3_front_118 : decode cX3_front 118 = .ok (.aload_n 0, 1) := by decide +kernel
theorem dX3_front_119 : decode cX3_front 119 = .ok (.getfield 13, 3) := by decide +kernel
theorem dX3_front_122 : decode cX3_front 122 = .ok (.iload 6, 2) := by decide +kernel
theorem dX3_front_124 : decode cX3_front 124 = .ok (.aload_n 0, 1) := by decide +kernel
theorem dX3_front_125 : decode cX3_front 125 = .ok (.getfield 25, 3) := by decide +kernel
theorem dX3_front_128 : decode cX3_front 128 = .ok (.iload 6, 2) := by decide +kernel
theorem dX3_front_130 : decode cX3_front 130 = .ok (.iaload, 1) := by decide +kernel
theorem dX3_front_131 : decode cX3_front 131 = .ok (.iastore, 1) := by decide +kernel
theorem dX3_front_132 : decode cX3_front 132 = .ok (.aload_n 0, 1) := by decide +kernel
theorem dX3_front_133 : decode cX3_front 133 = .ok (.getfield 16, 3) := by decide +kernel
theorem dX3_front_136 : decode cX3_front 136 = .ok (.iload 6, 2) := by decide +kernel
theorem dX3_front_138 : decode cX3_front 138 = .ok (.aload_n 0, 1) := by decide +kernel
theorem dX3_front_139 : decode cX3_front 139 = .ok (.getfield 28, 3) := by decide +kernel
theorem dX3_front_142 : decode cX3_front 142 = .ok (.iload 6, 2) := by decide +kernel
theorem dX3_front_144 : decode cX3_front 144 = .ok (.iaload, 1) := by decide +kernel
theorem dX3_front_145 : decode cX3_front 145 = .ok (.iastore, 1) := by decide +kernel
