theorem dX3_front_146 : decode cX3_front 146 = .ok (.aload_n 0, 1) := by decide +kernel
theorem dX3_front_147 : decode cX3_front 147 = .ok (.getfield 19, 3) := by decide +kernel
theorem dX3_front_150 : decode cX3_front 150 = .ok (.iload 6, 2) := by decide +kernel
theorem dX3_front_152 : decode cX3_front 152 = .ok (.aload_n 0, 1) := by decide +kernel
theorem dX3_front_153 : decode cX3_front 153 = .ok (.getfield 31, 3) := by decide +kernel
theorem dX3_front_156 : decode cX3_front 156 = .ok (.iload 6, 2) := by decide +kernel
theorem dX3_front_158 : decode cX3_front 158 = .ok (.iaload, 1) := by decide +kernel
theorem dX3_front_159 : decode cX3_front 159 = .ok (.iastore, 1) := by decide +kernel
theorem dX3_front_160 : decode cX3_front 160 = .ok (.iinc 6 1, 3) := by decide +kernel
theorem dX3_front_163 : decode cX3_front 163 = .ok (.goto (-68), 3) := by decide +kernel
theorem dX3_front_166 : decode cX3_front 166 = .ok (.aload_n 0, 1) := by decide +kernel
theorem dX3_front_167 : decode cX3_front 167 = .ok (.iconst 0, 1) := by decide +kernel
theorem dX3_front_168 : decode cX3_front 168 = .ok (.putfield 117, 3) := by decide +kernel
theorem dX3_front_171 : decode cX3_front 171 = .ok (.aload_n 0, 1) := by decide +kernel
theorem dX3_front_172 : decode cX3_front 172 = .ok (.aload_n 0, 1) := by decide +kernel
theorem dX3_front_173 : decode cX3_front 173 = .ok (.getfield 65, 3) := by decide +kernel
theorem dX3_front_176 : decode cX3_front 176 = .ok (.invokevirtual 102, 3) := by decide +kernel
theorem dX3_front_179 : decode cX3_front 179 = .ok (.ireturn, 1) := by decide +kernel
theorem dX3_votesOpen_0 : decode cX3_votesOpen 0 = .ok (.aload_n 0, 1) := by decide +kernel
theorem dX3_votesOpen_1 : decode cX3_votesOpen 1 = .ok (.getfield 16, 3) := by decide +kernel
theorem dX3_votesOpen_4 : decode cX3_votesOpen 4 = .ok (.iload_n 1, 1) := by decide +kernel
theorem dX3_votesOpen_5 : decode cX3_votesOpen 5 = .ok (.iaload, 1) := by decide +kernel
theorem dX3_votesOpen_6 : decode cX3_votesOpen 6 = .ok (.iconst 1, 1) := by decide +kernel
theorem dX3_votesOpen_7 : decode cX3_votesOpen 7 = .ok (.iadd, 1) := by decide +kernel
theorem dX3_votesOpen_8 : decode cX3_votesOpen 8 = .ok (.istore_n 2, 1) := by decide +kernel
theorem dX3_votesOpen_9 : decode cX3_votesOpen 9 = .ok (.aload_n 0, 1) := by decide +kernel
theorem dX3_votesOpen_10 : decode cX3_votesOpen 10 = .ok (.getfield 7, 3) := by decide +kernel
theorem dX3_votesOpen_13 : decode cX3_votesOpen 13 = .ok (.iload_n 1, 1) := by decide +kernel
theorem dX3_votesOpen_14 : decode cX3_votesOpen 14 = .ok (.iaload, 1) := by decide +kernel
theorem dX3_votesOpen_15 : decode cX3_votesOpen 15 = .ok (.ifCond .ne 12, 3) := by decide +kernel
theorem dX3_votesOpen_18 : decode cX3_votesOpen 18 = .ok (.aload_n 0, 1) := by decide +kernel
theorem dX3_votesOpen_19 : decode cX3_votesOpen 19 = .ok (.getfield 16, 3) := by decide +kernel
theorem dX3_votesOpen_22 : decode cX3_votesOpen 22 = .ok (.iload_n 1, 1) := by decide +kernel
theorem dX3_votesOpen_23 : decode cX3_votesOpen 23 = .ok (.iaload, 1) := by decide +kernel
theorem dX3_votesOpen_24 : decode cX3_votesOpen 24 = .ok (.goto 20, 3) := by decide +kernel
theorem dX3_votesOpen_27 : decode cX3_votesOpen 27 = .ok (.aload_n 0, 1) := by decide +kernel
theorem dX3_votesOpen_28 : decode cX3_votesOpen 28 = .ok (.getfield 7, 3) := by decide +kernel
theorem dX3_votesOpen_31 : decode cX3_votesOpen 31 = .ok (.iload_n 1, 1) := by decide +kernel
theorem dX3_votesOpen_32 : decode cX3_votesOpen 32 = .ok (.iaload, 1) := by decide +kernel
theorem dX3_votesOpen_33 : decode cX3_votesOpen 33 = .ok (.iconst 1, 1) := by decide +kernel
theorem dX3_votesOpen_34 : decode cX3_votesOpen 34 = .ok (.if_icmp .ne 7, 3) := by decide +kernel
theorem dX3_votesOpen_37 : decode cX3_votesOpen 37 = .ok (.iload_n 2, 1) := by decide +kernel
theorem dX3_votesOpen_38 : decode cX3_votesOpen 38 = .ok (.goto 6, 3) := by decide +kernel
theorem dX3_votesOpen_41 : decode cX3_votesOpen 41 = .ok (.iload_n 2, 1) := by decide +kernel
theorem dX3_votesOpen_42 : decode cX3_votesOpen 42 = .ok (.iconst 2, 1) := by decide +kernel
theorem dX3_votesOpen_43 : decode cX3_votesOpen 43 = .ok (.idiv, 1) := by decide +kernel
theorem dX3_votesOpen_44 : decode cX3_votesOpen 44 = .ok (.ireturn, 1) := by decide +kernel
set_option maxRecDepth 20000 in
theorem ggX3_votesOf_X3_isIn : GoodIn wsX3_votesOf wsX3_isIn := goodIn_r _ [5] (by decide +kernel) (by decide +kernel)
set_option maxRecDepth 20000 in
theorem gX3_votesOf_X3_isIn : GoodIn wsX3_votesOf (va_wsS RX3 120 yX3_isIn wsX3_isIn) := goodIn_app (goodIn_of _ (by decide +kernel)) ggX3_votesOf_X3_isIn
set_option maxRecDepth 20000 in
theorem ggX3_votesOf_X3_votesOpen : GoodIn wsX3_votesOf wsX3_votesOpen := goodIn_r _ [9, 10, 11, 12, 13, 14, 15, 16, 17, 18, 19, 20, 21, 22, 23, 24, 25, 26, 27, 28, 29, 30, 31, 32, 33, 34] (by decide +kernel) (by decide +kernel)
set_option maxRecDepth 20000 in
theorem gX3_votesOf_X3_votesOpen : GoodIn wsX3_votesOf (wsV RX3 123 RX3 yX3_votesOpen wsX3_votesOpen) := goodIn_app (goodIn_of _ (by decide +kernel)) ggX3_votesOf_X3_votesOpen
theorem dX3_votesOf_0 : decode cX3_votesOf 0 = .ok (.aload_n 0, 1) := by decide +kernel
theorem dX3_votesOf_1 : decode cX3_votesOf 1 = .ok (.getfield 114, 3) := by decide +kernel
theorem dX3_votesOf_4 : decode cX3_votesOf 4 = .ok (.iload_n 1, 1) := by decide +kernel
theorem dX3_votesOf_5 : decode cX3_votesOf 5 = .ok (.invokestatic 120, 3) := by decide +kernel
theorem dX3_votesOf_8 : decode cX3_votesOf 8 = .ok (.ifCond .eq 7, 3) := by decide +kernel
theorem dX3_votesOf_11 : decode cX3_votesOf 11 = .ok (.iconst 0, 1) := by decide +kernel
theorem dX3_votesOf_12 : decode cX3_votesOf 12 = .ok (.goto 8, 3) := by decide +kernel
theorem dX3_votesOf_15 : decode cX3_votesOf 15 = .ok (.aload_n 0, 1) := by decide +kernel
theorem dX3_votesOf_16 : decode cX3_votesOf 16 = .ok (.iload_n 1, 1) := by decide +kernel
theorem dX3_votesOf_17 : decode cX3_votesOf 17 = .ok (.invokevirtual 123, 3) := by decide +kernel
theorem dX3_votesOf_20 : decode cX3_votesOf 20 = .ok (.ireturn, 1) := by decide +kernel
set_option maxRecDepth 20000 in
theorem ggX3_meets_X3_isIn : GoodIn wsX3_meets wsX3_isIn := goodIn_r _ [7] (by decide +kernel) (by decide +kernel)
set_option maxRecDepth 20000 in
theorem gX3_meets_X3_isIn : GoodIn wsX3_meets (va_wsS RX3 120 yX3_isIn wsX3_isIn) := goodIn_app (goodIn_of _ (by decide +kernel)) ggX3_meets_X3_isIn
theorem dX3_meets_0 : decode cX3_meets 0 = .ok (.iload_n 1, 1) := by decide +kernel
theorem dX3_meets_1 : decode cX3_meets 1 = .ok (.ifCond .lt 41, 3) := by decide +kernel
theorem dX3_meets_4 : decode cX3_meets 4 = .ok (.iload_n 1, 1) := by decide +kernel
theorem dX3_meets_5 : decode cX3_meets 5 = .ok (.iconst 1, 1) := by decide +kernel
theorem dX3_meets_6 : decode cX3_meets 6 = .ok (.iadd, 1) := by decide +kernel
theorem dX3_meets_7 : decode cX3_meets 7 = .ok (.aload_n 0, 1) := by decide +kernel
theorem dX3_meets_8 : decode cX3_meets 8 = .ok (.getfield 65, 3) := by decide +kernel
theorem dX3_meets_11 : decode cX3_meets 11 = .ok (.if_icmp .ge 31, 3) := by decide +kernel
theorem dX3_meets_14 : decode cX3_meets 14 = .ok (.aload_n 0, 1) := by decide +kernel
theorem dX3_meets_15 : decode cX3_meets 15 = .ok (.getfield 114, 3) := by decide +kernel
theorem dX3_meets_18 : decode cX3_meets 18 = .ok (.iload_n 1, 1) := by decide +kernel
theorem dX3_meets_19 : decode cX3_meets 19 = .ok (.invokestatic 120, 3) := by decide +kernel
theorem dX3_meets_22 : decode cX3_meets 22 = .ok (.ifCond .ne 20, 3) := by decide +kernel
theorem dX3_meets_25 : decode cX3_meets 25 = .ok (.aload_n 0, 1) := by decide +kernel
theorem dX3_meets_26 : decode cX3_meets 26 = .ok (.getfield 114, 3) := by decide +kernel
theorem dX3_meets_29 : decode cX3_meets 29 = .ok (.iload_n 1, 1) := by decide +kernel
theorem dX3_meets_30 : decode cX3_meets 30 = .ok (.iconst 1, 1) := by decide +kernel
theorem dX3_meets_31 : decode cX3_meets 31 = .ok (.iadd, 1) := by decide +kernel
theorem dX3_meets_32 : decode cX3_meets 32 = .ok (.invokestatic 120, 3) := by decide +kernel
theorem dX3_meets_35 : decode cX3_meets 35 = .ok (.ifCond .ne 7, 3) := by decide +kernel
theorem dX3_meets_38 : decode cX3_meets 38 = .ok (.iconst 1, 1) := by decide +kernel
theorem dX3_meets_39 : decode cX3_meets 39 = .ok (.goto 4, 3) := by decide +kernel
theorem dX3_meets_42 : decode cX3_meets 42 = .ok (.iconst 0, 1) := by decide +kernel
theorem dX3_meets_43 : decode cX3_meets 43 = .ok (.istore_n 2, 1) := by decide +kernel
theorem dX3_meets_44 : decode cX3_meets 44 = .ok (.iload_n 2, 1) := by decide +kernel
theorem dX3_meets_45 : decode cX3_meets 45 = .ok (.ifCond .eq 29, 3) := by decide +kernel
theorem dX3_meets_48 : decode cX3_meets 48 = .ok (.aload_n 0, 1) := by decide +kernel
theorem dX3_meets_49 : decode cX3_meets 49 = .ok (.getfield 19, 3) := by decide +kernel
theorem dX3_meets_52 : decode cX3_meets 52 = .ok (.iload_n 1, 1) := by decide +kernel
theorem dX3_meets_53 : decode cX3_meets 53 = .ok (.iaload, 1) := by decide +kernel
theorem dX3_meets_54 : decode cX3_meets 54 = .ok (.iconst 1, 1) := by decide +kernel
theorem dX3_meets_55 : decode cX3_meets 55 = .ok (.if_icmp .ne 19, 3) := by decide +kernel
theorem dX3_meets_58 : decode cX3_meets 58 = .ok (.aload_n 0, 1) := by decide +kernel
theorem dX3_meets_59 : decode cX3_meets 59 = .ok (.getfield 19, 3) := by decide +kernel
theorem dX3_meets_62 : decode cX3_meets 62 = .ok (.iload_n 1, 1) := by decide +kernel
theorem dX3_meets_63 : decode cX3_meets 63 = .ok (.iconst 1, 1) := by decide +kernel
theorem dX3_meets_64 : decode cX3_meets 64 = .ok (.iadd, 1) := by decide +kernel
theorem dX3_meets_65 : decode cX3_meets 65 = .ok (.iaload, 1) := by decide +kernel
theorem dX3_meets_66 : decode cX3_meets 66 = .ok (.iconst 3, 1) := by decide +kernel
theorem dX3_meets_67 : decode cX3_meets 67 = .ok (.if_icmp .ne 7, 3) := by decide +kernel
theorem dX3_meets_70 : decode cX3_meets 70 = .ok (.iconst 1, 1) := by decide +kernel
theorem dX3_meets_71 : decode cX3_meets 71 = .ok (.goto 4, 3) := by decide +kernel
theorem dX3_meets_74 : decode cX3_meets 74 = .ok (.iconst 0, 1) := by decide +kernel
theorem dX3_meets_75 : decode cX3_meets 75 = .ok (.ireturn, 1) := by decide +kernel
set_option maxRecDepth 20000 in
theorem ggX3_countsAs_X3_isIn : GoodIn wsX3_countsAs wsX3_isIn := goodIn_r _ [7] (by decide +kernel) (by decide +kernel)
set_option maxRecDepth 20000 in
theorem gX3_countsAs_X3_isIn : GoodIn wsX3_countsAs (va_wsS RX3 120 yX3_isIn wsX3_isIn) := goodIn_app (goodIn_of _ (by decide +kernel)) ggX3_countsAs_X3_isIn
set_option maxRecDepth 20000 in
theorem ggX3_countsAs_X3_meets : GoodIn wsX3_countsAs wsX3_meets := goodIn_r _ [11, 12, 1, 3, 4, 5, 6, 7, 13, 14, 15, 16, 17, 18, 19, 20, 21, 22, 23, 24, 25, 26, 27, 28, 29, 30, 31, 32, 33, 34, 35] (by decide +kernel) (by decide +kernel)
set_option maxRecDepth 20000 in
theorem gX3_countsAs_X3_meets : GoodIn wsX3_countsAs (wsV RX3 126 RX3 yX3_meets wsX3_meets) := goodIn_app (goodIn_of _ (by decide +kernel)) ggX3_countsAs_X3_meets
theorem dX3_countsAs_0 : decode cX3_countsAs 0 = .ok (.aload_n 0, 1) := by decide +kernel
theorem dX3_countsAs_1 : decode cX3_countsAs 1 = .ok (.getfield 114, 3) := by decide +kernel
theorem dX3_countsAs_4 : decode cX3_countsAs 4 = .ok (.iload_n 1, 1) := by decide +kernel
theorem dX3_countsAs_5 : decode cX3_countsAs 5 = .ok (.invokestatic 120, 3) := by decide +kernel
theorem dX3_countsAs_8 : decode cX3_countsAs 8 = .ok (.ifCond .eq 5, 3) := by decide +kernel
theorem dX3_countsAs_11 : decode cX3_countsAs 11 = .ok (.iconst 0, 1) := by decide +kernel
theorem dX3_countsAs_12 : decode cX3_countsAs 12 = .ok (.ireturn, 1) := by decide +kernel
theorem dX3_countsAs_13 : decode cX3_countsAs 13 = .ok (.aload_n 0, 1) := by decide +kernel
theorem dX3_countsAs_14 : decode cX3_countsAs 14 = .ok (.iload_n 1, 1) := by decide +kernel
theorem dX3_countsAs_15 : decode cX3_countsAs 15 = .ok (.invokevirtual 126, 3) := by decide +kernel
theorem dX3_countsAs_18 : decode cX3_countsAs 18 = .ok (.ifCond .eq 9, 3) := by decide +kernel
theorem dX3_countsAs_21 : decode cX3_countsAs 21 = .ok (.iload_n 1, 1) := by decide +kernel
theorem dX3_countsAs_22 : decode cX3_countsAs 22 = .ok (.iconst 1, 1) := by decide +kernel
theorem dX3_countsAs_23 : decode cX3_countsAs 23 = .ok (.iadd, 1) := by decide +kernel
theorem dX3_countsAs_24 : decode cX3_countsAs 24 = .ok (.goto 21, 3) := by decide +kernel
theorem dX3_countsAs_27 : decode cX3_countsAs 27 = .ok (.aload_n 0, 1) := by decide +kernel
theorem dX3_countsAs_28 : decode cX3_countsAs 28 = .ok (.iload_n 1, 1) := by decide +kernel
theorem dX3_countsAs_29 : decode cX3_countsAs 29 = .ok (.iconst 1, 1) := by decide +kernel
theorem dX3_countsAs_30 : decode cX3_countsAs 30 = .ok (.isub, 1) := by decide +kernel
theorem dX3_countsAs_31 : decode cX3_countsAs 31 = .ok (.invokevirtual 126, 3) := by decide +kernel
theorem dX3_countsAs_34 : decode cX3_countsAs 34 = .ok (.ifCond .eq 9, 3) := by decide +kernel
theorem dX3_countsAs_37 : decode cX3_countsAs 37 = .ok (.iload_n 1, 1) := by decide +kernel
theorem dX3_countsAs_38 : decode cX3_countsAs 38 = .ok (.iconst 1, 1) := by decide +kernel
theorem dX3_countsAs_39 : decode cX3_countsAs 39 = .ok (.isub, 1) := by decide +kernel
theorem dX3_countsAs_40 : decode cX3_countsAs 40 = .ok (.goto 5, 3) := by decide +kernel
theorem dX3_countsAs_43 : decode cX3_countsAs 43 = .ok (.bipush (-9), 2) := by decide +kernel
theorem dX3_countsAs_45 : decode cX3_countsAs 45 = .ok (.istore_n 2, 1) := by decide +kernel
theorem dX3_countsAs_46 : decode cX3_countsAs 46 = .ok (.iload_n 2, 1) := by decide +kernel
theorem dX3_countsAs_47 : decode cX3_countsAs 47 = .ok (.ifCond .lt 24, 3) := by decide +kernel
theorem dX3_countsAs_50 : decode cX3_countsAs 50 = .ok (.aload_n 0, 1) := by decide +kernel
theorem dX3_countsAs_51 : decode cX3_countsAs 51 = .ok (.getfield 13, 3) := by decide +kernel
theorem dX3_countsAs_54 : decode cX3_countsAs 54 = .ok (.iload_n 1, 1) := by decide +kernel
theorem dX3_countsAs_55 : decode cX3_countsAs 55 = .ok (.iaload, 1) := by decide +kernel
theorem dX3_countsAs_56 : decode cX3_countsAs 56 = .ok (.aload_n 0, 1) := by decide +kernel
theorem dX3_countsAs_57 : decode cX3_countsAs 57 = .ok (.getfield 13, 3) := by decide +kernel
theorem dX3_countsAs_60 : decode cX3_countsAs 60 = .ok (.iload_n 2, 1) := by decide +kernel
theorem dX3_countsAs_61 : decode cX3_countsAs 61 = .ok (.iaload, 1) := by decide +kernel
theorem dX3_countsAs_62 : decode cX3_countsAs 62 = .ok (.if_icmp .ne 7, 3) := by decide +kernel
theorem dX3_countsAs_65 : decode cX3_countsAs 65 = .ok (.iconst 1, 1) := by decide +kernel
theorem dX3_countsAs_66 : decode cX3_countsAs 66 = .ok (.goto 4, 3) := by decide +kernel
theorem dX3_countsAs_69 : decode cX3_countsAs 69 = .ok (.iconst 2, 1) := by decide +kernel
theorem dX3_countsAs_70 : decode cX3_countsAs 70 = .ok (.ireturn, 1) := by decide +kernel
theorem dX3_countsAs_71 : decode cX3_countsAs 71 = .ok (.aload_n 0, 1) := by decide +kernel
theorem dX3_countsAs_72 : decode cX3_countsAs 72 = .ok (.getfield 19, 3) := by decide +kernel
theorem dX3_countsAs_75 : decode cX3_countsAs 75 = .ok (.iload_n 1, 1) := by decide +kernel
theorem dX3_countsAs_76 : decode cX3_countsAs 76 = .ok (.iaload, 1) := by decide +kernel
theorem dX3_countsAs_77 : decode cX3_countsAs 77 = .ok (.ifCond .ne 7, 3) := by decide +kernel
theorem dX3_countsAs_80 : decode cX3_countsAs 80 = .ok (.iconst 1, 1) := by decide +kernel
theorem dX3_countsAs_81 : decode cX3_countsAs 81 = .ok (.goto 18, 3) := by decide +kernel
theorem dX3_countsAs_84 : decode cX3_countsAs 84 = .ok (.aload_n 0, 1) := by decide +kernel
theorem dX3_countsAs_85 : decode cX3_countsAs 85 = .ok (.getfield 19, 3) := by decide +kernel
theorem dX3_countsAs_88 : decode cX3_countsAs 88 = .ok (.iload_n 1, 1) := by decide +kernel
theorem dX3_countsAs_89 : decode cX3_countsAs 89 = .ok (.iaload, 1) := by decide +kernel
theorem dX3_countsAs_90 : decode cX3_countsAs 90 = .ok (.iconst 2, 1) := by decide +kernel
theorem dX3_countsAs_91 : decode cX3_countsAs 91 = .ok (.if_icmp .ne 7, 3) := by decide +kernel
theorem dX3_countsAs_94 : decode cX3_countsAs 94 = .ok (.iconst 2, 1) := by decide +kernel
theorem dX3_countsAs_95 : decode cX3_countsAs 95 = .ok (.goto 4, 3) := by decide +kernel
theorem dX3_countsAs_98 : decode cX3_countsAs 98 = .ok (.iconst 0, 1) := by decide +kernel
theorem dX3_countsAs_99 : decode cX3_countsAs 99 = .ok (.ireturn, 1) := by decide +kernel
set_option maxRecDepth 20000 in
theorem ggX3_ofChair_X3_noChair : GoodIn wsX3_ofChair wsX3_noChair := goodIn_r _ [10, 11, 12, 13, 9, 14, 34, 35, 36, 37, 38, 39, 40, 41, 42, 43, 44, 45, 46, 47, 48, 49, 50, 51, 52, 53, 54, 55, 56] (by decide +kernel) (by decide +kernel)
set_option maxRecDepth 20000 in
theorem gX3_ofChair_X3_noChair : GoodIn wsX3_ofChair (wsV RX3 129 RX3 yX3_noChair wsX3_noChair) := goodIn_app (goodIn_of _ (by decide +kernel)) ggX3_ofChair_X3_noChair
set_option maxRecDepth 20000 in
theorem ggX3_ofChair_X3_votesOf : GoodIn wsX3_ofChair wsX3_votesOf := goodIn_r _ [18, 5, 19, 20, 9, 21, 22, 23, 24, 25, 3, 1, 34, 35, 36, 37, 38, 39, 40, 41, 42, 43, 44, 45, 46, 47, 48, 49, 50, 51, 52, 53, 54, 55, 56] (by decide +kernel) (by decide +kernel)
set_option maxRecDepth 20000 in
theorem gX3_ofChair_X3_votesOf : GoodIn wsX3_ofChair (wsV RX3 132 RX3 yX3_votesOf wsX3_votesOf) := goodIn_app (goodIn_of _ (by decide +kernel)) ggX3_ofChair_X3_votesOf
set_option maxRecDepth 20000 in
theorem ggX3_ofChair_X3_countsAs : GoodIn wsX3_ofChair wsX3_countsAs := goodIn_r _ [29, 5, 2, 4, 19, 20, 9, 21, 30, 31, 32, 33, 11, 34, 35, 36, 37, 38, 39, 40, 41, 42, 43, 44, 45, 46, 47, 48, 49, 50, 51, 52, 53, 54, 55, 56] (by decide +kernel) (by decide +kernel)
set_option maxRecDepth 20000 in
theorem gX3_ofChair_X3_countsAs : GoodIn wsX3_ofChair (wsV RX3 135 RX3 yX3_countsAs wsX3_countsAs) := goodIn_app (goodIn_of _ (by decide +kernel)) ggX3_ofChair_X3_countsAs
theorem dX3_ofChair_0 : decode cX3_ofChair 0 = .ok (.aload_n 0, 1) := by decide +kernel
theorem dX3_ofChair_1 : decode cX3_ofChair 1 = .ok (.iload_n 1, 1) := by decide +kernel
theorem dX3_ofChair_2 : decode cX3_ofChair 2 = .ok (.invokevirtual 129, 3) := by decide +kernel
theorem dX3_ofChair_5 : decode cX3_ofChair 5 = .ok (.ifCond .eq 5, 3) := by decide +kernel
theorem dX3_ofChair_8 : decode cX3_ofChair 8 = .ok (.iconst (-1), 1) := by decide +kernel
theorem dX3_ofChair_9 : decode cX3_ofChair 9 = .ok (.ireturn, 1) := by decide +kernel
theorem dX3_ofChair_10 : decode cX3_ofChair 10 = .ok (.iload_n 2, 1) := by decide +kernel
theorem dX3_ofChair_11 : decode cX3_ofChair 11 = .ok (.tableswitch 90 0 6 #[41, 48, 55, 62, 69, 78, 84], 41) := by decide +kernel
theorem dX3_ofChair_52 : decode cX3_ofChair 52 = .ok (.aload_n 0, 1) := by decide +kernel
theorem dX3_ofChair_53 : decode cX3_ofChair 53 = .ok (.getfield 7, 3) := by decide +kernel
theorem dX3_ofChair_56 : decode cX3_ofChair 56 = .ok (.iload_n 1, 1) := by decide +kernel
theorem dX3_ofChair_57 : decode cX3_ofChair 57 = .ok (.iaload, 1) := by decide +kernel
theorem dX3_ofChair_58 : decode cX3_ofChair 58 = .ok (.ireturn, 1) := by decide +kernel
theorem dX3_ofChair_59 : decode cX3_ofChair 59 = .ok (.aload_n 0, 1) := by decide +kernel
theorem dX3_ofChair_60 : decode cX3_ofChair 60 = .ok (.getfield 13, 3) := by decide +kernel
theorem dX3_ofChair_63 : decode cX3_ofChair 63 = .ok (.iload_n 1, 1) := by decide +kernel
theorem dX3_ofChair_64 : decode cX3_ofChair 64 = .ok (.iaload, 1) := by decide +kernel
theorem dX3_ofChair_65 : decode cX3_ofChair 65 = .ok (.ireturn, 1) := by decide +kernel
theorem dX3_ofChair_66 : decode cX3_ofChair 66 = .ok (.aload_n 0, 1) := by decide +kernel
theorem dX3_ofChair_67 : decode cX3_ofChair 67 = .ok (.getfield 16, 3) := by decide +kernel
theorem dX3_ofChair_70 : decode cX3_ofChair 70 = .ok (.iload_n 1, 1) := by decide +kernel
theorem dX3_ofChair_71 : decode cX3_ofChair 71 = .ok (.iaload, 1) := by decide +kernel
theorem dX3_ofChair_72 : decode cX3_ofChair 72 = .ok (.ireturn, 1) := by decide +kernel
theorem dX3_ofChair_73 : decode cX3_ofChair 73 = .ok (.aload_n 0, 1) := by decide +kernel
theorem dX3_ofChair_74 : decode cX3_ofChair 74 = .ok (.getfield 19, 3) := by decide +kernel
theorem dX3_ofChair_77 : decode cX3_ofChair 77 = .ok (.iload_n 1, 1) := by decide +kernel
theorem dX3_ofChair_78 : decode cX3_ofChair 78 = .ok (.iaload, 1) := by decide +kernel
theorem dX3_ofChair_79 : decode cX3_ofChair 79 = .ok (.ireturn, 1) := by decide +kernel
theorem dX3_ofChair_80 : decode cX3_ofChair 80 = .ok (.aload_n 0, 1) := by decide +kernel
theorem dX3_ofChair_81 : decode cX3_ofChair 81 = .ok (.getfield 114, 3) := by decide +kernel
theorem dX3_ofChair_84 : decode cX3_ofChair 84 = .ok (.iload_n 1, 1) := by decide +kernel
theorem dX3_ofChair_85 : decode cX3_ofChair 85 = .ok (.ishr, 1) := by decide +kernel
theorem dX3_ofChair_86 : decode cX3_ofChair 86 = .ok (.iconst 1, 1) := by decide +kernel
theorem dX3_ofChair_87 : decode cX3_ofChair 87 = .ok (.iand, 1) := by decide +kernel
theorem dX3_ofChair_88 : decode cX3_ofChair 88 = .ok (.ireturn, 1) := by decide +kernel
theorem dX3_ofChair_89 : decode cX3_ofChair 89 = .ok (.aload_n 0, 1) := by decide +kernel
theorem dX3_ofChair_90 : decode cX3_ofChair 90 = .ok (.iload_n 1, 1) := by decide +kernel
theorem dX3_ofChair_91 : decode cX3_ofChair 91 = .ok (.invokevirtual 132, 3) := by decide +kernel
theorem dX3_ofChair_94 : decode cX3_ofChair 94 = .ok (.ireturn, 1) := by decide +kernel
theorem dX3_ofChair_95 : decode cX3_ofChair 95 = .ok (.aload_n 0, 1) := by decide +kernel
theorem dX3_ofChair_96 : decode cX3_ofChair 96 = .ok (.iload_n 1, 1) := by decide +kernel
theorem dX3_ofChair_97 : decode cX3_ofChair 97 = .ok (.invokevirtual 135, 3) := by decide +kernel
theorem dX3_ofChair_100 : decode cX3_ofChair 100 = .ok (.ireturn, 1) := by decide +kernel
theorem dX3_ofChair_101 : decode cX3_ofChair 101 = .ok (.bipush (-2), 2) := by decide +kernel
theorem dX3_ofChair_103 : decode cX3_ofChair 103 = .ok (.ireturn, 1) := by decide +kernel
set_option maxRecDepth 20000 in
theorem ggX3_paint_X3_noChair : GoodIn wsX3_paint wsX3_noChair := goodIn_r _ [7, 8, 9, 10, 6, 11, 12, 13, 14, 15, 16, 17, 18, 19, 20, 21, 22, 23, 24, 25, 26, 27, 28, 29, 30, 31, 32, 33, 34] (by decide +kernel) (by decide +kernel)
set_option maxRecDepth 20000 in
theorem gX3_paint_X3_noChair : GoodIn wsX3_paint (wsV RX3 129 RX3 yX3_noChair wsX3_noChair) := goodIn_app (goodIn_of _ (by decide +kernel)) ggX3_paint_X3_noChair
set_option maxRecDepth 20000 in
theorem ggX3_paint_X3_in : GoodIn wsX3_paint wsX3_in := goodIn_r _ [11] (by decide +kernel) (by decide +kernel)
set_option maxRecDepth 20000 in
theorem gX3_paint_X3_in : GoodIn wsX3_paint (va_wsS RX3 68 yX3_in wsX3_in) := goodIn_app (goodIn_of _ (by decide +kernel)) ggX3_paint_X3_in
theorem dX3_paint_0 : decode cX3_paint 0 = .ok (.aload_n 0, 1) := by decide +kernel
theorem dX3_paint_1 : decode cX3_paint 1 = .ok (.iload_n 1, 1) := by decide +kernel
theorem dX3_paint_2 : decode cX3_paint 2 = .ok (.invokevirtual 129, 3) := by decide +kernel
theorem dX3_paint_5 : decode cX3_paint 5 = .ok (.ifCond .eq 5, 3) := by decide +kernel
theorem dX3_paint_8 : decode cX3_paint 8 = .ok (.iconst (-1), 1) := by decide +kernel
theorem dX3_paint_9 : decode cX3_paint 9 = .ok (.ireturn, 1) := by decide +kernel
theorem dX3_paint_10 : decode cX3_paint 10 = .ok (.iload_n 2, 1) := by decide +kernel
theorem dX3_paint_11 : decode cX3_paint 11 = .ok (.i2l, 1) := by decide +kernel
theorem dX3_paint_12 : decode cX3_paint 12 = .ok (.lconst 0, 1) := by decide +kernel
theorem dX3_paint_13 : decode cX3_paint 13 = .ok (.ldc2_w 138, 3) := by decide +kernel
theorem dX3_paint_16 : decode cX3_paint 16 = .ok (.invokestatic 68, 3) := by decide +kernel
theorem dX3_paint_19 : decode cX3_paint 19 = .ok (.ifCond .ne 6, 3) := by decide +kernel
theorem dX3_paint_22 : decode cX3_paint 22 = .ok (.bipush (-2), 2) := by decide +kernel
theorem dX3_paint_24 : decode cX3_paint 24 = .ok (.ireturn, 1) := by decide +kernel
theorem dX3_paint_25 : decode cX3_paint 25 = .ok (.aload_n 0, 1) := by decide +kernel
theorem dX3_paint_26 : decode cX3_paint 26 = .ok (.getfield 13, 3) := by decide +kernel
theorem dX3_paint_29 : decode cX3_paint 29 = .ok (.iload_n 1, 1) := by decide +kernel
theorem dX3_paint_30 : decode cX3_paint 30 = .ok (.iaload, 1) := by decide +kernel
theorem dX3_paint_31 : decode cX3_paint 31 = .ok (.istore_n 3, 1) := by decide +kernel
theorem dX3_paint_32 : decode cX3_paint 32 = .ok (.aload_n 0, 1) := by decide +kernel
theorem dX3_paint_33 : decode cX3_paint 33 = .ok (.getfield 13, 3) := by decide +kernel
theorem dX3_paint_36 : decode cX3_paint 36 = .ok (.iload_n 1, 1) := by decide +kernel
theorem dX3_paint_37 : decode cX3_paint 37 = .ok (.iload_n 2, 1) := by decide +kernel
theorem dX3_paint_38 : decode cX3_paint 38 = .ok (.iastore, 1) := by decide +kernel
theorem dX3_paint_39 : decode cX3_paint 39 = .ok (.iload_n 3, 1) := by decide +kernel
theorem dX3_paint_40 : decode cX3_paint 40 = .ok (.ireturn, 1) := by decide +kernel
set_option maxRecDepth 20000 in
theorem ggX3_load_X3_noChair : GoodIn wsX3_load wsX3_noChair := goodIn_r _ [7, 8, 9, 10, 6, 11, 12, 13, 14, 15, 16, 17, 18, 19, 20, 21, 22, 23, 24, 25, 26, 27, 28, 29, 30, 31, 32, 33, 34] (by decide +kernel) (by decide +kernel)
set_option maxRecDepth 20000 in
theorem gX3_load_X3_noChair : GoodIn wsX3_load (wsV RX3 129 RX3 yX3_noChair wsX3_noChair) := goodIn_app (goodIn_of _ (by decide +kernel)) ggX3_load_X3_noChair
set_option maxRecDepth 20000 in
theorem ggX3_load_X3_in : GoodIn wsX3_load wsX3_in := goodIn_r _ [11] (by decide +kernel) (by decide +kernel)
set_option maxRecDepth 20000 in
theorem gX3_load_X3_in : GoodIn wsX3_load (va_wsS RX3 68 yX3_in wsX3_in) := goodIn_app (goodIn_of _ (by decide +kernel)) ggX3_load_X3_in
theorem dX3_load_0 : decode cX3_load 0 = .ok (.aload_n 0, 1) := by decide +kernel
theorem dX3_load_1 : decode cX3_load 1 = .ok (.iload_n 1, 1) := by decide +kernel
theorem dX3_load_2 : decode cX3_load 2 = .ok (.invokevirtual 129, 3) := by decide +kernel
theorem dX3_load_5 : decode cX3_load 5 = .ok (.ifCond .eq 5, 3) := by decide +kernel
theorem dX3_load_8 : decode cX3_load 8 = .ok (.iconst (-1), 1) := by decide +kernel
theorem dX3_load_9 : decode cX3_load 9 = .ok (.ireturn, 1) := by decide +kernel
theorem dX3_load_10 : decode cX3_load 10 = .ok (.iload_n 2, 1) := by decide +kernel
theorem dX3_load_11 : decode cX3_load 11 = .ok (.i2l, 1) := by decide +kernel
theorem dX3_load_12 : decode cX3_load 12 = .ok (.lconst 1, 1) := by decide +kernel
theorem dX3_load_13 : decode cX3_load 13 = .ok (.ldc2_w 140, 3) := by decide +kernel
theorem dX3_load_16 : decode cX3_load 16 = .ok (.invokestatic 68, 3) := by decide +kernel
theorem dX3_load_19 : decode cX3_load 19 = .ok (.ifCond .ne 6, 3) := by decide +kernel
theorem dX3_load_22 : decode cX3_load 22 = .ok (.bipush (-2), 2) := by decide +kernel
theorem dX3_load_24 : decode cX3_load 24 = .ok (.ireturn, 1) := by decide +kernel
theorem dX3_load_25 : decode cX3_load 25 = .ok (.aload_n 0, 1) := by decide +kernel
theorem dX3_load_26 : decode cX3_load 26 = .ok (.getfield 16, 3) := by decide +kernel
theorem dX3_load_29 : decode cX3_load 29 = .ok (.iload_n 1, 1) := by decide +kernel
theorem dX3_load_30 : decode cX3_load 30 = .ok (.iaload, 1) := by decide +kernel
theorem dX3_load_31 : decode cX3_load 31 = .ok (.istore_n 3, 1) := by decide +kernel
theorem dX3_load_32 : decode cX3_load 32 = .ok (.aload_n 0, 1) := by decide +kernel
theorem dX3_load_33 : decode cX3_load 33 = .ok (.getfield 16, 3) := by decide +kernel
theorem dX3_load_36 : decode cX3_load 36 = .ok (.iload_n 1, 1) := by decide +kernel
theorem dX3_load_37 : decode cX3_load 37 = .ok (.iload_n 2, 1) := by decide +kernel
theorem dX3_load_38 : decode cX3_load 38 = .ok (.iastore, 1) := by decide +kernel
theorem dX3_load_39 : decode cX3_load 39 = .ok (.iload_n 3, 1) := by decide +kernel
theorem dX3_load_40 : decode cX3_load 40 = .ok (.ireturn, 1) := by decide +kernel
set_option maxRecDepth 20000 in
theorem ggX3_whoIs_X3_countsAs : GoodIn wsX3_whoIs wsX3_countsAs := goodIn_r _ [6, 7, 8, 9, 10, 11, 5, 12, 13, 14, 15, 16, 1, 17, 18, 19, 20, 21, 22, 23, 24, 25, 26, 27, 28, 29, 30, 31, 32, 33, 34, 35, 36, 37, 38, 39] (by decide +kernel) (by decide +kernel)
set_option maxRecDepth 20000 in
theorem gX3_whoIs_X3_countsAs : GoodIn wsX3_whoIs (wsV RX3 135 RX3 yX3_countsAs wsX3_countsAs) := goodIn_app (goodIn_of _ (by decide +kernel)) ggX3_whoIs_X3_countsAs
theorem dX3_whoIs_0 : decode cX3_whoIs 0 = .ok (.iconst 0, 1) := by decide +kernel
theorem dX3_whoIs_1 : decode cX3_whoIs 1 = .ok (.istore_n 2, 1) := by decide +kernel
theorem dX3_whoIs_2 : decode cX3_whoIs 2 = .ok (.iconst 0, 1) := by decide +kernel
theorem dX3_whoIs_3 : decode cX3_whoIs 3 = .ok (.istore_n 3, 1) := by decide +kernel
theorem dX3_whoIs_4 : decode cX3_whoIs 4 = .ok (.iload_n 3, 1) := by decide +kernel
theorem dX3_whoIs_5 : decode cX3_whoIs 5 = .ok (.aload_n 0, 1) := by decide +kernel
theorem dX3_whoIs_6 : decode cX3_whoIs 6 = .ok (.getfield 65, 3) := by decide +kernel
theorem dX3_whoIs_9 : decode cX3_whoIs 9 = .ok (.if_icmp .ge 28, 3) := by decide +kernel
theorem dX3_whoIs_12 : decode cX3_whoIs 12 = .ok (.iload_n 2, 1) := by decide +kernel
theorem dX3_whoIs_13 : decode cX3_whoIs 13 = .ok (.aload_n 0, 1) := by decide +kernel
theorem dX3_whoIs_14 : decode cX3_whoIs 14 = .ok (.iload_n 3, 1) := by decide +kernel
theorem dX3_whoIs_15 : decode cX3_whoIs 15 = .ok (.invokevirtual 135, 3) := by decide +kernel
theorem dX3_whoIs_18 : decode cX3_whoIs 18 = .ok (.iload_n 1, 1) := by decide +kernel
theorem dX3_whoIs_19 : decode cX3_whoIs 19 = .ok (.if_icmp .ne 9, 3) := by decide +kernel
theorem dX3_whoIs_22 : decode cX3_whoIs 22 = .ok (.iconst 1, 1) := by decide +kernel
theorem dX3_whoIs_23 : decode cX3_whoIs 23 = .ok (.iload_n 3, 1) := by decide +kernel
theorem dX3_whoIs_24 : decode cX3_whoIs 24 = .ok (.ishl, 1) := by decide +kernel
theorem dX3_whoIs_25 : decode cX3_whoIs 25 = .ok (.goto 4, 3) := by decide +kernel
theorem dX3_whoIs_28 : decode cX3_whoIs 28 = .ok (.iconst 0, 1) := by decide +kernel
theorem dX3_whoIs_29 : decode cX3_whoIs 29 = .ok (.ior, 1) := by decide +kernel
theorem dX3_whoIs_30 : decode cX3_whoIs 30 = .ok (.istore_n 2, 1) := by decide +kernel
theorem dX3_whoIs_31 : decode cX3_whoIs 31 = .ok (.iinc 3 1, 3) := by decide +kernel
theorem dX3_whoIs_34 : decode cX3_whoIs 34 = .ok (.goto (-30), 3) := by decide +kernel
theorem dX3_whoIs_37 : decode cX3_whoIs 37 = .ok (.iload_n 2, 1) := by decide +kernel
theorem dX3_whoIs_38 : decode cX3_whoIs 38 = .ok (.ireturn, 1) := by decide +kernel
set_option maxRecDepth 20000 in
theorem ggX3_votesIn_X3_isIn : GoodIn wsX3_votesIn wsX3_isIn := goodIn_r _ [5] (by decide +kernel) (by decide +kernel)
set_option maxRecDepth 20000 in
theorem gX3_votesIn_X3_isIn : GoodIn wsX3_votesIn (va_wsS RX3 120 yX3_isIn wsX3_isIn) := goodIn_app (goodIn_of _ (by decide +kernel)) ggX3_votesIn_X3_isIn
set_option maxRecDepth 20000 in
theorem ggX3_votesIn_X3_votesOf : GoodIn wsX3_votesIn wsX3_votesOf := goodIn_r _ [9, 10, 2, 3, 4, 5, 11, 12, 13, 14, 15, 16, 17, 18, 19, 20, 21, 22, 23, 24, 25, 26, 27, 28, 29, 30, 31, 32, 33, 34, 35, 36, 37, 38, 39] (by decide +kernel) (by decide +kernel)
set_option maxRecDepth 20000 in
theorem gX3_votesIn_X3_votesOf : GoodIn wsX3_votesIn (wsV RX3 132 RX3 yX3_votesOf wsX3_votesOf) := goodIn_app (goodIn_of _ (by decide +kernel)) ggX3_votesIn_X3_votesOf
theorem dX3_votesIn_0 : decode cX3_votesIn 0 = .ok (.iconst 0, 1) := by decide +kernel
theorem dX3_votesIn_1 : decode cX3_votesIn 1 = .ok (.istore_n 2, 1) := by decide +kernel
theorem dX3_votesIn_2 : decode cX3_votesIn 2 = .ok (.iconst 0, 1) := by decide +kernel
theorem dX3_votesIn_3 : decode cX3_votesIn 3 = .ok (.istore_n 3, 1) := by decide +kernel
theorem dX3_votesIn_4 : decode cX3_votesIn 4 = .ok (.iload_n 3, 1) := by decide +kernel
theorem dX3_votesIn_5 : decode cX3_votesIn 5 = .ok (.aload_n 0, 1) := by decide +kernel
theorem dX3_votesIn_6 : decode cX3_votesIn 6 = .ok (.getfield 65, 3) := by decide +kernel
theorem dX3_votesIn_9 : decode cX3_votesIn 9 = .ok (.if_icmp .ge 29, 3) := by decide +kernel
theorem dX3_votesIn_12 : decode cX3_votesIn 12 = .ok (.iload_n 2, 1) := by decide +kernel
theorem dX3_votesIn_13 : decode cX3_votesIn 13 = .ok (.iload_n 1, 1) := by decide +kernel
theorem dX3_votesIn_14 : decode cX3_votesIn 14 = .ok (.iload_n 3, 1) := by decide +kernel
theorem dX3_votesIn_15 : decode cX3_votesIn 15 = .ok (.invokestatic 120, 3) := by decide +kernel
theorem dX3_votesIn_18 : decode cX3_votesIn 18 = .ok (.ifCond .eq 11, 3) := by decide +kernel
theorem dX3_votesIn_21 : decode cX3_votesIn 21 = .ok (.aload_n 0, 1) := by decide +kernel
theorem dX3_votesIn_22 : decode cX3_votesIn 22 = .ok (.iload_n 3, 1) := by decide +kernel
theorem dX3_votesIn_23 : decode cX3_votesIn 23 = .ok (.invokevirtual 132, 3) := by decide +kernel
theorem dX3_votesIn_26 : decode cX3_votesIn 26 = .ok (.goto 4, 3) := by decide +kernel
theorem dX3_votesIn_29 : decode cX3_votesIn 29 = .ok (.iconst 0, 1) := by decide +kernel
theorem dX3_votesIn_30 : decode cX3_votesIn 30 = .ok (.iadd, 1) := by decide +kernel
theorem dX3_votesIn_31 : decode cX3_votesIn 31 = .ok (.istore_n 2, 1) := by decide +kernel
theorem dX3_votesIn_32 : decode cX3_votesIn 32 = .ok (.iinc 3 1, 3) := by decide +kernel
theorem dX3_votesIn_35 : decode cX3_votesIn 35 = .ok (.goto (-31), 3) := by decide +kernel
theorem dX3_votesIn_38 : decode cX3_votesIn 38 = .ok (.iload_n 2, 1) := by decide +kernel
theorem dX3_votesIn_39 : decode cX3_votesIn 39 = .ok (.ireturn, 1) := by decide +kernel
set_option maxRecDepth 20000 in
theorem ggX3_isCarried_X3_whoIs : GoodIn wsX3_isCarried wsX3_whoIs := goodIn_r _ [5, 6, 7, 8, 9, 4, 10, 11, 12, 13, 14, 15, 16, 17, 18, 19, 20, 35, 36, 37, 38, 39, 40, 41, 42, 43, 44, 45, 46, 47, 48, 49, 50, 51, 52, 53, 54, 55, 56, 57] (by decide +kernel) (by decide +kernel)
set_option maxRecDepth 20000 in
theorem gX3_isCarried_X3_whoIs : GoodIn wsX3_isCarried (wsV RX3 142 RX3 yX3_whoIs wsX3_whoIs) := goodIn_app (goodIn_of _ (by decide +kernel)) ggX3_isCarried_X3_whoIs
set_option maxRecDepth 20000 in
theorem ggX3_isCarried_X3_votesIn : GoodIn wsX3_isCarried wsX3_votesIn := goodIn_r _ [24, 6, 14, 15, 4, 16, 25, 26, 27, 28, 11, 29, 30, 31, 32, 33, 34, 35, 36, 37, 38, 39, 40, 41, 42, 43, 44, 45, 46, 47, 48, 49, 50, 51, 52, 53, 54, 55, 56, 57] (by decide +kernel) (by decide +kernel)
set_option maxRecDepth 20000 in
theorem gX3_isCarried_X3_votesIn : GoodIn wsX3_isCarried (wsV RX3 145 RX3 yX3_votesIn wsX3_votesIn) := goodIn_app (goodIn_of _ (by decide +kernel)) ggX3_isCarried_X3_votesIn
theorem dX3_isCarried_0 : decode cX3_isCarried 0 = .ok (.aload_n 0, 1) := by decide +kernel
theorem dX3_isCarried_1 : decode cX3_isCarried 1 = .ok (.aload_n 0, 1) := by decide +kernel
theorem dX3_isCarried_2 : decode cX3_isCarried 2 = .ok (.iconst 1, 1) := by decide +kernel
theorem dX3_isCarried_3 : decode cX3_isCarried 3 = .ok (.invokevirtual 142, 3) := by decide +kernel
theorem dX3_isCarried_6 : decode cX3_isCarried 6 = .ok (.invokevirtual 145, 3) := by decide +kernel
theorem dX3_isCarried_9 : decode cX3_isCarried 9 = .ok (.aload_n 0, 1) := by decide +kernel
theorem dX3_isCarried_10 : decode cX3_isCarried 10 = .ok (.aload_n 0, 1) := by decide +kernel
theorem dX3_isCarried_11 : decode cX3_isCarried 11 = .ok (.iconst 2, 1) := by decide +kernel
theorem dX3_isCarried_12 : decode cX3_isCarried 12 = .ok (.invokevirtual 142, 3) := by decide +kernel
theorem dX3_isCarried_15 : decode cX3_isCarried 15 = .ok (.invokevirtual 145, 3) := by decide +kernel
theorem dX3_isCarried_18 : decode cX3_isCarried 18 = .ok (.if_icmp .le 7, 3) := by decide +kernel
theorem dX3_isCarried_21 : decode cX3_isCarried 21 = .ok (.iconst 1, 1) := by decide +kernel
theorem dX3_isCarried_22 : decode cX3_isCarried 22 = .ok (.goto 4, 3) := by decide +kernel
theorem dX3_isCarried_25 : decode cX3_isCarried 25 = .ok (.iconst 0, 1) := by decide +kernel
theorem dX3_isCarried_26 : decode cX3_isCarried 26 = .ok (.ireturn, 1) := by decide +kernel
set_option maxRecDepth 20000 in
theorem ggX3_poll_X3_whoIs : GoodIn wsX3_poll wsX3_whoIs := goodIn_r _ [6, 1, 7, 8, 9, 5, 10, 11, 12, 13, 14, 15, 16, 17, 18, 19, 20, 39, 40, 41, 42, 43, 44, 45, 46, 47, 48, 49, 50, 51, 52, 53, 54, 55, 56, 57, 58, 59, 60, 61] (by decide +kernel) (by decide +kernel)
set_option maxRecDepth 20000 in
theorem gX3_poll_X3_whoIs : GoodIn wsX3_poll (wsV RX3 142 RX3 yX3_whoIs wsX3_whoIs) := goodIn_app (goodIn_of _ (by decide +kernel)) ggX3_poll_X3_whoIs
set_option maxRecDepth 20000 in
theorem ggX3_poll_X3_votesIn : GoodIn wsX3_poll wsX3_votesIn := goodIn_r _ [24, 1, 14, 15, 5, 16, 25, 26, 27, 28, 11, 29, 30, 31, 32, 33, 34, 39, 40, 41, 42, 43, 44, 45, 46, 47, 48, 49, 50, 51, 52, 53, 54, 55, 56, 57, 58, 59, 60, 61] (by decide +kernel) (by decide +kernel)
set_option maxRecDepth 20000 in
theorem gX3_poll_X3_votesIn : GoodIn wsX3_poll (wsV RX3 145 RX3 yX3_votesIn wsX3_votesIn) := goodIn_app (goodIn_of _ (by decide +kernel)) ggX3_poll_X3_votesIn
set_option maxRecDepth 20000 in
theorem ggX3_poll_X3_isCarried : GoodIn wsX3_poll wsX3_isCarried := goodIn_r _ [38, 2, 3, 4, 5, 6, 1, 7, 8, 9, 10, 11, 12, 13, 14, 15, 16, 17, 18, 19, 20, 21, 22, 23, 24, 25, 26, 27, 28, 29, 30, 31, 32, 33, 34, 39, 40, 41, 42, 43, 44, 45, 46, 47, 48, 49, 50, 51, 52, 53, 54, 55, 56, 57, 58, 59, 60, 61] (by decide +kernel) (by decide +kernel)
set_option maxRecDepth 20000 in
theorem gX3_poll_X3_isCarried : GoodIn wsX3_poll (wsV RX3 148 RX3 yX3_isCarried wsX3_isCarried) := goodIn_app (goodIn_of _ (by decide +kernel)) ggX3_poll_X3_isCarried
theorem dX3_poll_0 : decode cX3_poll 0 = .ok (.aload_n 0, 1) := by decide +kernel
theorem dX3_poll_1 : decode cX3_poll 1 = .ok (.getfield 65, 3) := by decide +kernel
theorem dX3_poll_4 : decode cX3_poll 4 = .ok (.ifCond .ne 6, 3) := by decide +kernel
theorem dX3_poll_7 : decode cX3_poll 7 = .ok (.bipush (-3), 2) := by decide +kernel
theorem dX3_poll_9 : decode cX3_poll 9 = .ok (.ireturn, 1) := by decide +kernel
theorem dX3_poll_10 : decode cX3_poll 10 = .ok (.iload_n 1, 1) := by decide +kernel
theorem dX3_poll_11 : decode cX3_poll 11 = .ok (.tableswitch 78 0 4 #[33, 43, 53, 66, 72], 33) := by decide +kernel
theorem dX3_poll_44 : decode cX3_poll 44 = .ok (.aload_n 0, 1) := by decide +kernel
theorem dX3_poll_45 : decode cX3_poll 45 = .ok (.aload_n 0, 1) := by decide +kernel
theorem dX3_poll_46 : decode cX3_poll 46 = .ok (.iconst 1, 1) := by decide +kernel
theorem dX3_poll_47 : decode cX3_poll 47 = .ok (.invokevirtual 142, 3) := by decide +kernel
theorem dX3_poll_50 : decode cX3_poll 50 = .ok (.invokevirtual 145, 3) := by decide +kernel
theorem dX3_poll_53 : decode cX3_poll 53 = .ok (.ireturn, 1) := by decide +kernel
theorem dX3_poll_54 : decode cX3_poll 54 = .ok (.aload_n 0, 1) := by decide +kernel
theorem dX3_poll_55 : decode cX3_poll 55 = .ok (.aload_n 0, 1) := by decide +kernel
theorem dX3_poll_56 : decode cX3_poll 56 = .ok (.iconst 2, 1) := by decide +kernel
theorem dX3_poll_57 : decode cX3_poll 57 = .ok (.invokevirtual 142, 3) := by decide +kernel
theorem dX3_poll_60 : decode cX3_poll 60 = .ok (.invokevirtual 145, 3) := by decide +kernel
theorem dX3_poll_63 : decode cX3_poll 63 = .ok (.ireturn, 1) := by decide +kernel
theorem dX3_poll_64 : decode cX3_poll 64 = .ok (.aload_n 0, 1) := by decide +kernel
theorem dX3_poll_65 : decode cX3_poll 65 = .ok (.invokevirtual 148, 3) := by decide +kernel
theorem dX3_poll_68 : decode cX3_poll 68 = .ok (.ifCond .eq 7, 3) := by decide +kernel
theorem dX3_poll_71 : decode cX3_poll 71 = .ok (.iconst 1, 1) := by decide +kernel
theorem dX3_poll_72 : decode cX3_poll 72 = .ok (.goto 4, 3) := by decide +kernel
theorem dX3_poll_75 : decode cX3_poll 75 = .ok (.iconst 0, 1) := by decide +kernel
theorem dX3_poll_76 : decode cX3_poll 76 = .ok (.ireturn, 1) := by decide +kernel
theorem dX3_poll_77 : decode cX3_poll 77 = .ok (.aload_n 0, 1) := by decide +kernel
theorem dX3_poll_78 : decode cX3_poll 78 = .ok (.iconst 1, 1) := by decide +kernel
theorem dX3_poll_79 : decode cX3_poll 79 = .ok (.invokevirtual 142, 3) := by decide +kernel
theorem dX3_poll_82 : decode cX3_poll 82 = .ok (.ireturn, 1) := by decide +kernel
theorem dX3_poll_83 : decode cX3_poll 83 = .ok (.aload_n 0, 1) := by decide +kernel
theorem dX3_poll_84 : decode cX3_poll 84 = .ok (.iconst 2, 1) := by decide +kernel
theorem dX3_poll_85 : decode cX3_poll 85 = .ok (.invokevirtual 142, 3) := by decide +kernel
theorem dX3_poll_88 : decode cX3_poll 88 = .ok (.ireturn, 1) := by decide +kernel
theorem dX3_poll_89 : decode cX3_poll 89 = .ok (.bipush (-2), 2) := by decide +kernel
theorem dX3_poll_91 : decode cX3_poll 91 = .ok (.ireturn, 1) := by decide +kernel
set_option maxRecDepth 20000 in
theorem ggX3_turn_X3_noChair : GoodIn wsX3_turn wsX3_noChair := goodIn_r _ [8, 9, 10, 11, 7, 12, 16, 17, 18, 19, 20, 21, 22, 23, 24, 25, 26, 27, 28, 29, 30, 31, 32, 33, 34, 35, 36, 37, 38] (by decide +kernel) (by decide +kernel)
set_option maxRecDepth 20000 in
theorem gX3_turn_X3_noChair : GoodIn wsX3_turn (wsV RX3 129 RX3 yX3_noChair wsX3_noChair) := goodIn_app (goodIn_of _ (by decide +kernel)) ggX3_turn_X3_noChair
set_option maxRecDepth 20000 in
theorem ggX3_turn_X3_in : GoodIn wsX3_turn wsX3_in := goodIn_r _ [12] (by decide +kernel) (by decide +kernel)
set_option maxRecDepth 20000 in
theorem gX3_turn_X3_in : GoodIn wsX3_turn (va_wsS RX3 68 yX3_in wsX3_in) := goodIn_app (goodIn_of _ (by decide +kernel)) ggX3_turn_X3_in
set_option maxRecDepth 20000 in
theorem ggX3_turn_X3_isIn : GoodIn wsX3_turn wsX3_isIn := goodIn_r _ [15] (by decide +kernel) (by decide +kernel)
set_option maxRecDepth 20000 in
theorem gX3_turn_X3_isIn : GoodIn wsX3_turn (va_wsS RX3 120 yX3_isIn wsX3_isIn) := goodIn_app (goodIn_of _ (by decide +kernel)) ggX3_turn_X3_isIn
theorem dX3_turn_0 : decode cX3_turn 0 = .ok (.aload_n 0, 1) := by decide +kernel
theorem dX3_turn_1 : decode cX3_turn 1 = .ok (.iload_n 1, 1) := by decide +kernel
theorem dX3_turn_2 : decode cX3_turn 2 = .ok (.invokevirtual 129, 3) := by decide +kernel
theorem dX3_turn_5 : decode cX3_turn 5 = .ok (.ifCond .eq 5, 3) := by decide +kernel
theorem dX3_turn_8 : decode cX3_turn 8 = .ok (.iconst (-1), 1) := by decide +kernel
theorem dX3_turn_9 : decode cX3_turn 9 = .ok (.ireturn, 1) := by decide +kernel
theorem dX3_turn_10 : decode cX3_turn 10 = .ok (.iload_n 2, 1) := by decide +kernel
theorem dX3_turn_11 : decode cX3_turn 11 = .ok (.i2l, 1) := by decide +kernel
theorem dX3_turn_12 : decode cX3_turn 12 = .ok (.lconst 0, 1) := by decide +kernel
theorem dX3_turn_13 : decode cX3_turn 13 = .ok (.ldc2_w 138, 3) := by decide +kernel
theorem dX3_turn_16 : decode cX3_turn 16 = .ok (.invokestatic 68, 3) := by decide +kernel
theorem dX3_turn_19 : decode cX3_turn 19 = .ok (.ifCond .ne 6, 3) := by decide +kernel
theorem dX3_turn_22 : decode cX3_turn 22 = .ok (.bipush (-2), 2) := by decide +kernel
theorem dX3_turn_24 : decode cX3_turn 24 = .ok (.ireturn, 1) := by decide +kernel
theorem dX3_turn_25 : decode cX3_turn 25 = .ok (.aload_n 0, 1) := by decide +kernel
theorem dX3_turn_26 : decode cX3_turn 26 = .ok (.getfield 114, 3) := by decide +kernel
theorem dX3_turn_29 : decode cX3_turn 29 = .ok (.iload_n 1, 1) := by decide +kernel
theorem dX3_turn_30 : decode cX3_turn 30 = .ok (.invokestatic 120, 3) := by decide +kernel
theorem dX3_turn_33 : decode cX3_turn 33 = .ok (.ifCond .eq 6, 3) := by decide +kernel
theorem dX3_turn_36 : decode cX3_turn 36 = .ok (.bipush (-3), 2) := by decide +kernel
theorem dX3_turn_38 : decode cX3_turn 38 = .ok (.ireturn, 1) := by decide +kernel
theorem dX3_turn_39 : decode cX3_turn 39 = .ok (.aload_n 0, 1) := by decide +kernel
theorem dX3_turn_40 : decode cX3_turn 40 = .ok (.getfield 19, 3) := by decide +kernel
theorem dX3_turn_43 : decode cX3_turn 43 = .ok (.iload_n 1, 1) := by decide +kernel
theorem dX3_turn_44 : decode cX3_turn 44 = .ok (.iaload, 1) := by decide +kernel
theorem dX3_turn_45 : decode cX3_turn 45 = .ok (.istore_n 3, 1) := by decide +kernel
theorem dX3_turn_46 : decode cX3_turn 46 = .ok (.aload_n 0, 1) := by decide +kernel
theorem dX3_turn_47 : decode cX3_turn 47 = .ok (.getfield 19, 3) := by decide +kernel
theorem dX3_turn_50 : decode cX3_turn 50 = .ok (.iload_n 1, 1) := by decide +kernel
theorem dX3_turn_51 : decode cX3_turn 51 = .ok (.iload_n 2, 1) := by decide +kernel
theorem dX3_turn_52 : decode cX3_turn 52 = .ok (.iastore, 1) := by decide +kernel
theorem dX3_turn_53 : decode cX3_turn 53 = .ok (.iload_n 3, 1) := by decide +kernel
theorem dX3_turn_54 : decode cX3_turn 54 = .ok (.ireturn, 1) := by decide +kernel
set_option maxRecDepth 20000 in
theorem ggX3_blown_X3_isIn : GoodIn wsX3_blown wsX3_isIn := goodIn_r _ [8] (by decide +kernel) (by decide +kernel)
set_option maxRecDepth 20000 in
theorem gX3_blown_X3_isIn : GoodIn wsX3_blown (va_wsS RX3 120 yX3_isIn wsX3_isIn) := goodIn_app (goodIn_of _ (by decide +kernel)) ggX3_blown_X3_isIn
theorem dX3_blown_0 : decode cX3_blown 0 = .ok (.iconst 0, 1) := by decide +kernel
theorem dX3_blown_1 : decode cX3_blown 1 = .ok (.istore_n 3, 1) := by decide +kernel
theorem dX3_blown_2 : decode cX3_blown 2 = .ok (.iconst 0, 1) := by decide +kernel
theorem dX3_blown_3 : decode cX3_blown 3 = .ok (.istore 4, 2) := by decide +kernel
theorem dX3_blown_5 : decode cX3_blown 5 = .ok (.iload 4, 2) := by decide +kernel
theorem dX3_blown_7 : decode cX3_blown 7 = .ok (.aload_n 0, 1) := by decide +kernel
theorem dX3_blown_8 : decode cX3_blown 8 = .ok (.getfield 65, 3) := by decide +kernel
theorem dX3_blown_11 : decode cX3_blown 11 = .ok (.if_icmp .ge 54, 3) := by decide +kernel
theorem dX3_blown_14 : decode cX3_blown 14 = .ok (.aload_n 0, 1) := by decide +kernel
theorem dX3_blown_15 : decode cX3_blown 15 = .ok (.getfield 114, 3) := by decide +kernel
theorem dX3_blown_18 : decode cX3_blown 18 = .ok (.iload 4, 2) := by decide +kernel
theorem dX3_blown_20 : decode cX3_blown 20 = .ok (.invokestatic 120, 3) := by decide +kernel
theorem dX3_blown_23 : decode cX3_blown 23 = .ok (.ifCond .ne 36, 3) := by decide +kernel
theorem dX3_blown_26 : decode cX3_blown 26 = .ok (.aload_n 0, 1) := by decide +kernel
theorem dX3_blown_27 : decode cX3_blown 27 = .ok (.getfield 16, 3) := by decide +kernel
theorem dX3_blown_30 : decode cX3_blown 30 = .ok (.iload 4, 2) := by decide +kernel
theorem dX3_blown_32 : decode cX3_blown 32 = .ok (.iaload, 1) := by decide +kernel
theorem dX3_blown_33 : decode cX3_blown 33 = .ok (.iload_n 2, 1) := by decide +kernel
theorem dX3_blown_34 : decode cX3_blown 34 = .ok (.if_icmp .ge 25, 3) := by decide +kernel
theorem dX3_blown_37 : decode cX3_blown 37 = .ok (.aload_n 0, 1) := by decide +kernel
theorem dX3_blown_38 : decode cX3_blown 38 = .ok (.getfield 19, 3) := by decide +kernel
theorem dX3_blown_41 : decode cX3_blown 41 = .ok (.iload 4, 2) := by decide +kernel
theorem dX3_blown_43 : decode cX3_blown 43 = .ok (.iaload, 1) := by decide +kernel
theorem dX3_blown_44 : decode cX3_blown 44 = .ok (.iload_n 1, 1) := by decide +kernel
theorem dX3_blown_45 : decode cX3_blown 45 = .ok (.if_icmp .eq 14, 3) := by decide +kernel
theorem dX3_blown_48 : decode cX3_blown 48 = .ok (.aload_n 0, 1) := by decide +kernel
theorem dX3_blown_49 : decode cX3_blown 49 = .ok (.getfield 19, 3) := by decide +kernel
theorem dX3_blown_52 : decode cX3_blown 52 = .ok (.iload 4, 2) := by decide +kernel
theorem dX3_blown_54 : decode cX3_blown 54 = .ok (.iload_n 1, 1) := by decide +kernel
theorem dX3_blown_55 : decode cX3_blown 55 = .ok (.iastore, 1) := by decide +kernel
theorem dX3_blown_56 : decode cX3_blown 56 = .ok (.iinc 3 1, 3) := by decide +kernel
theorem dX3_blown_59 : decode cX3_blown 59 = .ok (.iinc 4 1, 3) := by decide +kernel
theorem dX3_blown_62 : decode cX3_blown 62 = .ok (.goto (-57), 3) := by decide +kernel
theorem dX3_blown_65 : decode cX3_blown 65 = .ok (.iload_n 3, 1) := by decide +kernel
theorem dX3_blown_66 : decode cX3_blown 66 = .ok (.ireturn, 1) := by decide +kernel
set_option maxRecDepth 20000 in
theorem ggX3_gust_X3_in : GoodIn wsX3_gust wsX3_in := goodIn_r _ [7] (by decide +kernel) (by decide +kernel)
set_option maxRecDepth 20000 in
theorem gX3_gust_X3_in : GoodIn wsX3_gust (va_wsS RX3 68 yX3_in wsX3_in) := goodIn_app (goodIn_of _ (by decide +kernel)) ggX3_gust_X3_in
set_option maxRecDepth 20000 in
theorem ggX3_gust_X3_blown : GoodIn wsX3_gust wsX3_blown := goodIn_r _ [11, 1, 12, 13, 14, 15, 16, 6, 17, 18, 19, 20, 21, 22, 23, 24, 25, 26, 27, 28, 29, 30, 31, 32, 33, 34, 35, 36, 37, 38, 39, 40] (by decide +kernel) (by decide +kernel)
set_option maxRecDepth 20000 in
theorem gX3_gust_X3_blown : GoodIn wsX3_gust (wsV RX3 154 RX3 yX3_blown wsX3_blown) := goodIn_app (goodIn_of _ (by decide +kernel)) ggX3_gust_X3_blown
theorem dX3_gust_0 : decode cX3_gust 0 = .ok (.aload_n 0, 1) := by decide +kernel
theorem dX3_gust_1 : decode cX3_gust 1 = .ok (.getfield 65, 3) := by decide +kernel
theorem dX3_gust_4 : decode cX3_gust 4 = .ok (.ifCond .ne 6, 3) := by decide +kernel
theorem dX3_gust_7 : decode cX3_gust 7 = .ok (.bipush (-3), 2) := by decide +kernel
theorem dX3_gust_9 : decode cX3_gust 9 = .ok (.ireturn, 1) := by decide +kernel
theorem dX3_gust_10 : decode cX3_gust 10 = .ok (.iload_n 1, 1) := by decide +kernel
theorem dX3_gust_11 : decode cX3_gust 11 = .ok (.i2l, 1) := by decide +kernel
theorem dX3_gust_12 : decode cX3_gust 12 = .ok (.lconst 0, 1) := by decide +kernel
theorem dX3_gust_13 : decode cX3_gust 13 = .ok (.ldc2_w 138, 3) := by decide +kernel
theorem dX3_gust_16 : decode cX3_gust 16 = .ok (.invokestatic 68, 3) := by decide +kernel
theorem dX3_gust_19 : decode cX3_gust 19 = .ok (.ifCond .eq 24, 3) := by decide +kernel
theorem dX3_gust_22 : decode cX3_gust 22 = .ok (.iload_n 2, 1) := by decide +kernel
theorem dX3_gust_23 : decode cX3_gust 23 = .ok (.i2l, 1) := by decide +kernel
theorem dX3_gust_24 : decode cX3_gust 24 = .ok (.lconst 0, 1) := by decide +kernel
theorem dX3_gust_25 : decode cX3_gust 25 = .ok (.ldc2_w 152, 3) := by decide +kernel
theorem dX3_gust_28 : decode cX3_gust 28 = .ok (.invokestatic 68, 3) := by decide +kernel
theorem dX3_gust_31 : decode cX3_gust 31 = .ok (.ifCond .eq 12, 3) := by decide +kernel
theorem dX3_gust_34 : decode cX3_gust 34 = .ok (.aload_n 0, 1) := by decide +kernel
theorem dX3_gust_35 : decode cX3_gust 35 = .ok (.iload_n 1, 1) := by decide +kernel
theorem dX3_gust_36 : decode cX3_gust 36 = .ok (.iload_n 2, 1) := by decide +kernel
theorem dX3_gust_37 : decode cX3_gust 37 = .ok (.invokevirtual 154, 3) := by decide +kernel
theorem dX3_gust_40 : decode cX3_gust 40 = .ok (.goto 5, 3) := by decide +kernel
theorem dX3_gust_43 : decode cX3_gust 43 = .ok (.bipush (-2), 2) := by decide +kernel
theorem dX3_gust_45 : decode cX3_gust 45 = .ok (.ireturn, 1) := by decide +kernel
set_option maxRecDepth 20000 in
theorem ggX3_rain_X3_bits : GoodIn wsX3_rain wsX3_bits := goodIn_r _ [6] (by decide +kernel) (by decide +kernel)
set_option maxRecDepth 20000 in
theorem gX3_rain_X3_bits : GoodIn wsX3_rain (va_wsS RX3 157 yX3_bits wsX3_bits) := goodIn_app (goodIn_of _ (by decide +kernel)) ggX3_rain_X3_bits
set_option maxRecDepth 20000 in
theorem ggX3_rain_X3_everyChair : GoodIn wsX3_rain wsX3_everyChair := goodIn_r _ [10, 1, 11, 12, 13, 14, 15, 16, 17, 18, 19, 20, 21, 22, 23, 24, 25, 26, 27, 28, 29, 30, 31, 32, 33] (by decide +kernel) (by decide +kernel)
set_option maxRecDepth 20000 in
theorem gX3_rain_X3_everyChair : GoodIn wsX3_rain (wsV RX3 160 RX3 yX3_everyChair wsX3_everyChair) := goodIn_app (goodIn_of _ (by decide +kernel)) ggX3_rain_X3_everyChair
theorem dX3_rain_0 : decode cX3_rain 0 = .ok (.aload_n 0, 1) := by decide +kernel
theorem dX3_rain_1 : decode cX3_rain 1 = .ok (.getfield 65, 3) := by decide +kernel
theorem dX3_rain_4 : decode cX3_rain 4 = .ok (.ifCond .ne 6, 3) := by decide +kernel
theorem dX3_rain_7 : decode cX3_rain 7 = .ok (.bipush (-3), 2) := by decide +kernel
theorem dX3_rain_9 : decode cX3_rain 9 = .ok (.ireturn, 1) := by decide +kernel
theorem dX3_rain_10 : decode cX3_rain 10 = .ok (.aload_n 0, 1) := by decide +kernel
theorem dX3_rain_11 : decode cX3_rain 11 = .ok (.getfield 65, 3) := by decide +kernel
theorem dX3_rain_14 : decode cX3_rain 14 = .ok (.aload_n 0, 1) := by decide +kernel
theorem dX3_rain_15 : decode cX3_rain 15 = .ok (.getfield 114, 3) := by decide +kernel
theorem dX3_rain_18 : decode cX3_rain 18 = .ok (.invokestatic 157, 3) := by decide +kernel
theorem dX3_rain_21 : decode cX3_rain 21 = .ok (.isub, 1) := by decide +kernel
theorem dX3_rain_22 : decode cX3_rain 22 = .ok (.istore_n 1, 1) := by decide +kernel
theorem dX3_rain_23 : decode cX3_rain 23 = .ok (.aload_n 0, 1) := by decide +kernel
theorem dX3_rain_24 : decode cX3_rain 24 = .ok (.aload_n 0, 1) := by decide +kernel
theorem dX3_rain_25 : decode cX3_rain 25 = .ok (.invokevirtual 160, 3) := by decide +kernel
theorem dX3_rain_28 : decode cX3_rain 28 = .ok (.putfield 114, 3) := by decide +kernel
theorem dX3_rain_31 : decode cX3_rain 31 = .ok (.iload_n 1, 1) := by decide +kernel
theorem dX3_rain_32 : decode cX3_rain 32 = .ok (.ireturn, 1) := by decide +kernel
set_option maxRecDepth 20000 in
theorem ggX3_open_X3_noChair : GoodIn wsX3_open wsX3_noChair := goodIn_r _ [6, 7, 8, 9, 5, 10, 17, 18, 19, 20, 21, 22, 23, 24, 25, 26, 27, 28, 29, 30, 31, 32, 33, 34, 35, 36, 37, 38, 39] (by decide +kernel) (by decide +kernel)
set_option maxRecDepth 20000 in
theorem gX3_open_X3_noChair : GoodIn wsX3_open (wsV RX3 129 RX3 yX3_noChair wsX3_noChair) := goodIn_app (goodIn_of _ (by decide +kernel)) ggX3_open_X3_noChair
set_option maxRecDepth 20000 in
theorem ggX3_open_X3_isIn : GoodIn wsX3_open wsX3_isIn := goodIn_r _ [13] (by decide +kernel) (by decide +kernel)
set_option maxRecDepth 20000 in
theorem gX3_open_X3_isIn : GoodIn wsX3_open (va_wsS RX3 120 yX3_isIn wsX3_isIn) := goodIn_app (goodIn_of _ (by decide +kernel)) ggX3_open_X3_isIn
set_option maxRecDepth 20000 in
theorem ggX3_open_X3_bits : GoodIn wsX3_open wsX3_bits := goodIn_r _ [16] (by decide +kernel) (by decide +kernel)
set_option maxRecDepth 20000 in
theorem gX3_open_X3_bits : GoodIn wsX3_open (va_wsS RX3 157 yX3_bits wsX3_bits) := goodIn_app (goodIn_of _ (by decide +kernel)) ggX3_open_X3_bits
theorem dX3_open_0 : decode cX3_open 0 = .ok (.aload_n 0, 1) := by decide +kernel
theorem dX3_open_1 : decode cX3_open 1 = .ok (.iload_n 1, 1) := by decide +kernel
theorem dX3_open_2 : decode cX3_open 2 = .ok (.invokevirtual 129, 3) := by decide +kernel
theorem dX3_open_5 : decode cX3_open 5 = .ok (.ifCond .eq 5, 3) := by decide +kernel
theorem dX3_open_8 : decode cX3_open 8 = .ok (.iconst (-1), 1) := by decide +kernel
theorem dX3_open_9 : decode cX3_open 9 = .ok (.ireturn, 1) := by decide +kernel
theorem dX3_open_10 : decode cX3_open 10 = .ok (.aload_n 0, 1) := by decide +kernel
theorem dX3_open_11 : decode cX3_open 11 = .ok (.getfield 114, 3) := by decide +kernel
theorem dX3_open_14 : decode cX3_open 14 = .ok (.iload_n 1, 1) := by decide +kernel
theorem dX3_open_15 : decode cX3_open 15 = .ok (.invokestatic 120, 3) := by decide +kernel
theorem dX3_open_18 : decode cX3_open 18 = .ok (.ifCond .ne 6, 3) := by decide +kernel
theorem dX3_open_21 : decode cX3_open 21 = .ok (.bipush (-3), 2) := by decide +kernel
theorem dX3_open_23 : decode cX3_open 23 = .ok (.ireturn, 1) := by decide +kernel
theorem dX3_open_24 : decode cX3_open 24 = .ok (.aload_n 0, 1) := by decide +kernel
theorem dX3_open_25 : decode cX3_open 25 = .ok (.dup, 1) := by decide +kernel
theorem dX3_open_26 : decode cX3_open 26 = .ok (.getfield 114, 3) := by decide +kernel
theorem dX3_open_29 : decode cX3_open 29 = .ok (.iconst 1, 1) := by decide +kernel
theorem dX3_open_30 : decode cX3_open 30 = .ok (.iload_n 1, 1) := by decide +kernel
theorem dX3_open_31 : decode cX3_open 31 = .ok (.ishl, 1) := by decide +kernel
theorem dX3_open_32 : decode cX3_open 32 = .ok (.iconst (-1), 1) := by decide +kernel
theorem dX3_open_33 : decode cX3_open 33 = .ok (.ixor, 1) := by decide +kernel
theorem dX3_open_34 : decode cX3_open 34 = .ok (.iand, 1) := by decide +kernel
theorem dX3_open_35 : decode cX3_open 35 = .ok (.putfield 114, 3) := by decide +kernel
theorem dX3_open_38 : decode cX3_open 38 = .ok (.aload_n 0, 1) := by decide +kernel
theorem dX3_open_39 : decode cX3_open 39 = .ok (.getfield 114, 3) := by decide +kernel
theorem dX3_open_42 : decode cX3_open 42 = .ok (.invokestatic 157, 3) := by decide +kernel
theorem dX3_open_45 : decode cX3_open 45 = .ok (.ireturn, 1) := by decide +kernel
theorem dX3_keepAll_0 : decode cX3_keepAll 0 = .ok (.aload_n 0, 1) := by decide +kernel
theorem dX3_keepAll_1 : decode cX3_keepAll 1 = .ok (.aload_n 0, 1) := by decide +kernel
theorem dX3_keepAll_2 : decode cX3_keepAll 2 = .ok (.getfield 114, 3) := by decide +kernel
theorem dX3_keepAll_5 : decode cX3_keepAll 5 = .ok (.putfield 164, 3) := by decide +kernel
theorem dX3_keepAll_8 : decode cX3_keepAll 8 = .ok (.iconst 0, 1) := by decide +kernel
theorem dX3_keepAll_9 : decode cX3_keepAll 9 = .ok (.istore_n 1, 1) := by decide +kernel
theorem dX3_keepAll_10 : decode cX3_keepAll 10 = .ok (.iload_n 1, 1) := by decide +kernel
theorem dX3_keepAll_11 : decode cX3_keepAll 11 = .ok (.aload_n 0, 1) := by decide +kernel
theorem dX3_keepAll_12 : decode cX3_keepAll 12 = .ok (.getfield 65, 3) := by decide +kernel
theorem dX3_keepAll_15 : decode cX3_keepAll 15 = .ok (.if_icmp .ge 21, 3) := by decide +kernel
theorem dX3_keepAll_18 : decode cX3_keepAll 18 = .ok (.aload_n 0, 1) := by decide +kernel
theorem dX3_keepAll_19 : decode cX3_keepAll 19 = .ok (.getfield 34, 3) := by decide +kernel
theorem dX3_keepAll_22 : decode cX3_keepAll 22 = .ok (.iload_n 1, 1) := by decide +kernel
theorem dX3_keepAll_23 : decode cX3_keepAll 23 = .ok (.aload_n 0, 1) := by decide +kernel
theorem dX3_keepAll_24 : decode cX3_keepAll 24 = .ok (.getfield 19, 3) := by decide +kernel
theorem dX3_keepAll_27 : decode cX3_keepAll 27 = .ok (.iload_n 1, 1) := by decide +kernel
theorem dX3_keepAll_28 : decode cX3_keepAll 28 = .ok (.iaload, 1) := by decide +kernel
theorem dX3_keepAll_29 : decode cX3_keepAll 29 = .ok (.iastore, 1) := by decide +kernel
theorem dX3_keepAll_30 : decode cX3_keepAll 30 = .ok (.iinc 1 1, 3) := by decide +kernel
theorem dX3_keepAll_33 : decode cX3_keepAll 33 = .ok (.goto (-23), 3) := by decide +kernel
theorem dX3_keepAll_36 : decode cX3_keepAll 36 = .ok (.return_, 1) := by decide +kernel
theorem dX3_bringBack_0 : decode cX3_bringBack 0 = .ok (.aload_n 0, 1) := by decide +kernel
theorem dX3_bringBack_1 : decode cX3_bringBack 1 = .ok (.aload_n 0, 1) := by decide +kernel
theorem dX3_bringBack_2 : decode cX3_bringBack 2 = .ok (.getfield 164, 3) := by decide +kernel
theorem dX3_bringBack_5 : decode cX3_bringBack 5 = .ok (.putfield 114, 3) := by decide +kernel
theorem dX3_bringBack_8 : decode cX3_bringBack 8 = .ok (.iconst 0, 1) := by decide +kernel
theorem dX3_bringBack_9 : decode cX3_bringBack 9 = .ok (.istore_n 1, 1) := by decide +kernel
theorem dX3_bringBack_10 : decode cX3_bringBack 10 = .ok (.iload_n 1, 1) := by decide +kernel
theorem dX3_bringBack_11 : decode cX3_bringBack 11 = .ok (.aload_n 0, 1) := by decide +kernel
theorem dX3_bringBack_12 : decode cX3_bringBack 12 = .ok (.getfield 65, 3) := by decide +kernel
theorem dX3_bringBack_15 : decode cX3_bringBack 15 = .ok (.if_icmp .ge 21, 3) := by decide +kernel
theorem dX3_bringBack_18 : decode cX3_bringBack 18 = .ok (.aload_n 0, 1) := by decide +kernel
theorem dX3_bringBack_19 : decode cX3_bringBack 19 = .ok (.getfield 19, 3) := by decide +kernel
theorem dX3_bringBack_22 : decode cX3_bringBack 22 = .ok (.iload_n 1, 1) := by decide +kernel
theorem dX3_bringBack_23 : decode cX3_bringBack 23 = .ok (.aload_n 0, 1) := by decide +kernel
theorem dX3_bringBack_24 : decode cX3_bringBack 24 = .ok (.getfield 34, 3) := by decide +kernel
theorem dX3_bringBack_27 : decode cX3_bringBack 27 = .ok (.iload_n 1, 1) := by decide +kernel
theorem dX3_bringBack_28 : decode cX3_bringBack 28 = .ok (.iaload, 1) := by decide +kernel
theorem dX3_bringBack_29 : decode cX3_bringBack 29 = .ok (.iastore, 1) := by decide +kernel
theorem dX3_bringBack_30 : decode cX3_bringBack 30 = .ok (.iinc 1 1, 3) := by decide +kernel
theorem dX3_bringBack_33 : decode cX3_bringBack 33 = .ok (.goto (-23), 3) := by decide +kernel
theorem dX3_bringBack_36 : decode cX3_bringBack 36 = .ok (.return_, 1) := by decide +kernel
set_option maxRecDepth 20000 in
theorem ggX3_pairsBarred_X3_in : GoodIn wsX3_pairsBarred wsX3_in := goodIn_r _ [9] (by decide +kernel) (by decide +kernel)
set_option maxRecDepth 20000 in
theorem gX3_pairsBarred_X3_in : GoodIn wsX3_pairsBarred (va_wsS RX3 68 yX3_in wsX3_in) := goodIn_app (goodIn_of _ (by decide +kernel)) ggX3_pairsBarred_X3_in
set_option maxRecDepth 20000 in
theorem ggX3_pairsBarred_X3_noChair : GoodIn wsX3_pairsBarred wsX3_noChair := goodIn_r _ [13, 14, 6, 7, 8, 9, 15, 16, 17, 18, 19, 20, 21, 22, 23, 24, 25, 26, 27, 28, 29, 30, 31, 32, 33, 34, 35, 36, 37] (by decide +kernel) (by decide +kernel)
set_option maxRecDepth 20000 in
theorem gX3_pairsBarred_X3_noChair : GoodIn wsX3_pairsBarred (wsV RX3 129 RX3 yX3_noChair wsX3_noChair) := goodIn_app (goodIn_of _ (by decide +kernel)) ggX3_pairsBarred_X3_noChair
theorem dX3_pairsBarred_0 : decode cX3_pairsBarred 0 = .ok (.iconst 0, 1) := by decide +kernel
theorem dX3_pairsBarred_1 : decode cX3_pairsBarred 1 = .ok (.istore_n 3, 1) := by decide +kernel
theorem dX3_pairsBarred_2 : decode cX3_pairsBarred 2 = .ok (.iload_n 3, 1) := by decide +kernel
theorem dX3_pairsBarred_3 : decode cX3_pairsBarred 3 = .ok (.iload_n 2, 1) := by decide +kernel
theorem dX3_pairsBarred_4 : decode cX3_pairsBarred 4 = .ok (.if_icmp .ge 127, 3) := by decide +kernel
theorem dX3_pairsBarred_7 : decode cX3_pairsBarred 7 = .ok (.aload_n 0, 1) := by decide +kernel
theorem dX3_pairsBarred_8 : decode cX3_pairsBarred 8 = .ok (.getfield 49, 3) := by decide +kernel
theorem dX3_pairsBarred_11 : decode cX3_pairsBarred 11 = .ok (.iload_n 1, 1) := by decide +kernel
theorem dX3_pairsBarred_12 : decode cX3_pairsBarred 12 = .ok (.iconst 2, 1) := by decide +kernel
theorem dX3_pairsBarred_13 : decode cX3_pairsBarred 13 = .ok (.iload_n 3, 1) := by decide +kernel
theorem dX3_pairsBarred_14 : decode cX3_pairsBarred 14 = .ok (.imul, 1) := by decide +kernel
theorem dX3_pairsBarred_15 : decode cX3_pairsBarred 15 = .ok (.iadd, 1) := by decide +kernel
theorem dX3_pairsBarred_16 : decode cX3_pairsBarred 16 = .ok (.iaload, 1) := by decide +kernel
theorem dX3_pairsBarred_17 : decode cX3_pairsBarred 17 = .ok (.istore 4, 2) := by decide +kernel
theorem dX3_pairsBarred_19 : decode cX3_pairsBarred 19 = .ok (.aload_n 0, 1) := by decide +kernel
theorem dX3_pairsBarred_20 : decode cX3_pairsBarred 20 = .ok (.getfield 49, 3) := by decide +kernel
theorem dX3_pairsBarred_23 : decode cX3_pairsBarred 23 = .ok (.iload_n 1, 1) := by decide +kernel
theorem dX3_pairsBarred_24 : decode cX3_pairsBarred 24 = .ok (.iconst 2, 1) := by decide +kernel
theorem dX3_pairsBarred_25 : decode cX3_pairsBarred 25 = .ok (.iload_n 3, 1) := by decide +kernel
theorem dX3_pairsBarred_26 : decode cX3_pairsBarred 26 = .ok (.imul, 1) := by decide +kernel
theorem dX3_pairsBarred_27 : decode cX3_pairsBarred 27 = .ok (.iadd, 1) := by decide +kernel
theorem dX3_pairsBarred_28 : decode cX3_pairsBarred 28 = .ok (.iconst 1, 1) := by decide +kernel
theorem dX3_pairsBarred_29 : decode cX3_pairsBarred 29 = .ok (.iadd, 1) := by decide +kernel
theorem dX3_pairsBarred_30 : decode cX3_pairsBarred 30 = .ok (.iaload, 1) := by decide +kernel
theorem dX3_pairsBarred_31 : decode cX3_pairsBarred 31 = .ok (.istore 5, 2) := by decide +kernel
theorem dX3_pairsBarred_33 : decode cX3_pairsBarred 33 = .ok (.iload 5, 2) := by decide +kernel
theorem dX3_pairsBarred_35 : decode cX3_pairsBarred 35 = .ok (.i2l, 1) := by decide +kernel
theorem dX3_pairsBarred_36 : decode cX3_pairsBarred 36 = .ok (.ldc2_w 167, 3) := by decide +kernel
theorem dX3_pairsBarred_39 : decode cX3_pairsBarred 39 = .ok (.ldc2_w 169, 3) := by decide +kernel
theorem dX3_pairsBarred_42 : decode cX3_pairsBarred 42 = .ok (.invokestatic 68, 3) := by decide +kernel
theorem dX3_pairsBarred_45 : decode cX3_pairsBarred 45 = .ok (.ifCond .eq 20, 3) := by decide +kernel
theorem dX3_pairsBarred_48 : decode cX3_pairsBarred 48 = .ok (.iload 4, 2) := by decide +kernel
theorem dX3_pairsBarred_50 : decode cX3_pairsBarred 50 = .ok (.i2l, 1) := by decide +kernel
theorem dX3_pairsBarred_51 : decode cX3_pairsBarred 51 = .ok (.lconst 0, 1) := by decide +kernel
theorem dX3_pairsBarred_52 : decode cX3_pairsBarred 52 = .ok (.ldc2_w 152, 3) := by decide +kernel
theorem dX3_pairsBarred_55 : decode cX3_pairsBarred 55 = .ok (.invokestatic 68, 3) := by decide +kernel
theorem dX3_pairsBarred_58 : decode cX3_pairsBarred 58 = .ok (.ifCond .ne 7, 3) := by decide +kernel
theorem dX3_pairsBarred_61 : decode cX3_pairsBarred 61 = .ok (.iconst 1, 1) := by decide +kernel
theorem dX3_pairsBarred_62 : decode cX3_pairsBarred 62 = .ok (.goto 4, 3) := by decide +kernel
theorem dX3_pairsBarred_65 : decode cX3_pairsBarred 65 = .ok (.iconst 0, 1) := by decide +kernel
theorem dX3_pairsBarred_66 : decode cX3_pairsBarred 66 = .ok (.istore 6, 2) := by decide +kernel
theorem dX3_pairsBarred_68 : decode cX3_pairsBarred 68 = .ok (.iload 5, 2) := by decide +kernel
theorem dX3_pairsBarred_70 : decode cX3_pairsBarred 70 = .ok (.i2l, 1) := by decide +kernel
theorem dX3_pairsBarred_71 : decode cX3_pairsBarred 71 = .ok (.lconst 0, 1) := by decide +kernel
theorem dX3_pairsBarred_72 : decode cX3_pairsBarred 72 = .ok (.ldc2_w 140, 3) := by decide +kernel
theorem dX3_pairsBarred_75 : decode cX3_pairsBarred 75 = .ok (.invokestatic 68, 3) := by decide +kernel
theorem dX3_pairsBarred_78 : decode cX3_pairsBarred 78 = .ok (.ifCond .eq 20, 3) := by decide +kernel
theorem dX3_pairsBarred_81 : decode cX3_pairsBarred 81 = .ok (.iload 6, 2) := by decide +kernel
theorem dX3_pairsBarred_83 : decode cX3_pairsBarred 83 = .ok (.ifCond .ne 15, 3) := by decide +kernel
theorem dX3_pairsBarred_86 : decode cX3_pairsBarred 86 = .ok (.iload 5, 2) := by decide +kernel
theorem dX3_pairsBarred_88 : decode cX3_pairsBarred 88 = .ok (.bipush 8, 2) := by decide +kernel
theorem dX3_pairsBarred_90 : decode cX3_pairsBarred 90 = .ok (.if_icmp .ne 11, 3) := by decide +kernel
theorem dX3_pairsBarred_93 : decode cX3_pairsBarred 93 = .ok (.iload 4, 2) := by decide +kernel
theorem dX3_pairsBarred_95 : decode cX3_pairsBarred 95 = .ok (.ifCond .eq 6, 3) := by decide +kernel
theorem dX3_pairsBarred_98 : decode cX3_pairsBarred 98 = .ok (.bipush (-2), 2) := by decide +kernel
theorem dX3_pairsBarred_100 : decode cX3_pairsBarred 100 = .ok (.ireturn, 1) := by decide +kernel
theorem dX3_pairsBarred_101 : decode cX3_pairsBarred 101 = .ok (.iload 5, 2) := by decide +kernel
theorem dX3_pairsBarred_103 : decode cX3_pairsBarred 103 = .ok (.iconst 4, 1) := by decide +kernel
theorem dX3_pairsBarred_104 : decode cX3_pairsBarred 104 = .ok (.if_icmp .lt 10, 3) := by decide +kernel
theorem dX3_pairsBarred_107 : decode cX3_pairsBarred 107 = .ok (.iload 5, 2) := by decide +kernel
theorem dX3_pairsBarred_109 : decode cX3_pairsBarred 109 = .ok (.bipush 9, 2) := by decide +kernel
theorem dX3_pairsBarred_111 : decode cX3_pairsBarred 111 = .ok (.if_icmp .ne 14, 3) := by decide +kernel
theorem dX3_pairsBarred_114 : decode cX3_pairsBarred 114 = .ok (.aload_n 0, 1) := by decide +kernel
theorem dX3_pairsBarred_115 : decode cX3_pairsBarred 115 = .ok (.iload 4, 2) := by decide +kernel
theorem dX3_pairsBarred_117 : decode cX3_pairsBarred 117 = .ok (.invokevirtual 129, 3) := by decide +kernel
theorem dX3_pairsBarred_120 : decode cX3_pairsBarred 120 = .ok (.ifCond .eq 5, 3) := by decide +kernel
theorem dX3_pairsBarred_123 : decode cX3_pairsBarred 123 = .ok (.iconst (-1), 1) := by decide +kernel
theorem dX3_pairsBarred_124 : decode cX3_pairsBarred 124 = .ok (.ireturn, 1) := by decide +kernel
theorem dX3_pairsBarred_125 : decode cX3_pairsBarred 125 = .ok (.iinc 3 1, 3) := by decide +kernel
theorem dX3_pairsBarred_128 : decode cX3_pairsBarred 128 = .ok (.goto (-126), 3) := by decide +kernel
theorem dX3_pairsBarred_131 : decode cX3_pairsBarred 131 = .ok (.iconst 0, 1) := by decide +kernel
theorem dX3_pairsBarred_132 : decode cX3_pairsBarred 132 = .ok (.ireturn, 1) := by decide +kernel
set_option maxRecDepth 20000 in
theorem ggX3_didPair_X3_turn : GoodIn wsX3_didPair wsX3_turn := goodIn_r _ [6, 7, 1, 8, 9, 10, 11, 5, 12, 13, 14, 15, 16, 17, 18, 19, 36, 37, 38, 39, 40, 41, 42, 43, 44, 45, 46, 47, 48, 49, 50, 51, 52, 53, 54, 55, 56, 57, 58] (by decide +kernel) (by decide +kernel)
set_option maxRecDepth 20000 in
theorem gX3_didPair_X3_turn : GoodIn wsX3_didPair (wsV RX3 171 RX3 yX3_turn wsX3_turn) := goodIn_app (goodIn_of _ (by decide +kernel)) ggX3_didPair_X3_turn
set_option maxRecDepth 20000 in
theorem ggX3_didPair_X3_open : GoodIn wsX3_didPair wsX3_open := goodIn_r _ [23, 1, 9, 10, 11, 5, 12, 13, 14, 15, 16, 17, 18, 19, 24, 25, 26, 36, 37, 38, 39, 40, 41, 42, 43, 44, 45, 46, 47, 48, 49, 50, 51, 52, 53, 54, 55, 56, 57, 58] (by decide +kernel) (by decide +kernel)
set_option maxRecDepth 20000 in
theorem gX3_didPair_X3_open : GoodIn wsX3_didPair (wsV RX3 174 RX3 yX3_open wsX3_open) := goodIn_app (goodIn_of _ (by decide +kernel)) ggX3_didPair_X3_open
set_option maxRecDepth 20000 in
theorem ggX3_didPair_X3_everyChair : GoodIn wsX3_didPair wsX3_everyChair := goodIn_r _ [30, 13, 36, 37, 38, 39, 40, 41, 42, 43, 44, 45, 46, 47, 48, 49, 50, 51, 52, 53, 54, 55, 56, 57, 58] (by decide +kernel) (by decide +kernel)
set_option maxRecDepth 20000 in
theorem gX3_didPair_X3_everyChair : GoodIn wsX3_didPair (wsV RX3 160 RX3 yX3_everyChair wsX3_everyChair) := goodIn_app (goodIn_of _ (by decide +kernel)) ggX3_didPair_X3_everyChair
set_option maxRecDepth 20000 in
theorem ggX3_didPair_X3_blown : GoodIn wsX3_didPair wsX3_blown := goodIn_r _ [34, 13, 1, 35, 8, 17, 18, 5, 19, 36, 37, 38, 39, 40, 41, 42, 43, 44, 45, 46, 47, 48, 49, 50, 51, 52, 53, 54, 55, 56, 57, 58] (by decide +kernel) (by decide +kernel)
set_option maxRecDepth 20000 in
theorem gX3_didPair_X3_blown : GoodIn wsX3_didPair (wsV RX3 154 RX3 yX3_blown wsX3_blown) := goodIn_app (goodIn_of _ (by decide +kernel)) ggX3_didPair_X3_blown
theorem dX3_didPair_0 : decode cX3_didPair 0 = .ok (.iload_n 2, 1) := by decide +kernel
theorem dX3_didPair_1 : decode cX3_didPair 1 = .ok (.iconst 4, 1) := by decide +kernel
theorem dX3_didPair_2 : decode cX3_didPair 2 = .ok (.if_icmp .ge 18, 3) := by decide +kernel
theorem dX3_didPair_5 : decode cX3_didPair 5 = .ok (.aload_n 0, 1) := by decide +kernel
theorem dX3_didPair_6 : decode cX3_didPair 6 = .ok (.iload_n 1, 1) := by decide +kernel
theorem dX3_didPair_7 : decode cX3_didPair 7 = .ok (.iload_n 2, 1) := by decide +kernel
theorem dX3_didPair_8 : decode cX3_didPair 8 = .ok (.invokevirtual 171, 3) := by decide +kernel
theorem dX3_didPair_11 : decode cX3_didPair 11 = .ok (.ifCond .lt 7, 3) := by decide +kernel
theorem dX3_didPair_14 : decode cX3_didPair 14 = .ok (.iconst 1, 1) := by decide +kernel
theorem dX3_didPair_15 : decode cX3_didPair 15 = .ok (.goto 4, 3) := by decide +kernel
theorem dX3_didPair_18 : decode cX3_didPair 18 = .ok (.iconst 0, 1) := by decide +kernel
theorem dX3_didPair_19 : decode cX3_didPair 19 = .ok (.ireturn, 1) := by decide +kernel
theorem dX3_didPair_20 : decode cX3_didPair 20 = .ok (.iload_n 2, 1) := by decide +kernel
theorem dX3_didPair_21 : decode cX3_didPair 21 = .ok (.bipush 9, 2) := by decide +kernel
theorem dX3_didPair_23 : decode cX3_didPair 23 = .ok (.if_icmp .ne 17, 3) := by decide +kernel
theorem dX3_didPair_26 : decode cX3_didPair 26 = .ok (.aload_n 0, 1) := by decide +kernel
theorem dX3_didPair_27 : decode cX3_didPair 27 = .ok (.iload_n 1, 1) := by decide +kernel
theorem dX3_didPair_28 : decode cX3_didPair 28 = .ok (.invokevirtual 174, 3) := by decide +kernel
theorem dX3_didPair_31 : decode cX3_didPair 31 = .ok (.ifCond .lt 7, 3) := by decide +kernel
theorem dX3_didPair_34 : decode cX3_didPair 34 = .ok (.iconst 1, 1) := by decide +kernel
theorem dX3_didPair_35 : decode cX3_didPair 35 = .ok (.goto 4, 3) := by decide +kernel
theorem dX3_didPair_38 : decode cX3_didPair 38 = .ok (.iconst 0, 1) := by decide +kernel
theorem dX3_didPair_39 : decode cX3_didPair 39 = .ok (.ireturn, 1) := by decide +kernel
theorem dX3_didPair_40 : decode cX3_didPair 40 = .ok (.iload_n 2, 1) := by decide +kernel
theorem dX3_didPair_41 : decode cX3_didPair 41 = .ok (.bipush 8, 2) := by decide +kernel
theorem dX3_didPair_43 : decode cX3_didPair 43 = .ok (.if_icmp .ne 14, 3) := by decide +kernel
theorem dX3_didPair_46 : decode cX3_didPair 46 = .ok (.aload_n 0, 1) := by decide +kernel
theorem dX3_didPair_47 : decode cX3_didPair 47 = .ok (.aload_n 0, 1) := by decide +kernel
theorem dX3_didPair_48 : decode cX3_didPair 48 = .ok (.invokevirtual 160, 3) := by decide +kernel
theorem dX3_didPair_51 : decode cX3_didPair 51 = .ok (.putfield 114, 3) := by decide +kernel
theorem dX3_didPair_54 : decode cX3_didPair 54 = .ok (.goto 12, 3) := by decide +kernel
theorem dX3_didPair_57 : decode cX3_didPair 57 = .ok (.aload_n 0, 1) := by decide +kernel
theorem dX3_didPair_58 : decode cX3_didPair 58 = .ok (.iload_n 2, 1) := by decide +kernel
theorem dX3_didPair_59 : decode cX3_didPair 59 = .ok (.iconst 4, 1) := by decide +kernel
theorem dX3_didPair_60 : decode cX3_didPair 60 = .ok (.isub, 1) := by decide +kernel
theorem dX3_didPair_61 : decode cX3_didPair 61 = .ok (.iload_n 1, 1) := by decide +kernel
theorem dX3_didPair_62 : decode cX3_didPair 62 = .ok (.invokevirtual 154, 3) := by decide +kernel
theorem dX3_didPair_65 : decode cX3_didPair 65 = .ok (.pop, 1) := by decide +kernel
theorem dX3_didPair_66 : decode cX3_didPair 66 = .ok (.iconst 1, 1) := by decide +kernel
theorem dX3_didPair_67 : decode cX3_didPair 67 = .ok (.ireturn, 1) := by decide +kernel
set_option maxRecDepth 20000 in
theorem ggX3_dayBy_X3_didPair : GoodIn wsX3_dayBy wsX3_didPair := goodIn_r _ [8, 3, 9, 10, 11, 7, 12, 13, 2, 14, 15, 16, 17, 18, 19, 20, 21, 22, 23, 24, 25, 26, 27, 28, 29, 30, 31, 32, 33, 34, 35, 36, 37, 38, 39, 40, 71, 72, 73, 74, 75, 76, 77, 78, 79, 80, 81, 82, 83, 84, 85, 86, 87, 88, 89, 90, 91, 92, 93] (by decide +kernel) (by decide +kernel)
set_option maxRecDepth 20000 in
theorem gX3_dayBy_X3_didPair : GoodIn wsX3_dayBy (wsV RX3 177 RX3 yX3_didPair wsX3_didPair) := goodIn_app (goodIn_of _ (by decide +kernel)) ggX3_dayBy_X3_didPair
set_option maxRecDepth 20000 in
theorem ggX3_dayBy_X3_isCarried : GoodIn wsX3_dayBy wsX3_isCarried := goodIn_r _ [44, 45, 46, 47, 7, 48, 18, 49, 50, 51, 52, 3, 53, 2, 22, 23, 24, 54, 55, 56, 57, 58, 59, 60, 61, 62, 63, 64, 65, 66, 67, 68, 69, 40, 70, 71, 72, 73, 74, 75, 76, 77, 78, 79, 80, 81, 82, 83, 84, 85, 86, 87, 88, 89, 90, 91, 92, 93] (by decide +kernel) (by decide +kernel)
set_option maxRecDepth 20000 in
theorem gX3_dayBy_X3_isCarried : GoodIn wsX3_dayBy (wsV RX3 148 RX3 yX3_isCarried wsX3_isCarried) := goodIn_app (goodIn_of _ (by decide +kernel)) ggX3_dayBy_X3_isCarried
set_option maxRecDepth 20000 in
theorem ggX3_dayBy_X3_noChair : GoodIn wsX3_dayBy wsX3_noChair := goodIn_r _ [17, 18, 19, 20, 7, 21, 71, 72, 73, 74, 75, 76, 77, 78, 79, 80, 81, 82, 83, 84, 85, 86, 87, 88, 89, 90, 91, 92, 93] (by decide +kernel) (by decide +kernel)
set_option maxRecDepth 20000 in
theorem gX3_dayBy_X3_noChair : GoodIn wsX3_dayBy (wsV RX3 129 RX3 yX3_noChair wsX3_noChair) := goodIn_app (goodIn_of _ (by decide +kernel)) ggX3_dayBy_X3_noChair
set_option maxRecDepth 20000 in
theorem ggX3_dayBy_X3_whoIs : GoodIn wsX3_dayBy wsX3_whoIs := goodIn_r _ [48, 18, 49, 50, 51, 7, 52, 3, 53, 2, 22, 23, 24, 54, 55, 56, 57, 71, 72, 73, 74, 75, 76, 77, 78, 79, 80, 81, 82, 83, 84, 85, 86, 87, 88, 89, 90, 91, 92, 93] (by decide +kernel) (by decide +kernel)
set_option maxRecDepth 20000 in
theorem gX3_dayBy_X3_whoIs : GoodIn wsX3_dayBy (wsV RX3 142 RX3 yX3_whoIs wsX3_whoIs) := goodIn_app (goodIn_of _ (by decide +kernel)) ggX3_dayBy_X3_whoIs
set_option maxRecDepth 20000 in
theorem ggX3_dayBy_X3_votesIn : GoodIn wsX3_dayBy wsX3_votesIn := goodIn_r _ [61, 18, 22, 23, 7, 24, 62, 63, 64, 65, 3, 66, 67, 68, 69, 40, 70, 71, 72, 73, 74, 75, 76, 77, 78, 79, 80, 81, 82, 83, 84, 85, 86, 87, 88, 89, 90, 91, 92, 93] (by decide +kernel) (by decide +kernel)
set_option maxRecDepth 20000 in
theorem gX3_dayBy_X3_votesIn : GoodIn wsX3_dayBy (wsV RX3 145 RX3 yX3_votesIn wsX3_votesIn) := goodIn_app (goodIn_of _ (by decide +kernel)) ggX3_dayBy_X3_votesIn
theorem dX3_dayBy_0 : decode cX3_dayBy 0 = .ok (.bipush (-9), 2) := by decide +kernel
theorem dX3_dayBy_2 : decode cX3_dayBy 2 = .ok (.istore 4, 2) := by decide +kernel
theorem dX3_dayBy_4 : decode cX3_dayBy 4 = .ok (.iconst 0, 1) := by decide +kernel
theorem dX3_dayBy_5 : decode cX3_dayBy 5 = .ok (.istore 5, 2) := by decide +kernel
theorem dX3_dayBy_7 : decode cX3_dayBy 7 = .ok (.iconst 0, 1) := by decide +kernel
theorem dX3_dayBy_8 : decode cX3_dayBy 8 = .ok (.istore 6, 2) := by decide +kernel
theorem dX3_dayBy_10 : decode cX3_dayBy 10 = .ok (.iload 6, 2) := by decide +kernel
theorem dX3_dayBy_12 : decode cX3_dayBy 12 = .ok (.iload_n 2, 1) := by decide +kernel
theorem dX3_dayBy_13 : decode cX3_dayBy 13 = .ok (.if_icmp .ge 71, 3) := by decide +kernel
theorem dX3_dayBy_16 : decode cX3_dayBy 16 = .ok (.iload 4, 2) := by decide +kernel
theorem dX3_dayBy_18 : decode cX3_dayBy 18 = .ok (.ifCond .ge 66, 3) := by decide +kernel
theorem dX3_dayBy_21 : decode cX3_dayBy 21 = .ok (.aload_n 0, 1) := by decide +kernel
theorem dX3_dayBy_22 : decode cX3_dayBy 22 = .ok (.aload_n 0, 1) := by decide +kernel
theorem dX3_dayBy_23 : decode cX3_dayBy 23 = .ok (.getfield 49, 3) := by decide +kernel
theorem dX3_dayBy_26 : decode cX3_dayBy 26 = .ok (.iload_n 1, 1) := by decide +kernel
theorem dX3_dayBy_27 : decode cX3_dayBy 27 = .ok (.iconst 2, 1) := by decide +kernel
theorem dX3_dayBy_28 : decode cX3_dayBy 28 = .ok (.iload 6, 2) := by decide +kernel
theorem dX3_dayBy_30 : decode cX3_dayBy 30 = .ok (.imul, 1) := by decide +kernel
theorem dX3_dayBy_31 : decode cX3_dayBy 31 = .ok (.iadd, 1) := by decide +kernel
theorem dX3_dayBy_32 : decode cX3_dayBy 32 = .ok (.iaload, 1) := by decide +kernel
theorem dX3_dayBy_33 : decode cX3_dayBy 33 = .ok (.aload_n 0, 1) := by decide +kernel
theorem dX3_dayBy_34 : decode cX3_dayBy 34 = .ok (.getfield 49, 3) := by decide +kernel
theorem dX3_dayBy_37 : decode cX3_dayBy 37 = .ok (.iload_n 1, 1) := by decide +kernel
theorem dX3_dayBy_38 : decode cX3_dayBy 38 = .ok (.iconst 2, 1) := by decide +kernel
theorem dX3_dayBy_39 : decode cX3_dayBy 39 = .ok (.iload 6, 2) := by decide +kernel
theorem dX3_dayBy_41 : decode cX3_dayBy 41 = .ok (.imul, 1) := by decide +kernel
theorem dX3_dayBy_42 : decode cX3_dayBy 42 = .ok (.iadd, 1) := by decide +kernel
theorem dX3_dayBy_43 : decode cX3_dayBy 43 = .ok (.iconst 1, 1) := by decide +kernel
theorem dX3_dayBy_44 : decode cX3_dayBy 44 = .ok (.iadd, 1) := by decide +kernel
theorem dX3_dayBy_45 : decode cX3_dayBy 45 = .ok (.iaload, 1) := by decide +kernel
theorem dX3_dayBy_46 : decode cX3_dayBy 46 = .ok (.invokevirtual 177, 3) := by decide +kernel
theorem dX3_dayBy_49 : decode cX3_dayBy 49 = .ok (.ifCond .eq 8, 3) := by decide +kernel
theorem dX3_dayBy_52 : decode cX3_dayBy 52 = .ok (.bipush (-9), 2) := by decide +kernel
theorem dX3_dayBy_54 : decode cX3_dayBy 54 = .ok (.goto 5, 3) := by decide +kernel
theorem dX3_dayBy_57 : decode cX3_dayBy 57 = .ok (.iload 6, 2) := by decide +kernel
theorem dX3_dayBy_59 : decode cX3_dayBy 59 = .ok (.istore 4, 2) := by decide +kernel
theorem dX3_dayBy_61 : decode cX3_dayBy 61 = .ok (.iload 5, 2) := by decide +kernel
theorem dX3_dayBy_63 : decode cX3_dayBy 63 = .ok (.aload_n 0, 1) := by decide +kernel
theorem dX3_dayBy_64 : decode cX3_dayBy 64 = .ok (.invokevirtual 148, 3) := by decide +kernel
theorem dX3_dayBy_67 : decode cX3_dayBy 67 = .ok (.ifCond .eq 7, 3) := by decide +kernel
theorem dX3_dayBy_70 : decode cX3_dayBy 70 = .ok (.iconst 1, 1) := by decide +kernel
theorem dX3_dayBy_71 : decode cX3_dayBy 71 = .ok (.goto 4, 3) := by decide +kernel
theorem dX3_dayBy_74 : decode cX3_dayBy 74 = .ok (.iconst 0, 1) := by decide +kernel
theorem dX3_dayBy_75 : decode cX3_dayBy 75 = .ok (.iadd, 1) := by decide +kernel
theorem dX3_dayBy_76 : decode cX3_dayBy 76 = .ok (.istore 5, 2) := by decide +kernel
theorem dX3_dayBy_78 : decode cX3_dayBy 78 = .ok (.iinc 6 1, 3) := by decide +kernel
theorem dX3_dayBy_81 : decode cX3_dayBy 81 = .ok (.goto (-71), 3) := by decide +kernel
theorem dX3_dayBy_84 : decode cX3_dayBy 84 = .ok (.iload_n 3, 1) := by decide +kernel
theorem dX3_dayBy_85 : decode cX3_dayBy 85 = .ok (.iconst 1, 1) := by decide +kernel
theorem dX3_dayBy_86 : decode cX3_dayBy 86 = .ok (.if_icmp .ne 6, 3) := by decide +kernel
theorem dX3_dayBy_89 : decode cX3_dayBy 89 = .ok (.iload 4, 2) := by decide +kernel
theorem dX3_dayBy_91 : decode cX3_dayBy 91 = .ok (.ireturn, 1) := by decide +kernel
theorem dX3_dayBy_92 : decode cX3_dayBy 92 = .ok (.iload 4, 2) := by decide +kernel
theorem dX3_dayBy_94 : decode cX3_dayBy 94 = .ok (.ifCond .lt 9, 3) := by decide +kernel
theorem dX3_dayBy_97 : decode cX3_dayBy 97 = .ok (.bipush (-100), 2) := by decide +kernel
theorem dX3_dayBy_99 : decode cX3_dayBy 99 = .ok (.iload 4, 2) := by decide +kernel
theorem dX3_dayBy_101 : decode cX3_dayBy 101 = .ok (.isub, 1) := by decide +kernel
theorem dX3_dayBy_102 : decode cX3_dayBy 102 = .ok (.ireturn, 1) := by decide +kernel
theorem dX3_dayBy_103 : decode cX3_dayBy 103 = .ok (.iload_n 3, 1) := by decide +kernel
theorem dX3_dayBy_104 : decode cX3_dayBy 104 = .ok (.bipush 10, 2) := by decide +kernel
theorem dX3_dayBy_106 : decode cX3_dayBy 106 = .ok (.if_icmp .lt 29, 3) := by decide +kernel
theorem dX3_dayBy_109 : decode cX3_dayBy 109 = .ok (.aload_n 0, 1) := by decide +kernel
theorem dX3_dayBy_110 : decode cX3_dayBy 110 = .ok (.iload_n 3, 1) := by decide +kernel
theorem dX3_dayBy_111 : decode cX3_dayBy 111 = .ok (.bipush 10, 2) := by decide +kernel
theorem dX3_dayBy_113 : decode cX3_dayBy 113 = .ok (.isub, 1) := by decide +kernel
theorem dX3_dayBy_114 : decode cX3_dayBy 114 = .ok (.invokevirtual 129, 3) := by decide +kernel
theorem dX3_dayBy_117 : decode cX3_dayBy 117 = .ok (.ifCond .eq 8, 3) := by decide +kernel
theorem dX3_dayBy_120 : decode cX3_dayBy 120 = .ok (.bipush (-9), 2) := by decide +kernel
theorem dX3_dayBy_122 : decode cX3_dayBy 122 = .ok (.goto 12, 3) := by decide +kernel
theorem dX3_dayBy_125 : decode cX3_dayBy 125 = .ok (.aload_n 0, 1) := by decide +kernel
theorem dX3_dayBy_126 : decode cX3_dayBy 126 = .ok (.getfield 19, 3) := by decide +kernel
theorem dX3_dayBy_129 : decode cX3_dayBy 129 = .ok (.iload_n 3, 1) := by decide +kernel
theorem dX3_dayBy_130 : decode cX3_dayBy 130 = .ok (.bipush 10, 2) := by decide +kernel
theorem dX3_dayBy_132 : decode cX3_dayBy 132 = .ok (.isub, 1) := by decide +kernel
theorem dX3_dayBy_133 : decode cX3_dayBy 133 = .ok (.iaload, 1) := by decide +kernel
theorem dX3_dayBy_134 : decode cX3_dayBy 134 = .ok (.ireturn, 1) := by decide +kernel
theorem dX3_dayBy_135 : decode cX3_dayBy 135 = .ok (.iload_n 3, 1) := by decide +kernel
theorem dX3_dayBy_136 : decode cX3_dayBy 136 = .ok (.ifCond .ne 15, 3) := by decide +kernel
theorem dX3_dayBy_139 : decode cX3_dayBy 139 = .ok (.aload_n 0, 1) := by decide +kernel
theorem dX3_dayBy_140 : decode cX3_dayBy 140 = .ok (.aload_n 0, 1) := by decide +kernel
theorem dX3_dayBy_141 : decode cX3_dayBy 141 = .ok (.iconst 1, 1) := by decide +kernel
theorem dX3_dayBy_142 : decode cX3_dayBy 142 = .ok (.invokevirtual 142, 3) := by decide +kernel
theorem dX3_dayBy_145 : decode cX3_dayBy 145 = .ok (.invokevirtual 145, 3) := by decide +kernel
theorem dX3_dayBy_148 : decode cX3_dayBy 148 = .ok (.goto 34, 3) := by decide +kernel
theorem dX3_dayBy_151 : decode cX3_dayBy 151 = .ok (.iload_n 3, 1) := by decide +kernel
theorem dX3_dayBy_152 : decode cX3_dayBy 152 = .ok (.iconst 2, 1) := by decide +kernel
theorem dX3_dayBy_153 : decode cX3_dayBy 153 = .ok (.if_icmp .ne 15, 3) := by decide +kernel
theorem dX3_dayBy_156 : decode cX3_dayBy 156 = .ok (.aload_n 0, 1) := by decide +kernel
theorem dX3_dayBy_157 : decode cX3_dayBy 157 = .ok (.aload_n 0, 1) := by decide +kernel
theorem dX3_dayBy_158 : decode cX3_dayBy 158 = .ok (.iconst 2, 1) := by decide +kernel
theorem dX3_dayBy_159 : decode cX3_dayBy 159 = .ok (.invokevirtual 142, 3) := by decide +kernel
theorem dX3_dayBy_162 : decode cX3_dayBy 162 = .ok (.invokevirtual 145, 3) := by decide +kernel
theorem dX3_dayBy_165 : decode cX3_dayBy 165 = .ok (.goto 17, 3) := by decide +kernel
theorem dX3_dayBy_168 : decode cX3_dayBy 168 = .ok (.iload_n 3, 1) := by decide +kernel
theorem dX3_dayBy_169 : decode cX3_dayBy 169 = .ok (.iconst 3, 1) := by decide +kernel
theorem dX3_dayBy_170 : decode cX3_dayBy 170 = .ok (.if_icmp .ne 10, 3) := by decide +kernel
theorem dX3_dayBy_173 : decode cX3_dayBy 173 = .ok (.aload_n 0, 1) := by decide +kernel
theorem dX3_dayBy_174 : decode cX3_dayBy 174 = .ok (.getfield 114, 3) := by decide +kernel
theorem dX3_dayBy_177 : decode cX3_dayBy 177 = .ok (.goto 5, 3) := by decide +kernel
theorem dX3_dayBy_180 : decode cX3_dayBy 180 = .ok (.iload 5, 2) := by decide +kernel
theorem dX3_dayBy_182 : decode cX3_dayBy 182 = .ok (.ireturn, 1) := by decide +kernel
set_option maxRecDepth 20000 in
theorem ggX3_day_X3_noSheet : GoodIn wsX3_day wsX3_noSheet := goodIn_r _ [10, 11, 12, 13, 9, 14] (by decide +kernel) (by decide +kernel)
set_option maxRecDepth 20000 in
theorem gX3_day_X3_noSheet : GoodIn wsX3_day (va_wsS RX3 98 yX3_noSheet wsX3_noSheet) := goodIn_app (goodIn_of _ (by decide +kernel)) ggX3_day_X3_noSheet
set_option maxRecDepth 20000 in
theorem ggX3_day_X3_refused : GoodIn wsX3_day wsX3_refused := goodIn_r _ [18, 19, 117, 118, 119, 120, 121, 122, 123, 124, 125, 126, 127, 128, 129, 130, 131, 132, 133, 134, 135, 136, 137, 138, 139] (by decide +kernel) (by decide +kernel)
set_option maxRecDepth 20000 in
theorem gX3_day_X3_refused : GoodIn wsX3_day (wsV RX3 102 RX3 yX3_refused wsX3_refused) := goodIn_app (goodIn_of _ (by decide +kernel)) ggX3_day_X3_refused
set_option maxRecDepth 20000 in
theorem ggX3_day_X3_in : GoodIn wsX3_day wsX3_in := goodIn_r _ [14] (by decide +kernel) (by decide +kernel)
set_option maxRecDepth 20000 in
theorem gX3_day_X3_in : GoodIn wsX3_day (va_wsS RX3 68 yX3_in wsX3_in) := goodIn_app (goodIn_of _ (by decide +kernel)) ggX3_day_X3_in
set_option maxRecDepth 20000 in
theorem ggX3_day_X3_cellsBarred : GoodIn wsX3_day wsX3_cellsBarred := goodIn_r _ [23, 24, 25, 26, 27, 28, 9, 29, 19, 30, 31, 32, 117, 118, 119, 120, 121, 122, 123, 124, 125, 126, 127, 128, 129, 130, 131, 132, 133, 134, 135, 136, 137, 138, 139] (by decide +kernel) (by decide +kernel)
set_option maxRecDepth 20000 in
theorem gX3_day_X3_cellsBarred : GoodIn wsX3_day (wsV RX3 107 RX3 yX3_cellsBarred wsX3_cellsBarred) := goodIn_app (goodIn_of _ (by decide +kernel)) ggX3_day_X3_cellsBarred
set_option maxRecDepth 20000 in
theorem ggX3_day_X3_pairsBarred : GoodIn wsX3_day wsX3_pairsBarred := goodIn_r _ [36, 37, 3, 38, 4, 39, 12, 13, 9, 14, 40, 41, 42, 43, 6, 117, 118, 119, 120, 121, 122, 123, 124, 125, 126, 127, 128, 129, 130, 131, 132, 133, 134, 135, 136, 137, 138, 139] (by decide +kernel) (by decide +kernel)
set_option maxRecDepth 20000 in
theorem gX3_day_X3_pairsBarred : GoodIn wsX3_day (wsV RX3 184 RX3 yX3_pairsBarred wsX3_pairsBarred) := goodIn_app (goodIn_of _ (by decide +kernel)) ggX3_day_X3_pairsBarred
set_option maxRecDepth 20000 in
theorem ggX3_day_X3_keepAll : GoodIn wsX3_day wsX3_keepAll := goodIn_r _ [47, 48, 49, 6, 50, 51, 117, 118, 119, 120, 121, 122, 123, 124, 125, 126, 127, 128, 129, 130, 131, 132, 133, 134, 135, 136, 137, 138, 139] (by decide +kernel) (by decide +kernel)
set_option maxRecDepth 20000 in
theorem gX3_day_X3_keepAll : GoodIn wsX3_day (wsV RX3 187 RX3 yX3_keepAll wsX3_keepAll) := goodIn_app (goodIn_of _ (by decide +kernel)) ggX3_day_X3_keepAll
set_option maxRecDepth 20000 in
theorem ggX3_day_X3_dayBy : GoodIn wsX3_day wsX3_dayBy := goodIn_r _ [55, 37, 51, 48, 56, 57, 58, 9, 59, 60, 61, 62, 63, 11, 40, 41, 42, 43, 6, 12, 13, 14, 64, 65, 66, 67, 68, 69, 70, 71, 72, 73, 74, 75, 76, 77, 78, 79, 80, 81, 82, 83, 84, 85, 86, 87, 88, 89, 90, 91, 92, 93, 94, 95, 96, 97, 98, 99, 100, 101, 102, 103, 104, 105, 106, 107, 108, 109, 110, 111, 112, 117, 118, 119, 120, 121, 122, 123, 124, 125, 126, 127, 128, 129, 130, 131, 132, 133, 134, 135, 136, 137, 138, 139] (by decide +kernel) (by decide +kernel)
set_option maxRecDepth 20000 in
theorem gX3_day_X3_dayBy : GoodIn wsX3_day (wsV RX3 190 RX3 yX3_dayBy wsX3_dayBy) := goodIn_app (goodIn_of _ (by decide +kernel)) ggX3_day_X3_dayBy
set_option maxRecDepth 20000 in
theorem ggX3_day_X3_bringBack : GoodIn wsX3_day wsX3_bringBack := goodIn_r _ [116, 49, 48, 6, 51, 50, 117, 118, 119, 120, 121, 122, 123, 124, 125, 126, 127, 128, 129, 130, 131, 132, 133, 134, 135, 136, 137, 138, 139] (by decide +kernel) (by decide +kernel)
set_option maxRecDepth 20000 in
theorem gX3_day_X3_bringBack : GoodIn wsX3_day (wsV RX3 194 RX3 yX3_bringBack wsX3_bringBack) := goodIn_app (goodIn_of _ (by decide +kernel)) ggX3_day_X3_bringBack
theorem dX3_day_0 : decode cX3_day 0 = .ok (.iload_n 1, 1) := by decide +kernel
theorem dX3_day_1 : decode cX3_day 1 = .ok (.invokestatic 98, 3) := by decide +kernel
theorem dX3_day_4 : decode cX3_day 4 = .ok (.ifCond .eq 9, 3) := by decide +kernel
theorem dX3_day_7 : decode cX3_day 7 = .ok (.aload_n 0, 1) := by decide +kernel
theorem dX3_day_8 : decode cX3_day 8 = .ok (.iconst (-1), 1) := by decide +kernel
theorem dX3_day_9 : decode cX3_day 9 = .ok (.invokevirtual 102, 3) := by decide +kernel
theorem dX3_day_12 : decode cX3_day 12 = .ok (.ireturn, 1) := by decide +kernel
theorem dX3_day_13 : decode cX3_day 13 = .ok (.iload_n 2, 1) := by decide +kernel
theorem dX3_day_14 : decode cX3_day 14 = .ok (.i2l, 1) := by decide +kernel
theorem dX3_day_15 : decode cX3_day 15 = .ok (.lconst 0, 1) := by decide +kernel
theorem dX3_day_16 : decode cX3_day 16 = .ok (.ldc2_w 105, 3) := by decide +kernel
theorem dX3_day_19 : decode cX3_day 19 = .ok (.invokestatic 68, 3) := by decide +kernel
theorem dX3_day_22 : decode cX3_day 22 = .ok (.ifCond .eq 44, 3) := by decide +kernel
theorem dX3_day_25 : decode cX3_day 25 = .ok (.iload 4, 2) := by decide +kernel
theorem dX3_day_27 : decode cX3_day 27 = .ok (.i2l, 1) := by decide +kernel
theorem dX3_day_28 : decode cX3_day 28 = .ok (.lconst 0, 1) := by decide +kernel
theorem dX3_day_29 : decode cX3_day 29 = .ok (.ldc2_w 180, 3) := by decide +kernel
theorem dX3_day_32 : decode cX3_day 32 = .ok (.invokestatic 68, 3) := by decide +kernel
theorem dX3_day_35 : decode cX3_day 35 = .ok (.ifCond .eq 31, 3) := by decide +kernel
theorem dX3_day_38 : decode cX3_day 38 = .ok (.iload 5, 2) := by decide +kernel
theorem dX3_day_40 : decode cX3_day 40 = .ok (.i2l, 1) := by decide +kernel
theorem dX3_day_41 : decode cX3_day 41 = .ok (.lconst 0, 1) := by decide +kernel
theorem dX3_day_42 : decode cX3_day 42 = .ok (.ldc2_w 167, 3) := by decide +kernel
theorem dX3_day_45 : decode cX3_day 45 = .ok (.invokestatic 68, 3) := by decide +kernel
theorem dX3_day_48 : decode cX3_day 48 = .ok (.ifCond .ne 25, 3) := by decide +kernel
theorem dX3_day_51 : decode cX3_day 51 = .ok (.iload 5, 2) := by decide +kernel
theorem dX3_day_53 : decode cX3_day 53 = .ok (.i2l, 1) := by decide +kernel
theorem dX3_day_54 : decode cX3_day 54 = .ok (.ldc2_w 152, 3) := by decide +kernel
theorem dX3_day_57 : decode cX3_day 57 = .ok (.ldc2_w 182, 3) := by decide +kernel
theorem dX3_day_60 : decode cX3_day 60 = .ok (.invokestatic 68, 3) := by decide +kernel
theorem dX3_day_63 : decode cX3_day 63 = .ok (.ifCond .ne 10, 3) := by decide +kernel
theorem dX3_day_66 : decode cX3_day 66 = .ok (.aload_n 0, 1) := by decide +kernel
theorem dX3_day_67 : decode cX3_day 67 = .ok (.bipush (-2), 2) := by decide +kernel
theorem dX3_day_69 : decode cX3_day 69 = .ok (.invokevirtual 102, 3) := by decide +kernel
theorem dX3_day_72 : decode cX3_day 72 = .ok (.ireturn, 1) := by decide +kernel
theorem dX3_day_73 : decode cX3_day 73 = .ok (.aload_n 0, 1) := by decide +kernel
theorem dX3_day_74 : decode cX3_day 74 = .ok (.getfield 65, 3) := by decide +kernel
theorem dX3_day_77 : decode cX3_day 77 = .ok (.ifCond .ne 10, 3) := by decide +kernel
theorem dX3_day_80 : decode cX3_day 80 = .ok (.aload_n 0, 1) := by decide +kernel
theorem dX3_day_81 : decode cX3_day 81 = .ok (.bipush (-3), 2) := by decide +kernel
theorem dX3_day_83 : decode cX3_day 83 = .ok (.invokevirtual 102, 3) := by decide +kernel
theorem dX3_day_86 : decode cX3_day 86 = .ok (.ireturn, 1) := by decide +kernel
theorem dX3_day_87 : decode cX3_day 87 = .ok (.aload_n 0, 1) := by decide +kernel
theorem dX3_day_88 : decode cX3_day 88 = .ok (.iload_n 1, 1) := by decide +kernel
theorem dX3_day_89 : decode cX3_day 89 = .ok (.iload_n 2, 1) := by decide +kernel
theorem dX3_day_90 : decode cX3_day 90 = .ok (.iload_n 3, 1) := by decide +kernel
theorem dX3_day_91 : decode cX3_day 91 = .ok (.ldc2_w 105, 3) := by decide +kernel
theorem dX3_day_94 : decode cX3_day 94 = .ok (.iload 4, 2) := by decide +kernel
theorem dX3_day_96 : decode cX3_day 96 = .ok (.i2l, 1) := by decide +kernel
theorem dX3_day_97 : decode cX3_day 97 = .ok (.lmul, 1) := by decide +kernel
theorem dX3_day_98 : decode cX3_day 98 = .ok (.invokevirtual 107, 3) := by decide +kernel
theorem dX3_day_101 : decode cX3_day 101 = .ok (.istore 6, 2) := by decide +kernel
theorem dX3_day_103 : decode cX3_day 103 = .ok (.iload 6, 2) := by decide +kernel
theorem dX3_day_105 : decode cX3_day 105 = .ok (.ifCond .ge 6, 3) := by decide +kernel
theorem dX3_day_108 : decode cX3_day 108 = .ok (.iload 6, 2) := by decide +kernel
theorem dX3_day_110 : decode cX3_day 110 = .ok (.ireturn, 1) := by decide +kernel
theorem dX3_day_111 : decode cX3_day 111 = .ok (.aload_n 0, 1) := by decide +kernel
theorem dX3_day_112 : decode cX3_day 112 = .ok (.bipush 60, 2) := by decide +kernel
theorem dX3_day_114 : decode cX3_day 114 = .ok (.iload_n 1, 1) := by decide +kernel
theorem dX3_day_115 : decode cX3_day 115 = .ok (.imul, 1) := by decide +kernel
theorem dX3_day_116 : decode cX3_day 116 = .ok (.iload_n 3, 1) := by decide +kernel
theorem dX3_day_117 : decode cX3_day 117 = .ok (.iadd, 1) := by decide +kernel
theorem dX3_day_118 : decode cX3_day 118 = .ok (.iload 4, 2) := by decide +kernel
theorem dX3_day_120 : decode cX3_day 120 = .ok (.invokevirtual 184, 3) := by decide +kernel
theorem dX3_day_123 : decode cX3_day 123 = .ok (.istore 6, 2) := by decide +kernel
theorem dX3_day_125 : decode cX3_day 125 = .ok (.iload 6, 2) := by decide +kernel
theorem dX3_day_127 : decode cX3_day 127 = .ok (.ifCond .ge 10, 3) := by decide +kernel
theorem dX3_day_130 : decode cX3_day 130 = .ok (.aload_n 0, 1) := by decide +kernel
theorem dX3_day_131 : decode cX3_day 131 = .ok (.iload 6, 2) := by decide +kernel
theorem dX3_day_133 : decode cX3_day 133 = .ok (.invokevirtual 102, 3) := by decide +kernel
theorem dX3_day_136 : decode cX3_day 136 = .ok (.ireturn, 1) := by decide +kernel
theorem dX3_day_137 : decode cX3_day 137 = .ok (.aload_n 0, 1) := by decide +kernel
theorem dX3_day_138 : decode cX3_day 138 = .ok (.invokevirtual 187, 3) := by decide +kernel
theorem dX3_day_141 : decode cX3_day 141 = .ok (.aload_n 0, 1) := by decide +kernel
theorem dX3_day_142 : decode cX3_day 142 = .ok (.bipush 60, 2) := by decide +kernel
theorem dX3_day_144 : decode cX3_day 144 = .ok (.iload_n 1, 1) := by decide +kernel
theorem dX3_day_145 : decode cX3_day 145 = .ok (.imul, 1) := by decide +kernel
theorem dX3_day_146 : decode cX3_day 146 = .ok (.iload_n 3, 1) := by decide +kernel
theorem dX3_day_147 : decode cX3_day 147 = .ok (.iadd, 1) := by decide +kernel
theorem dX3_day_148 : decode cX3_day 148 = .ok (.iload 4, 2) := by decide +kernel
theorem dX3_day_150 : decode cX3_day 150 = .ok (.iload 5, 2) := by decide +kernel
theorem dX3_day_152 : decode cX3_day 152 = .ok (.invokevirtual 190, 3) := by decide +kernel
theorem dX3_day_155 : decode cX3_day 155 = .ok (.istore 7, 2) := by decide +kernel
theorem dX3_day_157 : decode cX3_day 157 = .ok (.aload_n 0, 1) := by decide +kernel
theorem dX3_day_158 : decode cX3_day 158 = .ok (.invokevirtual 194, 3) := by decide +kernel
theorem dX3_day_161 : decode cX3_day 161 = .ok (.aload_n 0, 1) := by decide +kernel
theorem dX3_day_162 : decode cX3_day 162 = .ok (.iload 7, 2) := by decide +kernel
theorem dX3_day_164 : decode cX3_day 164 = .ok (.invokevirtual 102, 3) := by decide +kernel
theorem dX3_day_167 : decode cX3_day 167 = .ok (.ireturn, 1) := by decide +kernel
set_option maxRecDepth 20000 in
theorem ggX3_swing_X3_keepAll : GoodIn wsX3_swing wsX3_keepAll := goodIn_r _ [8, 3, 9, 1, 10, 2, 56, 57, 58, 59, 60, 61, 62, 63, 64, 65, 66, 67, 68, 69, 70, 71, 72, 73, 74, 75, 76, 77, 78] (by decide +kernel) (by decide +kernel)
set_option maxRecDepth 20000 in
theorem gX3_swing_X3_keepAll : GoodIn wsX3_swing (wsV RX3 187 RX3 yX3_keepAll wsX3_keepAll) := goodIn_app (goodIn_of _ (by decide +kernel)) ggX3_swing_X3_keepAll
set_option maxRecDepth 20000 in
theorem ggX3_swing_X3_everyChair : GoodIn wsX3_swing wsX3_everyChair := goodIn_r _ [14, 1, 56, 57, 58, 59, 60, 61, 62, 63, 64, 65, 66, 67, 68, 69, 70, 71, 72, 73, 74, 75, 76, 77, 78] (by decide +kernel) (by decide +kernel)
set_option maxRecDepth 20000 in
theorem gX3_swing_X3_everyChair : GoodIn wsX3_swing (wsV RX3 160 RX3 yX3_everyChair wsX3_everyChair) := goodIn_app (goodIn_of _ (by decide +kernel)) ggX3_swing_X3_everyChair
set_option maxRecDepth 20000 in
theorem ggX3_swing_X3_isIn : GoodIn wsX3_swing wsX3_isIn := goodIn_r _ [17] (by decide +kernel) (by decide +kernel)
set_option maxRecDepth 20000 in
theorem gX3_swing_X3_isIn : GoodIn wsX3_swing (va_wsS RX3 120 yX3_isIn wsX3_isIn) := goodIn_app (goodIn_of _ (by decide +kernel)) ggX3_swing_X3_isIn
set_option maxRecDepth 20000 in
theorem ggX3_swing_X3_isCarried : GoodIn wsX3_swing wsX3_isCarried := goodIn_r _ [21, 22, 23, 24, 7, 25, 1, 26, 27, 28, 29, 3, 30, 2, 15, 16, 17, 31, 32, 33, 34, 35, 36, 37, 38, 39, 40, 41, 42, 43, 44, 45, 46, 47, 48, 56, 57, 58, 59, 60, 61, 62, 63, 64, 65, 66, 67, 68, 69, 70, 71, 72, 73, 74, 75, 76, 77, 78] (by decide +kernel) (by decide +kernel)
set_option maxRecDepth 20000 in
theorem gX3_swing_X3_isCarried : GoodIn wsX3_swing (wsV RX3 148 RX3 yX3_isCarried wsX3_isCarried) := goodIn_app (goodIn_of _ (by decide +kernel)) ggX3_swing_X3_isCarried
set_option maxRecDepth 20000 in
theorem ggX3_swing_X3_bringBack : GoodIn wsX3_swing wsX3_bringBack := goodIn_r _ [52, 9, 3, 1, 2, 10, 56, 57, 58, 59, 60, 61, 62, 63, 64, 65, 66, 67, 68, 69, 70, 71, 72, 73, 74, 75, 76, 77, 78] (by decide +kernel) (by decide +kernel)
set_option maxRecDepth 20000 in
theorem gX3_swing_X3_bringBack : GoodIn wsX3_swing (wsV RX3 194 RX3 yX3_bringBack wsX3_bringBack) := goodIn_app (goodIn_of _ (by decide +kernel)) ggX3_swing_X3_bringBack
set_option maxRecDepth 20000 in
theorem ggX3_swing_X3_bits : GoodIn wsX3_swing wsX3_bits := goodIn_r _ [55] (by decide +kernel) (by decide +kernel)
set_option maxRecDepth 20000 in
theorem gX3_swing_X3_bits : GoodIn wsX3_swing (va_wsS RX3 157 yX3_bits wsX3_bits) := goodIn_app (goodIn_of _ (by decide +kernel)) ggX3_swing_X3_bits
theorem dX3_swing_0 : decode cX3_swing 0 = .ok (.aload_n 0, 1) := by decide +kernel
theorem dX3_swing_1 : decode cX3_swing 1 = .ok (.getfield 65, 3) := by decide +kernel
theorem dX3_swing_4 : decode cX3_swing 4 = .ok (.ifCond .ne 6, 3) := by decide +kernel
theorem dX3_swing_7 : decode cX3_swing 7 = .ok (.bipush (-3), 2) := by decide +kernel
theorem dX3_swing_9 : decode cX3_swing 9 = .ok (.ireturn, 1) := by decide +kernel
theorem dX3_swing_10 : decode cX3_swing 10 = .ok (.aload_n 0, 1) := by decide +kernel
theorem dX3_swing_11 : decode cX3_swing 11 = .ok (.invokevirtual 187, 3) := by decide +kernel
theorem dX3_swing_14 : decode cX3_swing 14 = .ok (.bipush (-9), 2) := by decide +kernel
theorem dX3_swing_16 : decode cX3_swing 16 = .ok (.istore_n 1, 1) := by decide +kernel
theorem dX3_swing_17 : decode cX3_swing 17 = .ok (.iconst 0, 1) := by decide +kernel
theorem dX3_swing_18 : decode cX3_swing 18 = .ok (.istore_n 2, 1) := by decide +kernel
theorem dX3_swing_19 : decode cX3_swing 19 = .ok (.iload_n 2, 1) := by decide +kernel
theorem dX3_swing_20 : decode cX3_swing 20 = .ok (.aload_n 0, 1) := by decide +kernel
theorem dX3_swing_21 : decode cX3_swing 21 = .ok (.invokevirtual 160, 3) := by decide +kernel
theorem dX3_swing_24 : decode cX3_swing 24 = .ok (.if_icmp .gt 100, 3) := by decide +kernel
theorem dX3_swing_27 : decode cX3_swing 27 = .ok (.iconst 0, 1) := by decide +kernel
theorem dX3_swing_28 : decode cX3_swing 28 = .ok (.istore_n 3, 1) := by decide +kernel
theorem dX3_swing_29 : decode cX3_swing 29 = .ok (.iload_n 3, 1) := by decide +kernel
theorem dX3_swing_30 : decode cX3_swing 30 = .ok (.aload_n 0, 1) := by decide +kernel
theorem dX3_swing_31 : decode cX3_swing 31 = .ok (.getfield 65, 3) := by decide +kernel
theorem dX3_swing_34 : decode cX3_swing 34 = .ok (.if_icmp .ge 33, 3) := by decide +kernel
theorem dX3_swing_37 : decode cX3_swing 37 = .ok (.aload_n 0, 1) := by decide +kernel
theorem dX3_swing_38 : decode cX3_swing 38 = .ok (.getfield 19, 3) := by decide +kernel
theorem dX3_swing_41 : decode cX3_swing 41 = .ok (.iload_n 3, 1) := by decide +kernel
theorem dX3_swing_42 : decode cX3_swing 42 = .ok (.iload_n 2, 1) := by decide +kernel
theorem dX3_swing_43 : decode cX3_swing 43 = .ok (.iload_n 3, 1) := by decide +kernel
theorem dX3_swing_44 : decode cX3_swing 44 = .ok (.invokestatic 120, 3) := by decide +kernel
theorem dX3_swing_47 : decode cX3_swing 47 = .ok (.ifCond .eq 7, 3) := by decide +kernel
theorem dX3_swing_50 : decode cX3_swing 50 = .ok (.iconst 0, 1) := by decide +kernel
theorem dX3_swing_51 : decode cX3_swing 51 = .ok (.goto 9, 3) := by decide +kernel
theorem dX3_swing_54 : decode cX3_swing 54 = .ok (.aload_n 0, 1) := by decide +kernel
theorem dX3_swing_55 : decode cX3_swing 55 = .ok (.getfield 19, 3) := by decide +kernel
theorem dX3_swing_58 : decode cX3_swing 58 = .ok (.iload_n 3, 1) := by decide +kernel
theorem dX3_swing_59 : decode cX3_swing 59 = .ok (.iaload, 1) := by decide +kernel
theorem dX3_swing_60 : decode cX3_swing 60 = .ok (.iastore, 1) := by decide +kernel
theorem dX3_swing_61 : decode cX3_swing 61 = .ok (.iinc 3 1, 3) := by decide +kernel
theorem dX3_swing_64 : decode cX3_swing 64 = .ok (.goto (-35), 3) := by decide +kernel
theorem dX3_swing_67 : decode cX3_swing 67 = .ok (.iload_n 2, 1) := by decide +kernel
theorem dX3_swing_68 : decode cX3_swing 68 = .ok (.aload_n 0, 1) := by decide +kernel
theorem dX3_swing_69 : decode cX3_swing 69 = .ok (.getfield 114, 3) := by decide +kernel
theorem dX3_swing_72 : decode cX3_swing 72 = .ok (.iand, 1) := by decide +kernel
theorem dX3_swing_73 : decode cX3_swing 73 = .ok (.ifCond .ne 14, 3) := by decide +kernel
theorem dX3_swing_76 : decode cX3_swing 76 = .ok (.aload_n 0, 1) := by decide +kernel
theorem dX3_swing_77 : decode cX3_swing 77 = .ok (.invokevirtual 148, 3) := by decide +kernel
theorem dX3_swing_80 : decode cX3_swing 80 = .ok (.ifCond .eq 7, 3) := by decide +kernel
theorem dX3_swing_83 : decode cX3_swing 83 = .ok (.iconst 1, 1) := by decide +kernel
theorem dX3_swing_84 : decode cX3_swing 84 = .ok (.goto 4, 3) := by decide +kernel
theorem dX3_swing_87 : decode cX3_swing 87 = .ok (.iconst 0, 1) := by decide +kernel
theorem dX3_swing_88 : decode cX3_swing 88 = .ok (.istore_n 3, 1) := by decide +kernel
theorem dX3_swing_89 : decode cX3_swing 89 = .ok (.aload_n 0, 1) := by decide +kernel
theorem dX3_swing_90 : decode cX3_swing 90 = .ok (.invokevirtual 194, 3) := by decide +kernel
theorem dX3_swing_93 : decode cX3_swing 93 = .ok (.iload_n 3, 1) := by decide +kernel
theorem dX3_swing_94 : decode cX3_swing 94 = .ok (.ifCond .eq 22, 3) := by decide +kernel
theorem dX3_swing_97 : decode cX3_swing 97 = .ok (.iload_n 1, 1) := by decide +kernel
theorem dX3_swing_98 : decode cX3_swing 98 = .ok (.ifCond .lt 14, 3) := by decide +kernel
theorem dX3_swing_101 : decode cX3_swing 101 = .ok (.iload_n 2, 1) := by decide +kernel
theorem dX3_swing_102 : decode cX3_swing 102 = .ok (.invokestatic 157, 3) := by decide +kernel
theorem dX3_swing_105 : decode cX3_swing 105 = .ok (.iload_n 1, 1) := by decide +kernel
theorem dX3_swing_106 : decode cX3_swing 106 = .ok (.invokestatic 157, 3) := by decide +kernel
theorem dX3_swing_109 : decode cX3_swing 109 = .ok (.if_icmp .ge 7, 3) := by decide +kernel
theorem dX3_swing_112 : decode cX3_swing 112 = .ok (.iload_n 2, 1) := by decide +kernel
theorem dX3_swing_113 : decode cX3_swing 113 = .ok (.goto 4, 3) := by decide +kernel
theorem dX3_swing_116 : decode cX3_swing 116 = .ok (.iload_n 1, 1) := by decide +kernel
theorem dX3_swing_117 : decode cX3_swing 117 = .ok (.istore_n 1, 1) := by decide +kernel
theorem dX3_swing_118 : decode cX3_swing 118 = .ok (.iinc 2 1, 3) := by decide +kernel
theorem dX3_swing_121 : decode cX3_swing 121 = .ok (.goto (-102), 3) := by decide +kernel
theorem dX3_swing_124 : decode cX3_swing 124 = .ok (.iload_n 1, 1) := by decide +kernel
theorem dX3_swing_125 : decode cX3_swing 125 = .ok (.ireturn, 1) := by decide +kernel
set_option maxRecDepth 20000 in
theorem ggX3_blow_X3_in : GoodIn wsX3_blow wsX3_in := goodIn_r _ [6] (by decide +kernel) (by decide +kernel)
set_option maxRecDepth 20000 in
theorem gX3_blow_X3_in : GoodIn wsX3_blow (va_wsS RX3 68 yX3_in wsX3_in) := goodIn_app (goodIn_of _ (by decide +kernel)) ggX3_blow_X3_in
set_option maxRecDepth 20000 in
theorem ggX3_blow_X3_keepAll : GoodIn wsX3_blow wsX3_keepAll := goodIn_r _ [10, 11, 12, 1, 13, 14, 57, 58, 59, 60, 61, 62, 63, 64, 65, 66, 67, 68, 69, 70, 71, 72, 73, 74, 75, 76, 77, 78, 79] (by decide +kernel) (by decide +kernel)
set_option maxRecDepth 20000 in
theorem gX3_blow_X3_keepAll : GoodIn wsX3_blow (wsV RX3 187 RX3 yX3_keepAll wsX3_keepAll) := goodIn_app (goodIn_of _ (by decide +kernel)) ggX3_blow_X3_keepAll
set_option maxRecDepth 20000 in
theorem ggX3_blow_X3_blown : GoodIn wsX3_blow wsX3_blown := goodIn_r _ [18, 1, 11, 19, 14, 20, 21, 5, 22, 57, 58, 59, 60, 61, 62, 63, 64, 65, 66, 67, 68, 69, 70, 71, 72, 73, 74, 75, 76, 77, 78, 79] (by decide +kernel) (by decide +kernel)
set_option maxRecDepth 20000 in
theorem gX3_blow_X3_blown : GoodIn wsX3_blow (wsV RX3 154 RX3 yX3_blown wsX3_blown) := goodIn_app (goodIn_of _ (by decide +kernel)) ggX3_blow_X3_blown
set_option maxRecDepth 20000 in
theorem ggX3_blow_X3_isCarried : GoodIn wsX3_blow wsX3_isCarried := goodIn_r _ [26, 27, 28, 29, 5, 30, 1, 31, 32, 33, 34, 11, 35, 14, 20, 21, 22, 36, 37, 38, 39, 40, 41, 42, 43, 44, 45, 46, 47, 48, 49, 50, 51, 19, 52, 57, 58, 59, 60, 61, 62, 63, 64, 65, 66, 67, 68, 69, 70, 71, 72, 73, 74, 75, 76, 77, 78, 79] (by decide +kernel) (by decide +kernel)
set_option maxRecDepth 20000 in
theorem gX3_blow_X3_isCarried : GoodIn wsX3_blow (wsV RX3 148 RX3 yX3_isCarried wsX3_isCarried) := goodIn_app (goodIn_of _ (by decide +kernel)) ggX3_blow_X3_isCarried
set_option maxRecDepth 20000 in
theorem ggX3_blow_X3_bringBack : GoodIn wsX3_blow wsX3_bringBack := goodIn_r _ [56, 12, 11, 1, 14, 13, 57, 58, 59, 60, 61, 62, 63, 64, 65, 66, 67, 68, 69, 70, 71, 72, 73, 74, 75, 76, 77, 78, 79] (by decide +kernel) (by decide +kernel)
set_option maxRecDepth 20000 in
theorem gX3_blow_X3_bringBack : GoodIn wsX3_blow (wsV RX3 194 RX3 yX3_bringBack wsX3_bringBack) := goodIn_app (goodIn_of _ (by decide +kernel)) ggX3_blow_X3_bringBack
theorem dX3_blow_0 : decode cX3_blow 0 = .ok (.aload_n 0, 1) := by decide +kernel
theorem dX3_blow_1 : decode cX3_blow 1 = .ok (.getfield 65, 3) := by decide +kernel
theorem dX3_blow_4 : decode cX3_blow 4 = .ok (.ifCond .ne 6, 3) := by decide +kernel
theorem dX3_blow_7 : decode cX3_blow 7 = .ok (.bipush (-3), 2) := by decide +kernel
theorem dX3_blow_9 : decode cX3_blow 9 = .ok (.ireturn, 1) := by decide +kernel
theorem dX3_blow_10 : decode cX3_blow 10 = .ok (.iload_n 1, 1) := by decide +kernel
theorem dX3_blow_11 : decode cX3_blow 11 = .ok (.i2l, 1) := by decide +kernel
theorem dX3_blow_12 : decode cX3_blow 12 = .ok (.lconst 0, 1) := by decide +kernel
theorem dX3_blow_13 : decode cX3_blow 13 = .ok (.ldc2_w 138, 3) := by decide +kernel
theorem dX3_blow_16 : decode cX3_blow 16 = .ok (.invokestatic 68, 3) := by decide +kernel
theorem dX3_blow_19 : decode cX3_blow 19 = .ok (.ifCond .ne 6, 3) := by decide +kernel
theorem dX3_blow_22 : decode cX3_blow 22 = .ok (.bipush (-2), 2) := by decide +kernel
theorem dX3_blow_24 : decode cX3_blow 24 = .ok (.ireturn, 1) := by decide +kernel
theorem dX3_blow_25 : decode cX3_blow 25 = .ok (.aload_n 0, 1) := by decide +kernel
theorem dX3_blow_26 : decode cX3_blow 26 = .ok (.invokevirtual 187, 3) := by decide +kernel
theorem dX3_blow_29 : decode cX3_blow 29 = .ok (.bipush (-9), 2) := by decide +kernel
theorem dX3_blow_31 : decode cX3_blow 31 = .ok (.istore_n 2, 1) := by decide +kernel
theorem dX3_blow_32 : decode cX3_blow 32 = .ok (.bipush 10, 2) := by decide +kernel
theorem dX3_blow_34 : decode cX3_blow 34 = .ok (.istore_n 3, 1) := by decide +kernel
theorem dX3_blow_35 : decode cX3_blow 35 = .ok (.iload_n 3, 1) := by decide +kernel
theorem dX3_blow_36 : decode cX3_blow 36 = .ok (.ifCond .lt 33, 3) := by decide +kernel
theorem dX3_blow_39 : decode cX3_blow 39 = .ok (.aload_n 0, 1) := by decide +kernel
theorem dX3_blow_40 : decode cX3_blow 40 = .ok (.iload_n 1, 1) := by decide +kernel
theorem dX3_blow_41 : decode cX3_blow 41 = .ok (.iload_n 3, 1) := by decide +kernel
theorem dX3_blow_42 : decode cX3_blow 42 = .ok (.invokevirtual 154, 3) := by decide +kernel
theorem dX3_blow_45 : decode cX3_blow 45 = .ok (.pop, 1) := by decide +kernel
theorem dX3_blow_46 : decode cX3_blow 46 = .ok (.aload_n 0, 1) := by decide +kernel
theorem dX3_blow_47 : decode cX3_blow 47 = .ok (.invokevirtual 148, 3) := by decide +kernel
theorem dX3_blow_50 : decode cX3_blow 50 = .ok (.ifCond .eq 7, 3) := by decide +kernel
theorem dX3_blow_53 : decode cX3_blow 53 = .ok (.iload_n 3, 1) := by decide +kernel
theorem dX3_blow_54 : decode cX3_blow 54 = .ok (.goto 4, 3) := by decide +kernel
theorem dX3_blow_57 : decode cX3_blow 57 = .ok (.iload_n 2, 1) := by decide +kernel
theorem dX3_blow_58 : decode cX3_blow 58 = .ok (.istore_n 2, 1) := by decide +kernel
theorem dX3_blow_59 : decode cX3_blow 59 = .ok (.aload_n 0, 1) := by decide +kernel
theorem dX3_blow_60 : decode cX3_blow 60 = .ok (.invokevirtual 194, 3) := by decide +kernel
theorem dX3_blow_63 : decode cX3_blow 63 = .ok (.iinc 3 (-1), 3) := by decide +kernel
theorem dX3_blow_66 : decode cX3_blow 66 = .ok (.goto (-31), 3) := by decide +kernel
theorem dX3_blow_69 : decode cX3_blow 69 = .ok (.iload_n 2, 1) := by decide +kernel
theorem dX3_blow_70 : decode cX3_blow 70 = .ok (.ireturn, 1) := by decide +kernel
set_option maxRecDepth 20000 in
theorem ggX3_wonBy_X3_countsAs : GoodIn wsX3_wonBy wsX3_countsAs := goodIn_r _ [6, 7, 8, 9, 10, 11, 5, 12, 13, 14, 15, 16, 1, 27, 28, 29, 30, 31, 32, 33, 34, 35, 36, 37, 38, 39, 40, 41, 42, 43, 44, 45, 46, 47, 48, 49] (by decide +kernel) (by decide +kernel)
set_option maxRecDepth 20000 in
theorem gX3_wonBy_X3_countsAs : GoodIn wsX3_wonBy (wsV RX3 135 RX3 yX3_countsAs wsX3_countsAs) := goodIn_app (goodIn_of _ (by decide +kernel)) ggX3_wonBy_X3_countsAs
set_option maxRecDepth 20000 in
theorem ggX3_wonBy_X3_votesOf : GoodIn wsX3_wonBy wsX3_votesOf := goodIn_r _ [20, 7, 10, 11, 5, 12, 21, 22, 23, 24, 25, 26, 27, 28, 29, 30, 31, 32, 33, 34, 35, 36, 37, 38, 39, 40, 41, 42, 43, 44, 45, 46, 47, 48, 49] (by decide +kernel) (by decide +kernel)
set_option maxRecDepth 20000 in
theorem gX3_wonBy_X3_votesOf : GoodIn wsX3_wonBy (wsV RX3 132 RX3 yX3_votesOf wsX3_votesOf) := goodIn_app (goodIn_of _ (by decide +kernel)) ggX3_wonBy_X3_votesOf
set_option maxRecDepth 20000 in
theorem ggX3_wonBy_X3_isIn : GoodIn wsX3_wonBy wsX3_isIn := goodIn_r _ [12] (by decide +kernel) (by decide +kernel)
set_option maxRecDepth 20000 in
theorem gX3_wonBy_X3_isIn : GoodIn wsX3_wonBy (va_wsS RX3 120 yX3_isIn wsX3_isIn) := goodIn_app (goodIn_of _ (by decide +kernel)) ggX3_wonBy_X3_isIn
theorem dX3_wonBy_0 : decode cX3_wonBy 0 = .ok (.iconst 0, 1) := by decide +kernel
theorem dX3_wonBy_1 : decode cX3_wonBy 1 = .ok (.istore_n 2, 1) := by decide +kernel
theorem dX3_wonBy_2 : decode cX3_wonBy 2 = .ok (.iconst 0, 1) := by decide +kernel
theorem dX3_wonBy_3 : decode cX3_wonBy 3 = .ok (.istore_n 3, 1) := by decide +kernel
theorem dX3_wonBy_4 : decode cX3_wonBy 4 = .ok (.iconst 0, 1) := by decide +kernel
theorem dX3_wonBy_5 : decode cX3_wonBy 5 = .ok (.istore 4, 2) := by decide +kernel
theorem dX3_wonBy_7 : decode cX3_wonBy 7 = .ok (.iload 4, 2) := by decide +kernel
theorem dX3_wonBy_9 : decode cX3_wonBy 9 = .ok (.aload_n 0, 1) := by decide +kernel
theorem dX3_wonBy_10 : decode cX3_wonBy 10 = .ok (.getfield 65, 3) := by decide +kernel
theorem dX3_wonBy_13 : decode cX3_wonBy 13 = .ok (.if_icmp .ge 88, 3) := by decide +kernel
theorem dX3_wonBy_16 : decode cX3_wonBy 16 = .ok (.aload_n 0, 1) := by decide +kernel
theorem dX3_wonBy_17 : decode cX3_wonBy 17 = .ok (.iload 4, 2) := by decide +kernel
theorem dX3_wonBy_19 : decode cX3_wonBy 19 = .ok (.invokevirtual 135, 3) := by decide +kernel
theorem dX3_wonBy_22 : decode cX3_wonBy 22 = .ok (.istore 5, 2) := by decide +kernel
theorem dX3_wonBy_24 : decode cX3_wonBy 24 = .ok (.iload_n 3, 1) := by decide +kernel
theorem dX3_wonBy_25 : decode cX3_wonBy 25 = .ok (.iload 5, 2) := by decide +kernel
theorem dX3_wonBy_27 : decode cX3_wonBy 27 = .ok (.iconst 1, 1) := by decide +kernel
theorem dX3_wonBy_28 : decode cX3_wonBy 28 = .ok (.if_icmp .ne 12, 3) := by decide +kernel
theorem dX3_wonBy_31 : decode cX3_wonBy 31 = .ok (.aload_n 0, 1) := by decide +kernel
theorem dX3_wonBy_32 : decode cX3_wonBy 32 = .ok (.iload 4, 2) := by decide +kernel
theorem dX3_wonBy_34 : decode cX3_wonBy 34 = .ok (.invokevirtual 132, 3) := by decide +kernel
theorem dX3_wonBy_37 : decode cX3_wonBy 37 = .ok (.goto 20, 3) := by decide +kernel
theorem dX3_wonBy_40 : decode cX3_wonBy 40 = .ok (.iload 5, 2) := by decide +kernel
theorem dX3_wonBy_42 : decode cX3_wonBy 42 = .ok (.iconst 2, 1) := by decide +kernel
theorem dX3_wonBy_43 : decode cX3_wonBy 43 = .ok (.if_icmp .ne 13, 3) := by decide +kernel
theorem dX3_wonBy_46 : decode cX3_wonBy 46 = .ok (.aload_n 0, 1) := by decide +kernel
