theorem dX3_wonBy_47 : decode cX3_wonBy 47 = .ok (.iload 4, 2) := by decide +kernel
theorem dX3_wonBy_49 : decode cX3_wonBy 49 = .ok (.invokevirtual 132, 3) := by decide +kernel
theorem dX3_wonBy_52 : decode cX3_wonBy 52 = .ok (.ineg, 1) := by decide +kernel
theorem dX3_wonBy_53 : decode cX3_wonBy 53 = .ok (.goto 4, 3) := by decide +kernel
theorem dX3_wonBy_56 : decode cX3_wonBy 56 = .ok (.iconst 0, 1) := by decide +kernel
theorem dX3_wonBy_57 : decode cX3_wonBy 57 = .ok (.iadd, 1) := by decide +kernel
theorem dX3_wonBy_58 : decode cX3_wonBy 58 = .ok (.istore_n 3, 1) := by decide +kernel
theorem dX3_wonBy_59 : decode cX3_wonBy 59 = .ok (.iload 4, 2) := by decide +kernel
theorem dX3_wonBy_61 : decode cX3_wonBy 61 = .ok (.aload_n 0, 1) := by decide +kernel
theorem dX3_wonBy_62 : decode cX3_wonBy 62 = .ok (.getfield 65, 3) := by decide +kernel
theorem dX3_wonBy_65 : decode cX3_wonBy 65 = .ok (.iconst 1, 1) := by decide +kernel
theorem dX3_wonBy_66 : decode cX3_wonBy 66 = .ok (.isub, 1) := by decide +kernel
theorem dX3_wonBy_67 : decode cX3_wonBy 67 = .ok (.if_icmp .eq 14, 3) := by decide +kernel
theorem dX3_wonBy_70 : decode cX3_wonBy 70 = .ok (.iload_n 1, 1) := by decide +kernel
theorem dX3_wonBy_71 : decode cX3_wonBy 71 = .ok (.iload 4, 2) := by decide +kernel
theorem dX3_wonBy_73 : decode cX3_wonBy 73 = .ok (.iconst 1, 1) := by decide +kernel
theorem dX3_wonBy_74 : decode cX3_wonBy 74 = .ok (.iadd, 1) := by decide +kernel
theorem dX3_wonBy_75 : decode cX3_wonBy 75 = .ok (.invokestatic 120, 3) := by decide +kernel
theorem dX3_wonBy_78 : decode cX3_wonBy 78 = .ok (.ifCond .eq 17, 3) := by decide +kernel
theorem dX3_wonBy_81 : decode cX3_wonBy 81 = .ok (.iload_n 2, 1) := by decide +kernel
theorem dX3_wonBy_82 : decode cX3_wonBy 82 = .ok (.iload_n 3, 1) := by decide +kernel
theorem dX3_wonBy_83 : decode cX3_wonBy 83 = .ok (.ifCond .le 7, 3) := by decide +kernel
theorem dX3_wonBy_86 : decode cX3_wonBy 86 = .ok (.iconst 1, 1) := by decide +kernel
theorem dX3_wonBy_87 : decode cX3_wonBy 87 = .ok (.goto 4, 3) := by decide +kernel
theorem dX3_wonBy_90 : decode cX3_wonBy 90 = .ok (.iconst 0, 1) := by decide +kernel
theorem dX3_wonBy_91 : decode cX3_wonBy 91 = .ok (.iadd, 1) := by decide +kernel
theorem dX3_wonBy_92 : decode cX3_wonBy 92 = .ok (.istore_n 2, 1) := by decide +kernel
theorem dX3_wonBy_93 : decode cX3_wonBy 93 = .ok (.iconst 0, 1) := by decide +kernel
theorem dX3_wonBy_94 : decode cX3_wonBy 94 = .ok (.istore_n 3, 1) := by decide +kernel
theorem dX3_wonBy_95 : decode cX3_wonBy 95 = .ok (.iinc 4 1, 3) := by decide +kernel
theorem dX3_wonBy_98 : decode cX3_wonBy 98 = .ok (.goto (-91), 3) := by decide +kernel
theorem dX3_wonBy_101 : decode cX3_wonBy 101 = .ok (.iload_n 2, 1) := by decide +kernel
theorem dX3_wonBy_102 : decode cX3_wonBy 102 = .ok (.ireturn, 1) := by decide +kernel
set_option maxRecDepth 20000 in
theorem ggX3_beginOf_X3_isIn : GoodIn wsX3_beginOf wsX3_isIn := goodIn_r _ [4] (by decide +kernel) (by decide +kernel)
set_option maxRecDepth 20000 in
theorem gX3_beginOf_X3_isIn : GoodIn wsX3_beginOf (va_wsS RX3 120 yX3_isIn wsX3_isIn) := goodIn_app (goodIn_of _ (by decide +kernel)) ggX3_beginOf_X3_isIn
theorem dX3_beginOf_0 : decode cX3_beginOf 0 = .ok (.iload_n 1, 1) := by decide +kernel
theorem dX3_beginOf_1 : decode cX3_beginOf 1 = .ok (.istore_n 2, 1) := by decide +kernel
theorem dX3_beginOf_2 : decode cX3_beginOf 2 = .ok (.iconst 0, 1) := by decide +kernel
theorem dX3_beginOf_3 : decode cX3_beginOf 3 = .ok (.istore_n 3, 1) := by decide +kernel
theorem dX3_beginOf_4 : decode cX3_beginOf 4 = .ok (.iload_n 2, 1) := by decide +kernel
theorem dX3_beginOf_5 : decode cX3_beginOf 5 = .ok (.ifCond .le 25, 3) := by decide +kernel
theorem dX3_beginOf_8 : decode cX3_beginOf 8 = .ok (.iinc 3 1, 3) := by decide +kernel
theorem dX3_beginOf_11 : decode cX3_beginOf 11 = .ok (.iload_n 2, 1) := by decide +kernel
theorem dX3_beginOf_12 : decode cX3_beginOf 12 = .ok (.iload_n 0, 1) := by decide +kernel
theorem dX3_beginOf_13 : decode cX3_beginOf 13 = .ok (.iload_n 3, 1) := by decide +kernel
theorem dX3_beginOf_14 : decode cX3_beginOf 14 = .ok (.invokestatic 120, 3) := by decide +kernel
theorem dX3_beginOf_17 : decode cX3_beginOf 17 = .ok (.ifCond .eq 7, 3) := by decide +kernel
theorem dX3_beginOf_20 : decode cX3_beginOf 20 = .ok (.iconst 1, 1) := by decide +kernel
theorem dX3_beginOf_21 : decode cX3_beginOf 21 = .ok (.goto 4, 3) := by decide +kernel
theorem dX3_beginOf_24 : decode cX3_beginOf 24 = .ok (.iconst 0, 1) := by decide +kernel
theorem dX3_beginOf_25 : decode cX3_beginOf 25 = .ok (.isub, 1) := by decide +kernel
theorem dX3_beginOf_26 : decode cX3_beginOf 26 = .ok (.istore_n 2, 1) := by decide +kernel
theorem dX3_beginOf_27 : decode cX3_beginOf 27 = .ok (.goto (-23), 3) := by decide +kernel
theorem dX3_beginOf_30 : decode cX3_beginOf 30 = .ok (.iload_n 3, 1) := by decide +kernel
theorem dX3_beginOf_31 : decode cX3_beginOf 31 = .ok (.ireturn, 1) := by decide +kernel
theorem dX3_isAhead_0 : decode cX3_isAhead 0 = .ok (.iload_n 0, 1) := by decide +kernel
theorem dX3_isAhead_1 : decode cX3_isAhead 1 = .ok (.iload_n 1, 1) := by decide +kernel
theorem dX3_isAhead_2 : decode cX3_isAhead 2 = .ok (.ixor, 1) := by decide +kernel
theorem dX3_isAhead_3 : decode cX3_isAhead 3 = .ok (.istore_n 2, 1) := by decide +kernel
theorem dX3_isAhead_4 : decode cX3_isAhead 4 = .ok (.iload_n 2, 1) := by decide +kernel
theorem dX3_isAhead_5 : decode cX3_isAhead 5 = .ok (.iload_n 2, 1) := by decide +kernel
theorem dX3_isAhead_6 : decode cX3_isAhead 6 = .ok (.ineg, 1) := by decide +kernel
theorem dX3_isAhead_7 : decode cX3_isAhead 7 = .ok (.iand, 1) := by decide +kernel
theorem dX3_isAhead_8 : decode cX3_isAhead 8 = .ok (.iload_n 0, 1) := by decide +kernel
theorem dX3_isAhead_9 : decode cX3_isAhead 9 = .ok (.iand, 1) := by decide +kernel
theorem dX3_isAhead_10 : decode cX3_isAhead 10 = .ok (.ifCond .eq 7, 3) := by decide +kernel
theorem dX3_isAhead_13 : decode cX3_isAhead 13 = .ok (.iconst 1, 1) := by decide +kernel
theorem dX3_isAhead_14 : decode cX3_isAhead 14 = .ok (.goto 4, 3) := by decide +kernel
theorem dX3_isAhead_17 : decode cX3_isAhead 17 = .ok (.iconst 0, 1) := by decide +kernel
theorem dX3_isAhead_18 : decode cX3_isAhead 18 = .ok (.ireturn, 1) := by decide +kernel
set_option maxRecDepth 20000 in
theorem ggX3_wards_X3_in : GoodIn wsX3_wards wsX3_in := goodIn_r _ [8] (by decide +kernel) (by decide +kernel)
set_option maxRecDepth 20000 in
theorem gX3_wards_X3_in : GoodIn wsX3_wards (va_wsS RX3 68 yX3_in wsX3_in) := goodIn_app (goodIn_of _ (by decide +kernel)) ggX3_wards_X3_in
set_option maxRecDepth 20000 in
theorem ggX3_wards_X3_everyChair : GoodIn wsX3_wards wsX3_everyChair := goodIn_r _ [12, 1, 50, 51, 52, 53, 54, 55, 56, 57, 58, 59, 60, 61, 62, 63, 64, 65, 66, 67, 68, 69, 70, 71, 72] (by decide +kernel) (by decide +kernel)
set_option maxRecDepth 20000 in
theorem gX3_wards_X3_everyChair : GoodIn wsX3_wards (wsV RX3 160 RX3 yX3_everyChair wsX3_everyChair) := goodIn_app (goodIn_of _ (by decide +kernel)) ggX3_wards_X3_everyChair
set_option maxRecDepth 20000 in
theorem ggX3_wards_X3_bits : GoodIn wsX3_wards wsX3_bits := goodIn_r _ [15] (by decide +kernel) (by decide +kernel)
set_option maxRecDepth 20000 in
theorem gX3_wards_X3_bits : GoodIn wsX3_wards (va_wsS RX3 157 yX3_bits wsX3_bits) := goodIn_app (goodIn_of _ (by decide +kernel)) ggX3_wards_X3_bits
set_option maxRecDepth 20000 in
theorem ggX3_wards_X3_wonBy : GoodIn wsX3_wards wsX3_wonBy := goodIn_r _ [19, 1, 20, 21, 22, 7, 23, 24, 25, 26, 27, 28, 29, 30, 31, 32, 33, 34, 35, 36, 37, 38, 39, 40, 41, 42, 43, 50, 51, 52, 53, 54, 55, 56, 57, 58, 59, 60, 61, 62, 63, 64, 65, 66, 67, 68, 69, 70, 71, 72] (by decide +kernel) (by decide +kernel)
set_option maxRecDepth 20000 in
theorem gX3_wards_X3_wonBy : GoodIn wsX3_wards (wsV RX3 201 RX3 yX3_wonBy wsX3_wonBy) := goodIn_app (goodIn_of _ (by decide +kernel)) ggX3_wards_X3_wonBy
set_option maxRecDepth 20000 in
theorem ggX3_wards_X3_isAhead : GoodIn wsX3_wards wsX3_isAhead := goodIn_r _ [46] (by decide +kernel) (by decide +kernel)
set_option maxRecDepth 20000 in
theorem gX3_wards_X3_isAhead : GoodIn wsX3_wards (va_wsS RX3 204 yX3_isAhead wsX3_isAhead) := goodIn_app (goodIn_of _ (by decide +kernel)) ggX3_wards_X3_isAhead
set_option maxRecDepth 20000 in
theorem ggX3_wards_X3_beginOf : GoodIn wsX3_wards wsX3_beginOf := goodIn_r _ [49, 27, 28, 7, 29] (by decide +kernel) (by decide +kernel)
set_option maxRecDepth 20000 in
theorem gX3_wards_X3_beginOf : GoodIn wsX3_wards (va_wsS RX3 207 yX3_beginOf wsX3_beginOf) := goodIn_app (goodIn_of _ (by decide +kernel)) ggX3_wards_X3_beginOf
theorem dX3_wards_0 : decode cX3_wards 0 = .ok (.aload_n 0, 1) := by decide +kernel
theorem dX3_wards_1 : decode cX3_wards 1 = .ok (.getfield 65, 3) := by decide +kernel
theorem dX3_wards_4 : decode cX3_wards 4 = .ok (.ifCond .ne 6, 3) := by decide +kernel
theorem dX3_wards_7 : decode cX3_wards 7 = .ok (.bipush (-3), 2) := by decide +kernel
theorem dX3_wards_9 : decode cX3_wards 9 = .ok (.ireturn, 1) := by decide +kernel
theorem dX3_wards_10 : decode cX3_wards 10 = .ok (.iload_n 1, 1) := by decide +kernel
theorem dX3_wards_11 : decode cX3_wards 11 = .ok (.i2l, 1) := by decide +kernel
theorem dX3_wards_12 : decode cX3_wards 12 = .ok (.lconst 1, 1) := by decide +kernel
theorem dX3_wards_13 : decode cX3_wards 13 = .ok (.ldc2_w 197, 3) := by decide +kernel
theorem dX3_wards_16 : decode cX3_wards 16 = .ok (.invokestatic 68, 3) := by decide +kernel
theorem dX3_wards_19 : decode cX3_wards 19 = .ok (.ifCond .eq 17, 3) := by decide +kernel
theorem dX3_wards_22 : decode cX3_wards 22 = .ok (.iload_n 2, 1) := by decide +kernel
theorem dX3_wards_23 : decode cX3_wards 23 = .ok (.i2l, 1) := by decide +kernel
theorem dX3_wards_24 : decode cX3_wards 24 = .ok (.ldc2_w 199, 3) := by decide +kernel
theorem dX3_wards_27 : decode cX3_wards 27 = .ok (.ldc2_w 169, 3) := by decide +kernel
theorem dX3_wards_30 : decode cX3_wards 30 = .ok (.invokestatic 68, 3) := by decide +kernel
theorem dX3_wards_33 : decode cX3_wards 33 = .ok (.ifCond .ne 6, 3) := by decide +kernel
theorem dX3_wards_36 : decode cX3_wards 36 = .ok (.bipush (-2), 2) := by decide +kernel
theorem dX3_wards_38 : decode cX3_wards 38 = .ok (.ireturn, 1) := by decide +kernel
theorem dX3_wards_39 : decode cX3_wards 39 = .ok (.bipush (-9), 2) := by decide +kernel
theorem dX3_wards_41 : decode cX3_wards 41 = .ok (.istore_n 3, 1) := by decide +kernel
theorem dX3_wards_42 : decode cX3_wards 42 = .ok (.bipush (-9), 2) := by decide +kernel
theorem dX3_wards_44 : decode cX3_wards 44 = .ok (.istore 4, 2) := by decide +kernel
theorem dX3_wards_46 : decode cX3_wards 46 = .ok (.iconst 0, 1) := by decide +kernel
theorem dX3_wards_47 : decode cX3_wards 47 = .ok (.istore 5, 2) := by decide +kernel
theorem dX3_wards_49 : decode cX3_wards 49 = .ok (.iload 5, 2) := by decide +kernel
theorem dX3_wards_51 : decode cX3_wards 51 = .ok (.aload_n 0, 1) := by decide +kernel
theorem dX3_wards_52 : decode cX3_wards 52 = .ok (.invokevirtual 160, 3) := by decide +kernel
theorem dX3_wards_55 : decode cX3_wards 55 = .ok (.if_icmp .gt 94, 3) := by decide +kernel
theorem dX3_wards_58 : decode cX3_wards 58 = .ok (.iload 5, 2) := by decide +kernel
theorem dX3_wards_60 : decode cX3_wards 60 = .ok (.invokestatic 157, 3) := by decide +kernel
theorem dX3_wards_63 : decode cX3_wards 63 = .ok (.iload_n 1, 1) := by decide +kernel
theorem dX3_wards_64 : decode cX3_wards 64 = .ok (.iconst 1, 1) := by decide +kernel
theorem dX3_wards_65 : decode cX3_wards 65 = .ok (.isub, 1) := by decide +kernel
theorem dX3_wards_66 : decode cX3_wards 66 = .ok (.if_icmp .ne 12, 3) := by decide +kernel
theorem dX3_wards_69 : decode cX3_wards 69 = .ok (.aload_n 0, 1) := by decide +kernel
theorem dX3_wards_70 : decode cX3_wards 70 = .ok (.iload 5, 2) := by decide +kernel
theorem dX3_wards_72 : decode cX3_wards 72 = .ok (.invokevirtual 201, 3) := by decide +kernel
theorem dX3_wards_75 : decode cX3_wards 75 = .ok (.goto 5, 3) := by decide +kernel
theorem dX3_wards_78 : decode cX3_wards 78 = .ok (.bipush (-9), 2) := by decide +kernel
theorem dX3_wards_80 : decode cX3_wards 80 = .ok (.istore 6, 2) := by decide +kernel
theorem dX3_wards_82 : decode cX3_wards 82 = .ok (.iload 6, 2) := by decide +kernel
theorem dX3_wards_84 : decode cX3_wards 84 = .ok (.iload 4, 2) := by decide +kernel
theorem dX3_wards_86 : decode cX3_wards 86 = .ok (.if_icmp .gt 24, 3) := by decide +kernel
theorem dX3_wards_89 : decode cX3_wards 89 = .ok (.iload 6, 2) := by decide +kernel
theorem dX3_wards_91 : decode cX3_wards 91 = .ok (.iload 4, 2) := by decide +kernel
theorem dX3_wards_93 : decode cX3_wards 93 = .ok (.if_icmp .ne 21, 3) := by decide +kernel
theorem dX3_wards_96 : decode cX3_wards 96 = .ok (.iload 6, 2) := by decide +kernel
theorem dX3_wards_98 : decode cX3_wards 98 = .ok (.ifCond .lt 16, 3) := by decide +kernel
theorem dX3_wards_101 : decode cX3_wards 101 = .ok (.iload 5, 2) := by decide +kernel
theorem dX3_wards_103 : decode cX3_wards 103 = .ok (.iload_n 3, 1) := by decide +kernel
theorem dX3_wards_104 : decode cX3_wards 104 = .ok (.invokestatic 204, 3) := by decide +kernel
theorem dX3_wards_107 : decode cX3_wards 107 = .ok (.ifCond .eq 7, 3) := by decide +kernel
theorem dX3_wards_110 : decode cX3_wards 110 = .ok (.iconst 1, 1) := by decide +kernel
theorem dX3_wards_111 : decode cX3_wards 111 = .ok (.goto 4, 3) := by decide +kernel
theorem dX3_wards_114 : decode cX3_wards 114 = .ok (.iconst 0, 1) := by decide +kernel
theorem dX3_wards_115 : decode cX3_wards 115 = .ok (.istore 7, 2) := by decide +kernel
theorem dX3_wards_117 : decode cX3_wards 117 = .ok (.iload 7, 2) := by decide +kernel
theorem dX3_wards_119 : decode cX3_wards 119 = .ok (.ifCond .eq 8, 3) := by decide +kernel
theorem dX3_wards_122 : decode cX3_wards 122 = .ok (.iload 5, 2) := by decide +kernel
theorem dX3_wards_124 : decode cX3_wards 124 = .ok (.goto 4, 3) := by decide +kernel
theorem dX3_wards_127 : decode cX3_wards 127 = .ok (.iload_n 3, 1) := by decide +kernel
theorem dX3_wards_128 : decode cX3_wards 128 = .ok (.istore_n 3, 1) := by decide +kernel
theorem dX3_wards_129 : decode cX3_wards 129 = .ok (.iload 7, 2) := by decide +kernel
theorem dX3_wards_131 : decode cX3_wards 131 = .ok (.ifCond .eq 8, 3) := by decide +kernel
theorem dX3_wards_134 : decode cX3_wards 134 = .ok (.iload 6, 2) := by decide +kernel
theorem dX3_wards_136 : decode cX3_wards 136 = .ok (.goto 5, 3) := by decide +kernel
theorem dX3_wards_139 : decode cX3_wards 139 = .ok (.iload 4, 2) := by decide +kernel
theorem dX3_wards_141 : decode cX3_wards 141 = .ok (.istore 4, 2) := by decide +kernel
theorem dX3_wards_143 : decode cX3_wards 143 = .ok (.iinc 5 2, 3) := by decide +kernel
theorem dX3_wards_146 : decode cX3_wards 146 = .ok (.goto (-97), 3) := by decide +kernel
theorem dX3_wards_149 : decode cX3_wards 149 = .ok (.iload_n 3, 1) := by decide +kernel
theorem dX3_wards_150 : decode cX3_wards 150 = .ok (.ifCond .lt 8, 3) := by decide +kernel
theorem dX3_wards_153 : decode cX3_wards 153 = .ok (.iload_n 2, 1) := by decide +kernel
theorem dX3_wards_154 : decode cX3_wards 154 = .ok (.iload_n 1, 1) := by decide +kernel
theorem dX3_wards_155 : decode cX3_wards 155 = .ok (.if_icmp .lt 8, 3) := by decide +kernel
theorem dX3_wards_158 : decode cX3_wards 158 = .ok (.bipush (-9), 2) := by decide +kernel
theorem dX3_wards_160 : decode cX3_wards 160 = .ok (.goto 17, 3) := by decide +kernel
theorem dX3_wards_163 : decode cX3_wards 163 = .ok (.iload_n 2, 1) := by decide +kernel
theorem dX3_wards_164 : decode cX3_wards 164 = .ok (.ifCond .ge 8, 3) := by decide +kernel
theorem dX3_wards_167 : decode cX3_wards 167 = .ok (.iload 4, 2) := by decide +kernel
theorem dX3_wards_169 : decode cX3_wards 169 = .ok (.goto 8, 3) := by decide +kernel
theorem dX3_wards_172 : decode cX3_wards 172 = .ok (.iload_n 3, 1) := by decide +kernel
theorem dX3_wards_173 : decode cX3_wards 173 = .ok (.iload_n 2, 1) := by decide +kernel
theorem dX3_wards_174 : decode cX3_wards 174 = .ok (.invokestatic 207, 3) := by decide +kernel
theorem dX3_wards_177 : decode cX3_wards 177 = .ok (.ireturn, 1) := by decide +kernel
set_option maxRecDepth 20000 in
theorem ggX3_votesBy_X3_isIn : GoodIn wsX3_votesBy wsX3_isIn := goodIn_r _ [6] (by decide +kernel) (by decide +kernel)
set_option maxRecDepth 20000 in
theorem gX3_votesBy_X3_isIn : GoodIn wsX3_votesBy (va_wsS RX3 120 yX3_isIn wsX3_isIn) := goodIn_app (goodIn_of _ (by decide +kernel)) ggX3_votesBy_X3_isIn
set_option maxRecDepth 20000 in
theorem ggX3_votesBy_X3_votesOf : GoodIn wsX3_votesBy wsX3_votesOf := goodIn_r _ [10, 11, 3, 4, 5, 6, 12, 13, 14, 15, 16, 17, 18, 19, 20, 21, 22, 23, 24, 25, 26, 27, 28, 29, 30, 31, 32, 33, 34, 35, 36, 37, 38, 39, 40] (by decide +kernel) (by decide +kernel)
set_option maxRecDepth 20000 in
theorem gX3_votesBy_X3_votesOf : GoodIn wsX3_votesBy (wsV RX3 132 RX3 yX3_votesOf wsX3_votesOf) := goodIn_app (goodIn_of _ (by decide +kernel)) ggX3_votesBy_X3_votesOf
theorem dX3_votesBy_0 : decode cX3_votesBy 0 = .ok (.iconst 0, 1) := by decide +kernel
theorem dX3_votesBy_1 : decode cX3_votesBy 1 = .ok (.istore_n 2, 1) := by decide +kernel
theorem dX3_votesBy_2 : decode cX3_votesBy 2 = .ok (.iconst 0, 1) := by decide +kernel
theorem dX3_votesBy_3 : decode cX3_votesBy 3 = .ok (.istore_n 3, 1) := by decide +kernel
theorem dX3_votesBy_4 : decode cX3_votesBy 4 = .ok (.iload_n 3, 1) := by decide +kernel
theorem dX3_votesBy_5 : decode cX3_votesBy 5 = .ok (.aload_n 0, 1) := by decide +kernel
theorem dX3_votesBy_6 : decode cX3_votesBy 6 = .ok (.getfield 65, 3) := by decide +kernel
theorem dX3_votesBy_9 : decode cX3_votesBy 9 = .ok (.if_icmp .ge 34, 3) := by decide +kernel
theorem dX3_votesBy_12 : decode cX3_votesBy 12 = .ok (.iload_n 2, 1) := by decide +kernel
theorem dX3_votesBy_13 : decode cX3_votesBy 13 = .ok (.iload_n 1, 1) := by decide +kernel
theorem dX3_votesBy_14 : decode cX3_votesBy 14 = .ok (.aload_n 0, 1) := by decide +kernel
theorem dX3_votesBy_15 : decode cX3_votesBy 15 = .ok (.getfield 13, 3) := by decide +kernel
theorem dX3_votesBy_18 : decode cX3_votesBy 18 = .ok (.iload_n 3, 1) := by decide +kernel
theorem dX3_votesBy_19 : decode cX3_votesBy 19 = .ok (.iaload, 1) := by decide +kernel
theorem dX3_votesBy_20 : decode cX3_votesBy 20 = .ok (.invokestatic 120, 3) := by decide +kernel
theorem dX3_votesBy_23 : decode cX3_votesBy 23 = .ok (.ifCond .eq 11, 3) := by decide +kernel
theorem dX3_votesBy_26 : decode cX3_votesBy 26 = .ok (.aload_n 0, 1) := by decide +kernel
theorem dX3_votesBy_27 : decode cX3_votesBy 27 = .ok (.iload_n 3, 1) := by decide +kernel
theorem dX3_votesBy_28 : decode cX3_votesBy 28 = .ok (.invokevirtual 132, 3) := by decide +kernel
theorem dX3_votesBy_31 : decode cX3_votesBy 31 = .ok (.goto 4, 3) := by decide +kernel
theorem dX3_votesBy_34 : decode cX3_votesBy 34 = .ok (.iconst 0, 1) := by decide +kernel
theorem dX3_votesBy_35 : decode cX3_votesBy 35 = .ok (.iadd, 1) := by decide +kernel
theorem dX3_votesBy_36 : decode cX3_votesBy 36 = .ok (.istore_n 2, 1) := by decide +kernel
theorem dX3_votesBy_37 : decode cX3_votesBy 37 = .ok (.iinc 3 1, 3) := by decide +kernel
theorem dX3_votesBy_40 : decode cX3_votesBy 40 = .ok (.goto (-36), 3) := by decide +kernel
theorem dX3_votesBy_43 : decode cX3_votesBy 43 = .ok (.iload_n 2, 1) := by decide +kernel
theorem dX3_votesBy_44 : decode cX3_votesBy 44 = .ok (.ireturn, 1) := by decide +kernel
set_option maxRecDepth 20000 in
theorem ggX3_power_X3_in : GoodIn wsX3_power wsX3_in := goodIn_r _ [7] (by decide +kernel) (by decide +kernel)
set_option maxRecDepth 20000 in
theorem gX3_power_X3_in : GoodIn wsX3_power (va_wsS RX3 68 yX3_in wsX3_in) := goodIn_app (goodIn_of _ (by decide +kernel)) ggX3_power_X3_in
set_option maxRecDepth 20000 in
theorem ggX3_power_X3_lost : GoodIn wsX3_power wsX3_lost := goodIn_r _ [10, 11] (by decide +kernel) (by decide +kernel)
set_option maxRecDepth 20000 in
theorem gX3_power_X3_lost : GoodIn wsX3_power (va_wsS RX3 61 yX3_lost wsX3_lost) := goodIn_app (goodIn_of _ (by decide +kernel)) ggX3_power_X3_lost
set_option maxRecDepth 20000 in
theorem ggX3_power_X3_votesBy : GoodIn wsX3_power wsX3_votesBy := goodIn_r _ [15, 2, 16, 17, 18, 6, 19, 20, 21, 22, 23, 24, 25, 26, 27, 28, 29, 30, 34, 35, 36, 37, 38, 39, 40, 41, 42, 43, 44, 45, 46, 47, 48, 49, 50, 51, 52, 53, 54, 55, 56] (by decide +kernel) (by decide +kernel)
set_option maxRecDepth 20000 in
theorem gX3_power_X3_votesBy : GoodIn wsX3_power (wsV RX3 210 RX3 yX3_votesBy wsX3_votesBy) := goodIn_app (goodIn_of _ (by decide +kernel)) ggX3_power_X3_votesBy
set_option maxRecDepth 20000 in
theorem ggX3_power_X3_isIn : GoodIn wsX3_power wsX3_isIn := goodIn_r _ [19] (by decide +kernel) (by decide +kernel)
set_option maxRecDepth 20000 in
theorem gX3_power_X3_isIn : GoodIn wsX3_power (va_wsS RX3 120 yX3_isIn wsX3_isIn) := goodIn_app (goodIn_of _ (by decide +kernel)) ggX3_power_X3_isIn
set_option maxRecDepth 20000 in
theorem ggX3_power_X3_share : GoodIn wsX3_power wsX3_share := goodIn_r _ [33] (by decide +kernel) (by decide +kernel)
set_option maxRecDepth 20000 in
theorem gX3_power_X3_share : GoodIn wsX3_power (va_wsS RX3 213 yX3_share wsX3_share) := goodIn_app (goodIn_of _ (by decide +kernel)) ggX3_power_X3_share
theorem dX3_power_0 : decode cX3_power 0 = .ok (.iload_n 1, 1) := by decide +kernel
theorem dX3_power_1 : decode cX3_power 1 = .ok (.i2l, 1) := by decide +kernel
theorem dX3_power_2 : decode cX3_power 2 = .ok (.lconst 0, 1) := by decide +kernel
theorem dX3_power_3 : decode cX3_power 3 = .ok (.ldc2_w 138, 3) := by decide +kernel
theorem dX3_power_6 : decode cX3_power 6 = .ok (.invokestatic 68, 3) := by decide +kernel
theorem dX3_power_9 : decode cX3_power 9 = .ok (.ifCond .eq 20, 3) := by decide +kernel
theorem dX3_power_12 : decode cX3_power 12 = .ok (.iload_n 2, 1) := by decide +kernel
theorem dX3_power_13 : decode cX3_power 13 = .ok (.i2l, 1) := by decide +kernel
theorem dX3_power_14 : decode cX3_power 14 = .ok (.lconst 0, 1) := by decide +kernel
theorem dX3_power_15 : decode cX3_power 15 = .ok (.lconst 1, 1) := by decide +kernel
theorem dX3_power_16 : decode cX3_power 16 = .ok (.invokestatic 68, 3) := by decide +kernel
theorem dX3_power_19 : decode cX3_power 19 = .ok (.ifCond .eq 10, 3) := by decide +kernel
theorem dX3_power_22 : decode cX3_power 22 = .ok (.aload_n 0, 1) := by decide +kernel
theorem dX3_power_23 : decode cX3_power 23 = .ok (.getfield 65, 3) := by decide +kernel
theorem dX3_power_26 : decode cX3_power 26 = .ok (.ifCond .ne 7, 3) := by decide +kernel
theorem dX3_power_29 : decode cX3_power 29 = .ok (.invokestatic 61, 3) := by decide +kernel
theorem dX3_power_32 : decode cX3_power 32 = .ok (.lreturn, 1) := by decide +kernel
theorem dX3_power_33 : decode cX3_power 33 = .ok (.aload_n 0, 1) := by decide +kernel
theorem dX3_power_34 : decode cX3_power 34 = .ok (.bipush 15, 2) := by decide +kernel
theorem dX3_power_36 : decode cX3_power 36 = .ok (.invokevirtual 210, 3) := by decide +kernel
theorem dX3_power_39 : decode cX3_power 39 = .ok (.istore_n 3, 1) := by decide +kernel
theorem dX3_power_40 : decode cX3_power 40 = .ok (.lconst 0, 1) := by decide +kernel
theorem dX3_power_41 : decode cX3_power 41 = .ok (.lstore 4, 2) := by decide +kernel
theorem dX3_power_43 : decode cX3_power 43 = .ok (.iconst 0, 1) := by decide +kernel
theorem dX3_power_44 : decode cX3_power 44 = .ok (.istore 6, 2) := by decide +kernel
theorem dX3_power_46 : decode cX3_power 46 = .ok (.iload 6, 2) := by decide +kernel
theorem dX3_power_48 : decode cX3_power 48 = .ok (.bipush 16, 2) := by decide +kernel
theorem dX3_power_50 : decode cX3_power 50 = .ok (.if_icmp .ge 68, 3) := by decide +kernel
theorem dX3_power_53 : decode cX3_power 53 = .ok (.iload 6, 2) := by decide +kernel
theorem dX3_power_55 : decode cX3_power 55 = .ok (.iload_n 1, 1) := by decide +kernel
theorem dX3_power_56 : decode cX3_power 56 = .ok (.invokestatic 120, 3) := by decide +kernel
theorem dX3_power_59 : decode cX3_power 59 = .ok (.ifCond .ne 7, 3) := by decide +kernel
theorem dX3_power_62 : decode cX3_power 62 = .ok (.iconst 1, 1) := by decide +kernel
theorem dX3_power_63 : decode cX3_power 63 = .ok (.goto 4, 3) := by decide +kernel
theorem dX3_power_66 : decode cX3_power 66 = .ok (.iconst 0, 1) := by decide +kernel
theorem dX3_power_67 : decode cX3_power 67 = .ok (.istore 7, 2) := by decide +kernel
theorem dX3_power_69 : decode cX3_power 69 = .ok (.lload 4, 2) := by decide +kernel
theorem dX3_power_71 : decode cX3_power 71 = .ok (.iload 7, 2) := by decide +kernel
theorem dX3_power_73 : decode cX3_power 73 = .ok (.ifCond .eq 35, 3) := by decide +kernel
theorem dX3_power_76 : decode cX3_power 76 = .ok (.iconst 2, 1) := by decide +kernel
theorem dX3_power_77 : decode cX3_power 77 = .ok (.aload_n 0, 1) := by decide +kernel
theorem dX3_power_78 : decode cX3_power 78 = .ok (.iload 6, 2) := by decide +kernel
theorem dX3_power_80 : decode cX3_power 80 = .ok (.invokevirtual 210, 3) := by decide +kernel
theorem dX3_power_83 : decode cX3_power 83 = .ok (.imul, 1) := by decide +kernel
theorem dX3_power_84 : decode cX3_power 84 = .ok (.iload_n 3, 1) := by decide +kernel
theorem dX3_power_85 : decode cX3_power 85 = .ok (.if_icmp .gt 23, 3) := by decide +kernel
theorem dX3_power_88 : decode cX3_power 88 = .ok (.iconst 2, 1) := by decide +kernel
theorem dX3_power_89 : decode cX3_power 89 = .ok (.aload_n 0, 1) := by decide +kernel
theorem dX3_power_90 : decode cX3_power 90 = .ok (.iload 6, 2) := by decide +kernel
theorem dX3_power_92 : decode cX3_power 92 = .ok (.iconst 1, 1) := by decide +kernel
theorem dX3_power_93 : decode cX3_power 93 = .ok (.iload_n 1, 1) := by decide +kernel
theorem dX3_power_94 : decode cX3_power 94 = .ok (.ishl, 1) := by decide +kernel
theorem dX3_power_95 : decode cX3_power 95 = .ok (.ior, 1) := by decide +kernel
theorem dX3_power_96 : decode cX3_power 96 = .ok (.invokevirtual 210, 3) := by decide +kernel
theorem dX3_power_99 : decode cX3_power 99 = .ok (.imul, 1) := by decide +kernel
theorem dX3_power_100 : decode cX3_power 100 = .ok (.iload_n 3, 1) := by decide +kernel
theorem dX3_power_101 : decode cX3_power 101 = .ok (.if_icmp .le 7, 3) := by decide +kernel
theorem dX3_power_104 : decode cX3_power 104 = .ok (.lconst 1, 1) := by decide +kernel
theorem dX3_power_105 : decode cX3_power 105 = .ok (.goto 4, 3) := by decide +kernel
theorem dX3_power_108 : decode cX3_power 108 = .ok (.lconst 0, 1) := by decide +kernel
theorem dX3_power_109 : decode cX3_power 109 = .ok (.ladd, 1) := by decide +kernel
theorem dX3_power_110 : decode cX3_power 110 = .ok (.lstore 4, 2) := by decide +kernel
theorem dX3_power_112 : decode cX3_power 112 = .ok (.iinc 6 1, 3) := by decide +kernel
theorem dX3_power_115 : decode cX3_power 115 = .ok (.goto (-69), 3) := by decide +kernel
theorem dX3_power_118 : decode cX3_power 118 = .ok (.lload 4, 2) := by decide +kernel
theorem dX3_power_120 : decode cX3_power 120 = .ok (.ldc2_w 197, 3) := by decide +kernel
theorem dX3_power_123 : decode cX3_power 123 = .ok (.iload_n 2, 1) := by decide +kernel
theorem dX3_power_124 : decode cX3_power 124 = .ok (.invokestatic 213, 3) := by decide +kernel
theorem dX3_power_127 : decode cX3_power 127 = .ok (.lreturn, 1) := by decide +kernel
set_option maxRecDepth 20000 in
theorem ggX3_reading_X3_noChair : GoodIn wsX3_reading wsX3_noChair := goodIn_r _ [9, 10, 11, 12, 8, 13, 14, 15, 16, 17, 18, 19, 20, 21, 22, 23, 24, 25, 26, 27, 28, 29, 30, 31, 32, 33, 34, 35, 36] (by decide +kernel) (by decide +kernel)
set_option maxRecDepth 20000 in
theorem gX3_reading_X3_noChair : GoodIn wsX3_reading (wsV RX3 129 RX3 yX3_noChair wsX3_noChair) := goodIn_app (goodIn_of _ (by decide +kernel)) ggX3_reading_X3_noChair
set_option maxRecDepth 20000 in
theorem ggX3_reading_X3_in : GoodIn wsX3_reading wsX3_in := goodIn_r _ [13] (by decide +kernel) (by decide +kernel)
set_option maxRecDepth 20000 in
theorem gX3_reading_X3_in : GoodIn wsX3_reading (va_wsS RX3 68 yX3_in wsX3_in) := goodIn_app (goodIn_of _ (by decide +kernel)) ggX3_reading_X3_in
theorem dX3_reading_0 : decode cX3_reading 0 = .ok (.aload_n 0, 1) := by decide +kernel
theorem dX3_reading_1 : decode cX3_reading 1 = .ok (.iload_n 1, 1) := by decide +kernel
theorem dX3_reading_2 : decode cX3_reading 2 = .ok (.invokevirtual 129, 3) := by decide +kernel
theorem dX3_reading_5 : decode cX3_reading 5 = .ok (.ifCond .eq 5, 3) := by decide +kernel
theorem dX3_reading_8 : decode cX3_reading 8 = .ok (.iconst (-1), 1) := by decide +kernel
theorem dX3_reading_9 : decode cX3_reading 9 = .ok (.ireturn, 1) := by decide +kernel
theorem dX3_reading_10 : decode cX3_reading 10 = .ok (.iload_n 2, 1) := by decide +kernel
theorem dX3_reading_11 : decode cX3_reading 11 = .ok (.i2l, 1) := by decide +kernel
theorem dX3_reading_12 : decode cX3_reading 12 = .ok (.lconst 0, 1) := by decide +kernel
theorem dX3_reading_13 : decode cX3_reading 13 = .ok (.ldc2_w 152, 3) := by decide +kernel
theorem dX3_reading_16 : decode cX3_reading 16 = .ok (.invokestatic 68, 3) := by decide +kernel
theorem dX3_reading_19 : decode cX3_reading 19 = .ok (.ifCond .ne 6, 3) := by decide +kernel
theorem dX3_reading_22 : decode cX3_reading 22 = .ok (.bipush (-2), 2) := by decide +kernel
theorem dX3_reading_24 : decode cX3_reading 24 = .ok (.ireturn, 1) := by decide +kernel
theorem dX3_reading_25 : decode cX3_reading 25 = .ok (.aload_n 0, 1) := by decide +kernel
theorem dX3_reading_26 : decode cX3_reading 26 = .ok (.getfield 117, 3) := by decide +kernel
theorem dX3_reading_29 : decode cX3_reading 29 = .ok (.bipush 8, 2) := by decide +kernel
theorem dX3_reading_31 : decode cX3_reading 31 = .ok (.if_icmp .ne 6, 3) := by decide +kernel
theorem dX3_reading_34 : decode cX3_reading 34 = .ok (.bipush (-4), 2) := by decide +kernel
theorem dX3_reading_36 : decode cX3_reading 36 = .ok (.ireturn, 1) := by decide +kernel
theorem dX3_reading_37 : decode cX3_reading 37 = .ok (.aload_n 0, 1) := by decide +kernel
theorem dX3_reading_38 : decode cX3_reading 38 = .ok (.getfield 37, 3) := by decide +kernel
theorem dX3_reading_41 : decode cX3_reading 41 = .ok (.aload_n 0, 1) := by decide +kernel
theorem dX3_reading_42 : decode cX3_reading 42 = .ok (.getfield 117, 3) := by decide +kernel
theorem dX3_reading_45 : decode cX3_reading 45 = .ok (.iload_n 1, 1) := by decide +kernel
theorem dX3_reading_46 : decode cX3_reading 46 = .ok (.iastore, 1) := by decide +kernel
theorem dX3_reading_47 : decode cX3_reading 47 = .ok (.aload_n 0, 1) := by decide +kernel
theorem dX3_reading_48 : decode cX3_reading 48 = .ok (.getfield 40, 3) := by decide +kernel
theorem dX3_reading_51 : decode cX3_reading 51 = .ok (.aload_n 0, 1) := by decide +kernel
theorem dX3_reading_52 : decode cX3_reading 52 = .ok (.getfield 117, 3) := by decide +kernel
theorem dX3_reading_55 : decode cX3_reading 55 = .ok (.iload_n 2, 1) := by decide +kernel
theorem dX3_reading_56 : decode cX3_reading 56 = .ok (.iastore, 1) := by decide +kernel
theorem dX3_reading_57 : decode cX3_reading 57 = .ok (.aload_n 0, 1) := by decide +kernel
theorem dX3_reading_58 : decode cX3_reading 58 = .ok (.dup, 1) := by decide +kernel
theorem dX3_reading_59 : decode cX3_reading 59 = .ok (.getfield 117, 3) := by decide +kernel
theorem dX3_reading_62 : decode cX3_reading 62 = .ok (.iconst 1, 1) := by decide +kernel
theorem dX3_reading_63 : decode cX3_reading 63 = .ok (.iadd, 1) := by decide +kernel
theorem dX3_reading_64 : decode cX3_reading 64 = .ok (.putfield 117, 3) := by decide +kernel
theorem dX3_reading_67 : decode cX3_reading 67 = .ok (.aload_n 0, 1) := by decide +kernel
theorem dX3_reading_68 : decode cX3_reading 68 = .ok (.getfield 117, 3) := by decide +kernel
theorem dX3_reading_71 : decode cX3_reading 71 = .ok (.iconst 1, 1) := by decide +kernel
theorem dX3_reading_72 : decode cX3_reading 72 = .ok (.isub, 1) := by decide +kernel
theorem dX3_reading_73 : decode cX3_reading 73 = .ok (.ireturn, 1) := by decide +kernel
set_option maxRecDepth 20000 in
theorem ggX3_back_X3_in : GoodIn wsX3_back wsX3_in := goodIn_r _ [5] (by decide +kernel) (by decide +kernel)
set_option maxRecDepth 20000 in
theorem gX3_back_X3_in : GoodIn wsX3_back (va_wsS RX3 68 yX3_in wsX3_in) := goodIn_app (goodIn_of _ (by decide +kernel)) ggX3_back_X3_in
theorem dX3_back_0 : decode cX3_back 0 = .ok (.iload_n 1, 1) := by decide +kernel
theorem dX3_back_1 : decode cX3_back 1 = .ok (.i2l, 1) := by decide +kernel
theorem dX3_back_2 : decode cX3_back 2 = .ok (.lconst 0, 1) := by decide +kernel
theorem dX3_back_3 : decode cX3_back 3 = .ok (.aload_n 0, 1) := by decide +kernel
theorem dX3_back_4 : decode cX3_back 4 = .ok (.getfield 117, 3) := by decide +kernel
theorem dX3_back_7 : decode cX3_back 7 = .ok (.i2l, 1) := by decide +kernel
theorem dX3_back_8 : decode cX3_back 8 = .ok (.invokestatic 68, 3) := by decide +kernel
theorem dX3_back_11 : decode cX3_back 11 = .ok (.ifCond .ne 6, 3) := by decide +kernel
theorem dX3_back_14 : decode cX3_back 14 = .ok (.bipush (-2), 2) := by decide +kernel
theorem dX3_back_16 : decode cX3_back 16 = .ok (.ireturn, 1) := by decide +kernel
theorem dX3_back_17 : decode cX3_back 17 = .ok (.aload_n 0, 1) := by decide +kernel
theorem dX3_back_18 : decode cX3_back 18 = .ok (.dup, 1) := by decide +kernel
theorem dX3_back_19 : decode cX3_back 19 = .ok (.getfield 117, 3) := by decide +kernel
theorem dX3_back_22 : decode cX3_back 22 = .ok (.iload_n 1, 1) := by decide +kernel
theorem dX3_back_23 : decode cX3_back 23 = .ok (.isub, 1) := by decide +kernel
theorem dX3_back_24 : decode cX3_back 24 = .ok (.putfield 117, 3) := by decide +kernel
theorem dX3_back_27 : decode cX3_back 27 = .ok (.aload_n 0, 1) := by decide +kernel
theorem dX3_back_28 : decode cX3_back 28 = .ok (.getfield 117, 3) := by decide +kernel
theorem dX3_back_31 : decode cX3_back 31 = .ok (.ireturn, 1) := by decide +kernel
set_option maxRecDepth 20000 in
theorem ggX3_areSo_X3_votesOpen : GoodIn wsX3_areSo wsX3_votesOpen := goodIn_r _ [8, 9, 10, 11, 12, 13, 14, 15, 16, 17, 18, 19, 20, 21, 22, 23, 24, 25, 26, 27, 28, 29, 30, 31, 32, 33] (by decide +kernel) (by decide +kernel)
set_option maxRecDepth 20000 in
theorem gX3_areSo_X3_votesOpen : GoodIn wsX3_areSo (wsV RX3 123 RX3 yX3_votesOpen wsX3_votesOpen) := goodIn_app (goodIn_of _ (by decide +kernel)) ggX3_areSo_X3_votesOpen
theorem dX3_areSo_0 : decode cX3_areSo 0 = .ok (.iconst 1, 1) := by decide +kernel
theorem dX3_areSo_1 : decode cX3_areSo 1 = .ok (.istore_n 1, 1) := by decide +kernel
theorem dX3_areSo_2 : decode cX3_areSo 2 = .ok (.iconst 0, 1) := by decide +kernel
theorem dX3_areSo_3 : decode cX3_areSo 3 = .ok (.istore_n 2, 1) := by decide +kernel
theorem dX3_areSo_4 : decode cX3_areSo 4 = .ok (.iload_n 2, 1) := by decide +kernel
theorem dX3_areSo_5 : decode cX3_areSo 5 = .ok (.aload_n 0, 1) := by decide +kernel
theorem dX3_areSo_6 : decode cX3_areSo 6 = .ok (.getfield 117, 3) := by decide +kernel
theorem dX3_areSo_9 : decode cX3_areSo 9 = .ok (.if_icmp .ge 38, 3) := by decide +kernel
theorem dX3_areSo_12 : decode cX3_areSo 12 = .ok (.iload_n 1, 1) := by decide +kernel
theorem dX3_areSo_13 : decode cX3_areSo 13 = .ok (.ifCond .eq 26, 3) := by decide +kernel
theorem dX3_areSo_16 : decode cX3_areSo 16 = .ok (.aload_n 0, 1) := by decide +kernel
theorem dX3_areSo_17 : decode cX3_areSo 17 = .ok (.aload_n 0, 1) := by decide +kernel
theorem dX3_areSo_18 : decode cX3_areSo 18 = .ok (.getfield 37, 3) := by decide +kernel
theorem dX3_areSo_21 : decode cX3_areSo 21 = .ok (.iload_n 2, 1) := by decide +kernel
theorem dX3_areSo_22 : decode cX3_areSo 22 = .ok (.iaload, 1) := by decide +kernel
theorem dX3_areSo_23 : decode cX3_areSo 23 = .ok (.invokevirtual 123, 3) := by decide +kernel
theorem dX3_areSo_26 : decode cX3_areSo 26 = .ok (.aload_n 0, 1) := by decide +kernel
theorem dX3_areSo_27 : decode cX3_areSo 27 = .ok (.getfield 40, 3) := by decide +kernel
theorem dX3_areSo_30 : decode cX3_areSo 30 = .ok (.iload_n 2, 1) := by decide +kernel
theorem dX3_areSo_31 : decode cX3_areSo 31 = .ok (.iaload, 1) := by decide +kernel
theorem dX3_areSo_32 : decode cX3_areSo 32 = .ok (.if_icmp .ne 7, 3) := by decide +kernel
theorem dX3_areSo_35 : decode cX3_areSo 35 = .ok (.iconst 1, 1) := by decide +kernel
theorem dX3_areSo_36 : decode cX3_areSo 36 = .ok (.goto 4, 3) := by decide +kernel
theorem dX3_areSo_39 : decode cX3_areSo 39 = .ok (.iconst 0, 1) := by decide +kernel
theorem dX3_areSo_40 : decode cX3_areSo 40 = .ok (.istore_n 1, 1) := by decide +kernel
theorem dX3_areSo_41 : decode cX3_areSo 41 = .ok (.iinc 2 1, 3) := by decide +kernel
theorem dX3_areSo_44 : decode cX3_areSo 44 = .ok (.goto (-40), 3) := by decide +kernel
theorem dX3_areSo_47 : decode cX3_areSo 47 = .ok (.iload_n 1, 1) := by decide +kernel
theorem dX3_areSo_48 : decode cX3_areSo 48 = .ok (.ireturn, 1) := by decide +kernel
set_option maxRecDepth 20000 in
theorem ggX3_weights_X3_noChair : GoodIn wsX3_weights wsX3_noChair := goodIn_r _ [6, 7, 8, 9, 5, 10, 23, 24, 25, 26, 27, 28, 29, 30, 31, 32, 33, 34, 35, 36, 37, 38, 39, 40, 41, 42, 43, 44, 45] (by decide +kernel) (by decide +kernel)
set_option maxRecDepth 20000 in
theorem gX3_weights_X3_noChair : GoodIn wsX3_weights (wsV RX3 129 RX3 yX3_noChair wsX3_noChair) := goodIn_app (goodIn_of _ (by decide +kernel)) ggX3_weights_X3_noChair
set_option maxRecDepth 20000 in
theorem ggX3_weights_X3_areSo : GoodIn wsX3_weights wsX3_areSo := goodIn_r _ [14, 15, 16, 17, 18, 19, 20, 5, 21, 1, 22, 23, 24, 25, 26, 27, 28, 29, 30, 31, 32, 33, 34, 35, 36, 37, 38, 39, 40, 41, 42, 43, 44, 45] (by decide +kernel) (by decide +kernel)
set_option maxRecDepth 20000 in
theorem gX3_weights_X3_areSo : GoodIn wsX3_weights (wsV RX3 217 RX3 yX3_areSo wsX3_areSo) := goodIn_app (goodIn_of _ (by decide +kernel)) ggX3_weights_X3_areSo
theorem dX3_weights_0 : decode cX3_weights 0 = .ok (.aload_n 0, 1) := by decide +kernel
theorem dX3_weights_1 : decode cX3_weights 1 = .ok (.iload_n 1, 1) := by decide +kernel
theorem dX3_weights_2 : decode cX3_weights 2 = .ok (.invokevirtual 129, 3) := by decide +kernel
theorem dX3_weights_5 : decode cX3_weights 5 = .ok (.ifCond .eq 5, 3) := by decide +kernel
theorem dX3_weights_8 : decode cX3_weights 8 = .ok (.iconst (-1), 1) := by decide +kernel
theorem dX3_weights_9 : decode cX3_weights 9 = .ok (.ireturn, 1) := by decide +kernel
theorem dX3_weights_10 : decode cX3_weights 10 = .ok (.aload_n 0, 1) := by decide +kernel
theorem dX3_weights_11 : decode cX3_weights 11 = .ok (.getfield 16, 3) := by decide +kernel
theorem dX3_weights_14 : decode cX3_weights 14 = .ok (.iload_n 1, 1) := by decide +kernel
theorem dX3_weights_15 : decode cX3_weights 15 = .ok (.iaload, 1) := by decide +kernel
theorem dX3_weights_16 : decode cX3_weights 16 = .ok (.istore_n 2, 1) := by decide +kernel
theorem dX3_weights_17 : decode cX3_weights 17 = .ok (.iconst 0, 1) := by decide +kernel
theorem dX3_weights_18 : decode cX3_weights 18 = .ok (.istore_n 3, 1) := by decide +kernel
theorem dX3_weights_19 : decode cX3_weights 19 = .ok (.iconst 1, 1) := by decide +kernel
theorem dX3_weights_20 : decode cX3_weights 20 = .ok (.istore 4, 2) := by decide +kernel
theorem dX3_weights_22 : decode cX3_weights 22 = .ok (.iload 4, 2) := by decide +kernel
theorem dX3_weights_24 : decode cX3_weights 24 = .ok (.bipush 10, 2) := by decide +kernel
theorem dX3_weights_26 : decode cX3_weights 26 = .ok (.if_icmp .ge 35, 3) := by decide +kernel
theorem dX3_weights_29 : decode cX3_weights 29 = .ok (.aload_n 0, 1) := by decide +kernel
theorem dX3_weights_30 : decode cX3_weights 30 = .ok (.getfield 16, 3) := by decide +kernel
theorem dX3_weights_33 : decode cX3_weights 33 = .ok (.iload_n 1, 1) := by decide +kernel
theorem dX3_weights_34 : decode cX3_weights 34 = .ok (.iload 4, 2) := by decide +kernel
theorem dX3_weights_36 : decode cX3_weights 36 = .ok (.iastore, 1) := by decide +kernel
theorem dX3_weights_37 : decode cX3_weights 37 = .ok (.iload_n 3, 1) := by decide +kernel
theorem dX3_weights_38 : decode cX3_weights 38 = .ok (.aload_n 0, 1) := by decide +kernel
theorem dX3_weights_39 : decode cX3_weights 39 = .ok (.invokevirtual 217, 3) := by decide +kernel
theorem dX3_weights_42 : decode cX3_weights 42 = .ok (.ifCond .eq 10, 3) := by decide +kernel
theorem dX3_weights_45 : decode cX3_weights 45 = .ok (.iconst 1, 1) := by decide +kernel
theorem dX3_weights_46 : decode cX3_weights 46 = .ok (.iload 4, 2) := by decide +kernel
theorem dX3_weights_48 : decode cX3_weights 48 = .ok (.ishl, 1) := by decide +kernel
theorem dX3_weights_49 : decode cX3_weights 49 = .ok (.goto 4, 3) := by decide +kernel
theorem dX3_weights_52 : decode cX3_weights 52 = .ok (.iconst 0, 1) := by decide +kernel
theorem dX3_weights_53 : decode cX3_weights 53 = .ok (.ior, 1) := by decide +kernel
theorem dX3_weights_54 : decode cX3_weights 54 = .ok (.istore_n 3, 1) := by decide +kernel
theorem dX3_weights_55 : decode cX3_weights 55 = .ok (.iinc 4 1, 3) := by decide +kernel
theorem dX3_weights_58 : decode cX3_weights 58 = .ok (.goto (-36), 3) := by decide +kernel
theorem dX3_weights_61 : decode cX3_weights 61 = .ok (.aload_n 0, 1) := by decide +kernel
theorem dX3_weights_62 : decode cX3_weights 62 = .ok (.getfield 16, 3) := by decide +kernel
theorem dX3_weights_65 : decode cX3_weights 65 = .ok (.iload_n 1, 1) := by decide +kernel
theorem dX3_weights_66 : decode cX3_weights 66 = .ok (.iload_n 2, 1) := by decide +kernel
theorem dX3_weights_67 : decode cX3_weights 67 = .ok (.iastore, 1) := by decide +kernel
theorem dX3_weights_68 : decode cX3_weights 68 = .ok (.iload_n 3, 1) := by decide +kernel
theorem dX3_weights_69 : decode cX3_weights 69 = .ok (.ireturn, 1) := by decide +kernel
set_option maxRecDepth 20000 in
theorem ggX3_kinds_X3_noChair : GoodIn wsX3_kinds wsX3_noChair := goodIn_r _ [6, 7, 8, 9, 5, 10, 23, 24, 25, 26, 27, 28, 29, 30, 31, 32, 33, 34, 35, 36, 37, 38, 39, 40, 41, 42, 43, 44, 45] (by decide +kernel) (by decide +kernel)
set_option maxRecDepth 20000 in
theorem gX3_kinds_X3_noChair : GoodIn wsX3_kinds (wsV RX3 129 RX3 yX3_noChair wsX3_noChair) := goodIn_app (goodIn_of _ (by decide +kernel)) ggX3_kinds_X3_noChair
set_option maxRecDepth 20000 in
theorem ggX3_kinds_X3_areSo : GoodIn wsX3_kinds wsX3_areSo := goodIn_r _ [14, 15, 16, 17, 18, 19, 20, 5, 21, 22, 1, 23, 24, 25, 26, 27, 28, 29, 30, 31, 32, 33, 34, 35, 36, 37, 38, 39, 40, 41, 42, 43, 44, 45] (by decide +kernel) (by decide +kernel)
set_option maxRecDepth 20000 in
theorem gX3_kinds_X3_areSo : GoodIn wsX3_kinds (wsV RX3 217 RX3 yX3_areSo wsX3_areSo) := goodIn_app (goodIn_of _ (by decide +kernel)) ggX3_kinds_X3_areSo
theorem dX3_kinds_0 : decode cX3_kinds 0 = .ok (.aload_n 0, 1) := by decide +kernel
theorem dX3_kinds_1 : decode cX3_kinds 1 = .ok (.iload_n 1, 1) := by decide +kernel
theorem dX3_kinds_2 : decode cX3_kinds 2 = .ok (.invokevirtual 129, 3) := by decide +kernel
theorem dX3_kinds_5 : decode cX3_kinds 5 = .ok (.ifCond .eq 5, 3) := by decide +kernel
theorem dX3_kinds_8 : decode cX3_kinds 8 = .ok (.iconst (-1), 1) := by decide +kernel
theorem dX3_kinds_9 : decode cX3_kinds 9 = .ok (.ireturn, 1) := by decide +kernel
theorem dX3_kinds_10 : decode cX3_kinds 10 = .ok (.aload_n 0, 1) := by decide +kernel
theorem dX3_kinds_11 : decode cX3_kinds 11 = .ok (.getfield 7, 3) := by decide +kernel
theorem dX3_kinds_14 : decode cX3_kinds 14 = .ok (.iload_n 1, 1) := by decide +kernel
theorem dX3_kinds_15 : decode cX3_kinds 15 = .ok (.iaload, 1) := by decide +kernel
theorem dX3_kinds_16 : decode cX3_kinds 16 = .ok (.istore_n 2, 1) := by decide +kernel
theorem dX3_kinds_17 : decode cX3_kinds 17 = .ok (.iconst 0, 1) := by decide +kernel
theorem dX3_kinds_18 : decode cX3_kinds 18 = .ok (.istore_n 3, 1) := by decide +kernel
theorem dX3_kinds_19 : decode cX3_kinds 19 = .ok (.iconst 0, 1) := by decide +kernel
theorem dX3_kinds_20 : decode cX3_kinds 20 = .ok (.istore 4, 2) := by decide +kernel
theorem dX3_kinds_22 : decode cX3_kinds 22 = .ok (.iload 4, 2) := by decide +kernel
theorem dX3_kinds_24 : decode cX3_kinds 24 = .ok (.iconst 3, 1) := by decide +kernel
theorem dX3_kinds_25 : decode cX3_kinds 25 = .ok (.if_icmp .ge 35, 3) := by decide +kernel
theorem dX3_kinds_28 : decode cX3_kinds 28 = .ok (.aload_n 0, 1) := by decide +kernel
theorem dX3_kinds_29 : decode cX3_kinds 29 = .ok (.getfield 7, 3) := by decide +kernel
theorem dX3_kinds_32 : decode cX3_kinds 32 = .ok (.iload_n 1, 1) := by decide +kernel
theorem dX3_kinds_33 : decode cX3_kinds 33 = .ok (.iload 4, 2) := by decide +kernel
theorem dX3_kinds_35 : decode cX3_kinds 35 = .ok (.iastore, 1) := by decide +kernel
theorem dX3_kinds_36 : decode cX3_kinds 36 = .ok (.iload_n 3, 1) := by decide +kernel
theorem dX3_kinds_37 : decode cX3_kinds 37 = .ok (.aload_n 0, 1) := by decide +kernel
theorem dX3_kinds_38 : decode cX3_kinds 38 = .ok (.invokevirtual 217, 3) := by decide +kernel
theorem dX3_kinds_41 : decode cX3_kinds 41 = .ok (.ifCond .eq 10, 3) := by decide +kernel
theorem dX3_kinds_44 : decode cX3_kinds 44 = .ok (.iconst 1, 1) := by decide +kernel
theorem dX3_kinds_45 : decode cX3_kinds 45 = .ok (.iload 4, 2) := by decide +kernel
theorem dX3_kinds_47 : decode cX3_kinds 47 = .ok (.ishl, 1) := by decide +kernel
theorem dX3_kinds_48 : decode cX3_kinds 48 = .ok (.goto 4, 3) := by decide +kernel
theorem dX3_kinds_51 : decode cX3_kinds 51 = .ok (.iconst 0, 1) := by decide +kernel
theorem dX3_kinds_52 : decode cX3_kinds 52 = .ok (.ior, 1) := by decide +kernel
theorem dX3_kinds_53 : decode cX3_kinds 53 = .ok (.istore_n 3, 1) := by decide +kernel
theorem dX3_kinds_54 : decode cX3_kinds 54 = .ok (.iinc 4 1, 3) := by decide +kernel
theorem dX3_kinds_57 : decode cX3_kinds 57 = .ok (.goto (-35), 3) := by decide +kernel
theorem dX3_kinds_60 : decode cX3_kinds 60 = .ok (.aload_n 0, 1) := by decide +kernel
theorem dX3_kinds_61 : decode cX3_kinds 61 = .ok (.getfield 7, 3) := by decide +kernel
theorem dX3_kinds_64 : decode cX3_kinds 64 = .ok (.iload_n 1, 1) := by decide +kernel
theorem dX3_kinds_65 : decode cX3_kinds 65 = .ok (.iload_n 2, 1) := by decide +kernel
theorem dX3_kinds_66 : decode cX3_kinds 66 = .ok (.iastore, 1) := by decide +kernel
theorem dX3_kinds_67 : decode cX3_kinds 67 = .ok (.iload_n 3, 1) := by decide +kernel
theorem dX3_kinds_68 : decode cX3_kinds 68 = .ok (.ireturn, 1) := by decide +kernel
set_option maxRecDepth 20000 in
theorem ggX3_moreBy_X3_isIn : GoodIn wsX3_moreBy wsX3_isIn := goodIn_r _ [5] (by decide +kernel) (by decide +kernel)
set_option maxRecDepth 20000 in
theorem gX3_moreBy_X3_isIn : GoodIn wsX3_moreBy (va_wsS RX3 120 yX3_isIn wsX3_isIn) := goodIn_app (goodIn_of _ (by decide +kernel)) ggX3_moreBy_X3_isIn
set_option maxRecDepth 20000 in
theorem ggX3_moreBy_X3_votesOf : GoodIn wsX3_moreBy wsX3_votesOf := goodIn_r _ [9, 10, 2, 3, 4, 5, 11, 12, 13, 14, 15, 16, 17, 18, 19, 20, 21, 22, 23, 24, 25, 26, 27, 28, 29, 30, 31, 32, 33, 34, 35, 36, 37, 38, 39] (by decide +kernel) (by decide +kernel)
set_option maxRecDepth 20000 in
theorem gX3_moreBy_X3_votesOf : GoodIn wsX3_moreBy (wsV RX3 132 RX3 yX3_votesOf wsX3_votesOf) := goodIn_app (goodIn_of _ (by decide +kernel)) ggX3_moreBy_X3_votesOf
theorem dX3_moreBy_0 : decode cX3_moreBy 0 = .ok (.iconst 0, 1) := by decide +kernel
theorem dX3_moreBy_1 : decode cX3_moreBy 1 = .ok (.istore_n 2, 1) := by decide +kernel
theorem dX3_moreBy_2 : decode cX3_moreBy 2 = .ok (.iconst 0, 1) := by decide +kernel
theorem dX3_moreBy_3 : decode cX3_moreBy 3 = .ok (.istore_n 3, 1) := by decide +kernel
theorem dX3_moreBy_4 : decode cX3_moreBy 4 = .ok (.iload_n 3, 1) := by decide +kernel
theorem dX3_moreBy_5 : decode cX3_moreBy 5 = .ok (.aload_n 0, 1) := by decide +kernel
theorem dX3_moreBy_6 : decode cX3_moreBy 6 = .ok (.getfield 65, 3) := by decide +kernel
theorem dX3_moreBy_9 : decode cX3_moreBy 9 = .ok (.if_icmp .ge 34, 3) := by decide +kernel
theorem dX3_moreBy_12 : decode cX3_moreBy 12 = .ok (.iload_n 2, 1) := by decide +kernel
theorem dX3_moreBy_13 : decode cX3_moreBy 13 = .ok (.iload_n 1, 1) := by decide +kernel
theorem dX3_moreBy_14 : decode cX3_moreBy 14 = .ok (.iload_n 3, 1) := by decide +kernel
theorem dX3_moreBy_15 : decode cX3_moreBy 15 = .ok (.invokestatic 120, 3) := by decide +kernel
theorem dX3_moreBy_18 : decode cX3_moreBy 18 = .ok (.ifCond .eq 11, 3) := by decide +kernel
theorem dX3_moreBy_21 : decode cX3_moreBy 21 = .ok (.aload_n 0, 1) := by decide +kernel
theorem dX3_moreBy_22 : decode cX3_moreBy 22 = .ok (.iload_n 3, 1) := by decide +kernel
theorem dX3_moreBy_23 : decode cX3_moreBy 23 = .ok (.invokevirtual 132, 3) := by decide +kernel
theorem dX3_moreBy_26 : decode cX3_moreBy 26 = .ok (.goto 9, 3) := by decide +kernel
theorem dX3_moreBy_29 : decode cX3_moreBy 29 = .ok (.aload_n 0, 1) := by decide +kernel
theorem dX3_moreBy_30 : decode cX3_moreBy 30 = .ok (.iload_n 3, 1) := by decide +kernel
theorem dX3_moreBy_31 : decode cX3_moreBy 31 = .ok (.invokevirtual 132, 3) := by decide +kernel
theorem dX3_moreBy_34 : decode cX3_moreBy 34 = .ok (.ineg, 1) := by decide +kernel
theorem dX3_moreBy_35 : decode cX3_moreBy 35 = .ok (.iadd, 1) := by decide +kernel
theorem dX3_moreBy_36 : decode cX3_moreBy 36 = .ok (.istore_n 2, 1) := by decide +kernel
theorem dX3_moreBy_37 : decode cX3_moreBy 37 = .ok (.iinc 3 1, 3) := by decide +kernel
theorem dX3_moreBy_40 : decode cX3_moreBy 40 = .ok (.goto (-36), 3) := by decide +kernel
theorem dX3_moreBy_43 : decode cX3_moreBy 43 = .ok (.iload_n 2, 1) := by decide +kernel
theorem dX3_moreBy_44 : decode cX3_moreBy 44 = .ok (.ireturn, 1) := by decide +kernel
set_option maxRecDepth 20000 in
theorem ggX3_odds_X3_noChair : GoodIn wsX3_odds wsX3_noChair := goodIn_r _ [7, 1, 8, 9, 6, 10, 39, 40, 41, 42, 43, 44, 45, 46, 47, 48, 49, 50, 51, 52, 53, 54, 55, 56, 57, 58, 59, 60, 61] (by decide +kernel) (by decide +kernel)
set_option maxRecDepth 20000 in
theorem gX3_odds_X3_noChair : GoodIn wsX3_odds (wsV RX3 129 RX3 yX3_noChair wsX3_noChair) := goodIn_app (goodIn_of _ (by decide +kernel)) ggX3_odds_X3_noChair
set_option maxRecDepth 20000 in
theorem ggX3_odds_X3_in : GoodIn wsX3_odds wsX3_in := goodIn_r _ [10] (by decide +kernel) (by decide +kernel)
set_option maxRecDepth 20000 in
theorem gX3_odds_X3_in : GoodIn wsX3_odds (va_wsS RX3 68 yX3_in wsX3_in) := goodIn_app (goodIn_of _ (by decide +kernel)) ggX3_odds_X3_in
set_option maxRecDepth 20000 in
theorem ggX3_odds_X3_isIn : GoodIn wsX3_odds wsX3_isIn := goodIn_r _ [13] (by decide +kernel) (by decide +kernel)
set_option maxRecDepth 20000 in
theorem gX3_odds_X3_isIn : GoodIn wsX3_odds (va_wsS RX3 120 yX3_isIn wsX3_isIn) := goodIn_app (goodIn_of _ (by decide +kernel)) ggX3_odds_X3_isIn
set_option maxRecDepth 20000 in
theorem ggX3_odds_X3_lost : GoodIn wsX3_odds wsX3_lost := goodIn_r _ [16, 17] (by decide +kernel) (by decide +kernel)
set_option maxRecDepth 20000 in
theorem gX3_odds_X3_lost : GoodIn wsX3_odds (va_wsS RX3 61 yX3_lost wsX3_lost) := goodIn_app (goodIn_of _ (by decide +kernel)) ggX3_odds_X3_lost
set_option maxRecDepth 20000 in
theorem ggX3_odds_X3_everyChair : GoodIn wsX3_odds wsX3_everyChair := goodIn_r _ [21, 1, 39, 40, 41, 42, 43, 44, 45, 46, 47, 48, 49, 50, 51, 52, 53, 54, 55, 56, 57, 58, 59, 60, 61] (by decide +kernel) (by decide +kernel)
set_option maxRecDepth 20000 in
theorem gX3_odds_X3_everyChair : GoodIn wsX3_odds (wsV RX3 160 RX3 yX3_everyChair wsX3_everyChair) := goodIn_app (goodIn_of _ (by decide +kernel)) ggX3_odds_X3_everyChair
set_option maxRecDepth 20000 in
theorem ggX3_odds_X3_moreBy : GoodIn wsX3_odds wsX3_moreBy := goodIn_r _ [25, 1, 11, 12, 6, 13, 26, 27, 28, 29, 2, 30, 31, 32, 33, 34, 35, 39, 40, 41, 42, 43, 44, 45, 46, 47, 48, 49, 50, 51, 52, 53, 54, 55, 56, 57, 58, 59, 60, 61] (by decide +kernel) (by decide +kernel)
set_option maxRecDepth 20000 in
theorem gX3_odds_X3_moreBy : GoodIn wsX3_odds (wsV RX3 220 RX3 yX3_moreBy wsX3_moreBy) := goodIn_app (goodIn_of _ (by decide +kernel)) ggX3_odds_X3_moreBy
set_option maxRecDepth 20000 in
theorem ggX3_odds_X3_share : GoodIn wsX3_odds wsX3_share := goodIn_r _ [38] (by decide +kernel) (by decide +kernel)
set_option maxRecDepth 20000 in
theorem gX3_odds_X3_share : GoodIn wsX3_odds (va_wsS RX3 213 yX3_share wsX3_share) := goodIn_app (goodIn_of _ (by decide +kernel)) ggX3_odds_X3_share
theorem dX3_odds_0 : decode cX3_odds 0 = .ok (.aload_n 0, 1) := by decide +kernel
theorem dX3_odds_1 : decode cX3_odds 1 = .ok (.getfield 65, 3) := by decide +kernel
theorem dX3_odds_4 : decode cX3_odds 4 = .ok (.ifCond .eq 41, 3) := by decide +kernel
theorem dX3_odds_7 : decode cX3_odds 7 = .ok (.iload_n 1, 1) := by decide +kernel
theorem dX3_odds_8 : decode cX3_odds 8 = .ok (.iconst (-1), 1) := by decide +kernel
theorem dX3_odds_9 : decode cX3_odds 9 = .ok (.if_icmp .eq 11, 3) := by decide +kernel
theorem dX3_odds_12 : decode cX3_odds 12 = .ok (.aload_n 0, 1) := by decide +kernel
theorem dX3_odds_13 : decode cX3_odds 13 = .ok (.iload_n 1, 1) := by decide +kernel
theorem dX3_odds_14 : decode cX3_odds 14 = .ok (.invokevirtual 129, 3) := by decide +kernel
theorem dX3_odds_17 : decode cX3_odds 17 = .ok (.ifCond .ne 28, 3) := by decide +kernel
theorem dX3_odds_20 : decode cX3_odds 20 = .ok (.iload_n 2, 1) := by decide +kernel
theorem dX3_odds_21 : decode cX3_odds 21 = .ok (.i2l, 1) := by decide +kernel
theorem dX3_odds_22 : decode cX3_odds 22 = .ok (.lconst 0, 1) := by decide +kernel
theorem dX3_odds_23 : decode cX3_odds 23 = .ok (.lconst 1, 1) := by decide +kernel
theorem dX3_odds_24 : decode cX3_odds 24 = .ok (.invokestatic 68, 3) := by decide +kernel
theorem dX3_odds_27 : decode cX3_odds 27 = .ok (.ifCond .eq 18, 3) := by decide +kernel
theorem dX3_odds_30 : decode cX3_odds 30 = .ok (.iload_n 1, 1) := by decide +kernel
theorem dX3_odds_31 : decode cX3_odds 31 = .ok (.ifCond .lt 18, 3) := by decide +kernel
theorem dX3_odds_34 : decode cX3_odds 34 = .ok (.aload_n 0, 1) := by decide +kernel
theorem dX3_odds_35 : decode cX3_odds 35 = .ok (.getfield 114, 3) := by decide +kernel
theorem dX3_odds_38 : decode cX3_odds 38 = .ok (.iload_n 1, 1) := by decide +kernel
theorem dX3_odds_39 : decode cX3_odds 39 = .ok (.invokestatic 120, 3) := by decide +kernel
theorem dX3_odds_42 : decode cX3_odds 42 = .ok (.ifCond .eq 7, 3) := by decide +kernel
theorem dX3_odds_45 : decode cX3_odds 45 = .ok (.invokestatic 61, 3) := by decide +kernel
theorem dX3_odds_48 : decode cX3_odds 48 = .ok (.lreturn, 1) := by decide +kernel
theorem dX3_odds_49 : decode cX3_odds 49 = .ok (.lconst 0, 1) := by decide +kernel
theorem dX3_odds_50 : decode cX3_odds 50 = .ok (.lstore_n 3, 1) := by decide +kernel
theorem dX3_odds_51 : decode cX3_odds 51 = .ok (.lconst 0, 1) := by decide +kernel
theorem dX3_odds_52 : decode cX3_odds 52 = .ok (.lstore 5, 2) := by decide +kernel
theorem dX3_odds_54 : decode cX3_odds 54 = .ok (.iconst 0, 1) := by decide +kernel
theorem dX3_odds_55 : decode cX3_odds 55 = .ok (.istore 7, 2) := by decide +kernel
theorem dX3_odds_57 : decode cX3_odds 57 = .ok (.iload 7, 2) := by decide +kernel
theorem dX3_odds_59 : decode cX3_odds 59 = .ok (.aload_n 0, 1) := by decide +kernel
theorem dX3_odds_60 : decode cX3_odds 60 = .ok (.invokevirtual 160, 3) := by decide +kernel
theorem dX3_odds_63 : decode cX3_odds 63 = .ok (.if_icmp .gt 105, 3) := by decide +kernel
theorem dX3_odds_66 : decode cX3_odds 66 = .ok (.iload 7, 2) := by decide +kernel
theorem dX3_odds_68 : decode cX3_odds 68 = .ok (.aload_n 0, 1) := by decide +kernel
theorem dX3_odds_69 : decode cX3_odds 69 = .ok (.getfield 114, 3) := by decide +kernel
theorem dX3_odds_72 : decode cX3_odds 72 = .ok (.iand, 1) := by decide +kernel
theorem dX3_odds_73 : decode cX3_odds 73 = .ok (.ifCond .ne 20, 3) := by decide +kernel
theorem dX3_odds_76 : decode cX3_odds 76 = .ok (.iload_n 1, 1) := by decide +kernel
theorem dX3_odds_77 : decode cX3_odds 77 = .ok (.ifCond .lt 12, 3) := by decide +kernel
theorem dX3_odds_80 : decode cX3_odds 80 = .ok (.iload 7, 2) := by decide +kernel
theorem dX3_odds_82 : decode cX3_odds 82 = .ok (.iload_n 1, 1) := by decide +kernel
theorem dX3_odds_83 : decode cX3_odds 83 = .ok (.invokestatic 120, 3) := by decide +kernel
theorem dX3_odds_86 : decode cX3_odds 86 = .ok (.ifCond .eq 7, 3) := by decide +kernel
theorem dX3_odds_89 : decode cX3_odds 89 = .ok (.iconst 1, 1) := by decide +kernel
theorem dX3_odds_90 : decode cX3_odds 90 = .ok (.goto 4, 3) := by decide +kernel
theorem dX3_odds_93 : decode cX3_odds 93 = .ok (.iconst 0, 1) := by decide +kernel
theorem dX3_odds_94 : decode cX3_odds 94 = .ok (.istore 8, 2) := by decide +kernel
theorem dX3_odds_96 : decode cX3_odds 96 = .ok (.aload_n 0, 1) := by decide +kernel
theorem dX3_odds_97 : decode cX3_odds 97 = .ok (.iload 7, 2) := by decide +kernel
theorem dX3_odds_99 : decode cX3_odds 99 = .ok (.invokevirtual 220, 3) := by decide +kernel
theorem dX3_odds_102 : decode cX3_odds 102 = .ok (.ifCond .le 24, 3) := by decide +kernel
theorem dX3_odds_105 : decode cX3_odds 105 = .ok (.iload_n 1, 1) := by decide +kernel
theorem dX3_odds_106 : decode cX3_odds 106 = .ok (.ifCond .lt 16, 3) := by decide +kernel
theorem dX3_odds_109 : decode cX3_odds 109 = .ok (.aload_n 0, 1) := by decide +kernel
theorem dX3_odds_110 : decode cX3_odds 110 = .ok (.iload 7, 2) := by decide +kernel
theorem dX3_odds_112 : decode cX3_odds 112 = .ok (.iconst 1, 1) := by decide +kernel
theorem dX3_odds_113 : decode cX3_odds 113 = .ok (.iload_n 1, 1) := by decide +kernel
theorem dX3_odds_114 : decode cX3_odds 114 = .ok (.ishl, 1) := by decide +kernel
theorem dX3_odds_115 : decode cX3_odds 115 = .ok (.ixor, 1) := by decide +kernel
theorem dX3_odds_116 : decode cX3_odds 116 = .ok (.invokevirtual 220, 3) := by decide +kernel
theorem dX3_odds_119 : decode cX3_odds 119 = .ok (.ifCond .gt 7, 3) := by decide +kernel
theorem dX3_odds_122 : decode cX3_odds 122 = .ok (.iconst 1, 1) := by decide +kernel
theorem dX3_odds_123 : decode cX3_odds 123 = .ok (.goto 4, 3) := by decide +kernel
theorem dX3_odds_126 : decode cX3_odds 126 = .ok (.iconst 0, 1) := by decide +kernel
theorem dX3_odds_127 : decode cX3_odds 127 = .ok (.istore 9, 2) := by decide +kernel
theorem dX3_odds_129 : decode cX3_odds 129 = .ok (.lload 5, 2) := by decide +kernel
theorem dX3_odds_131 : decode cX3_odds 131 = .ok (.iload 8, 2) := by decide +kernel
theorem dX3_odds_133 : decode cX3_odds 133 = .ok (.ifCond .eq 7, 3) := by decide +kernel
theorem dX3_odds_136 : decode cX3_odds 136 = .ok (.lconst 1, 1) := by decide +kernel
theorem dX3_odds_137 : decode cX3_odds 137 = .ok (.goto 4, 3) := by decide +kernel
theorem dX3_odds_140 : decode cX3_odds 140 = .ok (.lconst 0, 1) := by decide +kernel
theorem dX3_odds_141 : decode cX3_odds 141 = .ok (.ladd, 1) := by decide +kernel
theorem dX3_odds_142 : decode cX3_odds 142 = .ok (.lstore 5, 2) := by decide +kernel
theorem dX3_odds_144 : decode cX3_odds 144 = .ok (.lload_n 3, 1) := by decide +kernel
theorem dX3_odds_145 : decode cX3_odds 145 = .ok (.iload 8, 2) := by decide +kernel
theorem dX3_odds_147 : decode cX3_odds 147 = .ok (.ifCond .eq 12, 3) := by decide +kernel
theorem dX3_odds_150 : decode cX3_odds 150 = .ok (.iload 9, 2) := by decide +kernel
theorem dX3_odds_152 : decode cX3_odds 152 = .ok (.ifCond .eq 7, 3) := by decide +kernel
theorem dX3_odds_155 : decode cX3_odds 155 = .ok (.lconst 1, 1) := by decide +kernel
theorem dX3_odds_156 : decode cX3_odds 156 = .ok (.goto 4, 3) := by decide +kernel
theorem dX3_odds_159 : decode cX3_odds 159 = .ok (.lconst 0, 1) := by decide +kernel
theorem dX3_odds_160 : decode cX3_odds 160 = .ok (.ladd, 1) := by decide +kernel
theorem dX3_odds_161 : decode cX3_odds 161 = .ok (.lstore_n 3, 1) := by decide +kernel
theorem dX3_odds_162 : decode cX3_odds 162 = .ok (.iinc 7 1, 3) := by decide +kernel
theorem dX3_odds_165 : decode cX3_odds 165 = .ok (.goto (-108), 3) := by decide +kernel
theorem dX3_odds_168 : decode cX3_odds 168 = .ok (.lload_n 3, 1) := by decide +kernel
theorem dX3_odds_169 : decode cX3_odds 169 = .ok (.lload 5, 2) := by decide +kernel
theorem dX3_odds_171 : decode cX3_odds 171 = .ok (.iload_n 2, 1) := by decide +kernel
theorem dX3_odds_172 : decode cX3_odds 172 = .ok (.invokestatic 213, 3) := by decide +kernel
theorem dX3_odds_175 : decode cX3_odds 175 = .ok (.lreturn, 1) := by decide +kernel
set_option maxRecDepth 20000 in
theorem ggX3_noSheet_X3_in : GoodIn wsX3_noSheet wsX3_in := goodIn_r _ [5] (by decide +kernel) (by decide +kernel)
set_option maxRecDepth 20000 in
theorem gX3_noSheet_X3_in : GoodIn wsX3_noSheet (va_wsS RX3 68 yX3_in wsX3_in) := goodIn_app (goodIn_of _ (by decide +kernel)) ggX3_noSheet_X3_in
theorem dX3_noSheet_0 : decode cX3_noSheet 0 = .ok (.iload_n 0, 1) := by decide +kernel
theorem dX3_noSheet_1 : decode cX3_noSheet 1 = .ok (.i2l, 1) := by decide +kernel
theorem dX3_noSheet_2 : decode cX3_noSheet 2 = .ok (.lconst 0, 1) := by decide +kernel
theorem dX3_noSheet_3 : decode cX3_noSheet 3 = .ok (.ldc2_w 138, 3) := by decide +kernel
theorem dX3_noSheet_6 : decode cX3_noSheet 6 = .ok (.invokestatic 68, 3) := by decide +kernel
theorem dX3_noSheet_9 : decode cX3_noSheet 9 = .ok (.ifCond .ne 7, 3) := by decide +kernel
theorem dX3_noSheet_12 : decode cX3_noSheet 12 = .ok (.iconst 1, 1) := by decide +kernel
theorem dX3_noSheet_13 : decode cX3_noSheet 13 = .ok (.goto 4, 3) := by decide +kernel
theorem dX3_noSheet_16 : decode cX3_noSheet 16 = .ok (.iconst 0, 1) := by decide +kernel
theorem dX3_noSheet_17 : decode cX3_noSheet 17 = .ok (.ireturn, 1) := by decide +kernel
set_option maxRecDepth 20000 in
theorem ggX3_sheet_X3_noSheet : GoodIn wsX3_sheet wsX3_noSheet := goodIn_r _ [8, 9, 10, 11, 7, 12] (by decide +kernel) (by decide +kernel)
set_option maxRecDepth 20000 in
theorem gX3_sheet_X3_noSheet : GoodIn wsX3_sheet (va_wsS RX3 98 yX3_noSheet wsX3_noSheet) := goodIn_app (goodIn_of _ (by decide +kernel)) ggX3_sheet_X3_noSheet
set_option maxRecDepth 20000 in
theorem ggX3_sheet_X3_refused : GoodIn wsX3_sheet wsX3_refused := goodIn_r _ [16, 17, 22, 23, 24, 25, 26, 27, 28, 29, 30, 31, 32, 33, 34, 35, 36, 37, 38, 39, 40, 41, 42, 43, 44] (by decide +kernel) (by decide +kernel)
set_option maxRecDepth 20000 in
theorem gX3_sheet_X3_refused : GoodIn wsX3_sheet (wsV RX3 102 RX3 yX3_refused wsX3_refused) := goodIn_app (goodIn_of _ (by decide +kernel)) ggX3_sheet_X3_refused
set_option maxRecDepth 20000 in
theorem ggX3_sheet_X3_in : GoodIn wsX3_sheet wsX3_in := goodIn_r _ [12] (by decide +kernel) (by decide +kernel)
set_option maxRecDepth 20000 in
theorem gX3_sheet_X3_in : GoodIn wsX3_sheet (va_wsS RX3 68 yX3_in wsX3_in) := goodIn_app (goodIn_of _ (by decide +kernel)) ggX3_sheet_X3_in
set_option maxRecDepth 20000 in
theorem ggX3_sheet_X3_failed : GoodIn wsX3_sheet wsX3_failed := goodIn_r _ [21, 17, 22, 23, 24, 25, 26, 27, 28, 29, 30, 31, 32, 33, 34, 35, 36, 37, 38, 39, 40, 41, 42, 43, 44] (by decide +kernel) (by decide +kernel)
set_option maxRecDepth 20000 in
theorem gX3_sheet_X3_failed : GoodIn wsX3_sheet (wsV RX3 90 RX3 yX3_failed wsX3_failed) := goodIn_app (goodIn_of _ (by decide +kernel)) ggX3_sheet_X3_failed
theorem dX3_sheet_0 : decode cX3_sheet 0 = .ok (.iload_n 1, 1) := by decide +kernel
theorem dX3_sheet_1 : decode cX3_sheet 1 = .ok (.invokestatic 98, 3) := by decide +kernel
theorem dX3_sheet_4 : decode cX3_sheet 4 = .ok (.ifCond .eq 9, 3) := by decide +kernel
theorem dX3_sheet_7 : decode cX3_sheet 7 = .ok (.aload_n 0, 1) := by decide +kernel
theorem dX3_sheet_8 : decode cX3_sheet 8 = .ok (.iconst (-1), 1) := by decide +kernel
theorem dX3_sheet_9 : decode cX3_sheet 9 = .ok (.invokevirtual 102, 3) := by decide +kernel
theorem dX3_sheet_12 : decode cX3_sheet 12 = .ok (.ireturn, 1) := by decide +kernel
theorem dX3_sheet_13 : decode cX3_sheet 13 = .ok (.iload_n 2, 1) := by decide +kernel
theorem dX3_sheet_14 : decode cX3_sheet 14 = .ok (.i2l, 1) := by decide +kernel
theorem dX3_sheet_15 : decode cX3_sheet 15 = .ok (.lconst 0, 1) := by decide +kernel
theorem dX3_sheet_16 : decode cX3_sheet 16 = .ok (.ldc2_w 105, 3) := by decide +kernel
theorem dX3_sheet_19 : decode cX3_sheet 19 = .ok (.invokestatic 68, 3) := by decide +kernel
theorem dX3_sheet_22 : decode cX3_sheet 22 = .ok (.ifCond .eq 9, 3) := by decide +kernel
theorem dX3_sheet_25 : decode cX3_sheet 25 = .ok (.iload_n 3, 1) := by decide +kernel
theorem dX3_sheet_26 : decode cX3_sheet 26 = .ok (.bipush 60, 2) := by decide +kernel
theorem dX3_sheet_28 : decode cX3_sheet 28 = .ok (.if_icmp .le 10, 3) := by decide +kernel
theorem dX3_sheet_31 : decode cX3_sheet 31 = .ok (.aload_n 0, 1) := by decide +kernel
theorem dX3_sheet_32 : decode cX3_sheet 32 = .ok (.bipush (-2), 2) := by decide +kernel
theorem dX3_sheet_34 : decode cX3_sheet 34 = .ok (.invokevirtual 102, 3) := by decide +kernel
theorem dX3_sheet_37 : decode cX3_sheet 37 = .ok (.ireturn, 1) := by decide +kernel
theorem dX3_sheet_38 : decode cX3_sheet 38 = .ok (.iload_n 3, 1) := by decide +kernel
theorem dX3_sheet_39 : decode cX3_sheet 39 = .ok (.ifCond .ge 9, 3) := by decide +kernel
theorem dX3_sheet_42 : decode cX3_sheet 42 = .ok (.aload_n 0, 1) := by decide +kernel
theorem dX3_sheet_43 : decode cX3_sheet 43 = .ok (.iconst 4, 1) := by decide +kernel
theorem dX3_sheet_44 : decode cX3_sheet 44 = .ok (.invokevirtual 90, 3) := by decide +kernel
theorem dX3_sheet_47 : decode cX3_sheet 47 = .ok (.ireturn, 1) := by decide +kernel
theorem dX3_sheet_48 : decode cX3_sheet 48 = .ok (.aload_n 0, 1) := by decide +kernel
theorem dX3_sheet_49 : decode cX3_sheet 49 = .ok (.getfield 43, 3) := by decide +kernel
theorem dX3_sheet_52 : decode cX3_sheet 52 = .ok (.iload_n 1, 1) := by decide +kernel
theorem dX3_sheet_53 : decode cX3_sheet 53 = .ok (.iload_n 3, 1) := by decide +kernel
theorem dX3_sheet_54 : decode cX3_sheet 54 = .ok (.iastore, 1) := by decide +kernel
theorem dX3_sheet_55 : decode cX3_sheet 55 = .ok (.aload_n 0, 1) := by decide +kernel
theorem dX3_sheet_56 : decode cX3_sheet 56 = .ok (.getfield 46, 3) := by decide +kernel
theorem dX3_sheet_59 : decode cX3_sheet 59 = .ok (.iload_n 1, 1) := by decide +kernel
theorem dX3_sheet_60 : decode cX3_sheet 60 = .ok (.iload_n 2, 1) := by decide +kernel
theorem dX3_sheet_61 : decode cX3_sheet 61 = .ok (.iastore, 1) := by decide +kernel
theorem dX3_sheet_62 : decode cX3_sheet 62 = .ok (.iconst 0, 1) := by decide +kernel
theorem dX3_sheet_63 : decode cX3_sheet 63 = .ok (.istore 4, 2) := by decide +kernel
theorem dX3_sheet_65 : decode cX3_sheet 65 = .ok (.iload 4, 2) := by decide +kernel
theorem dX3_sheet_67 : decode cX3_sheet 67 = .ok (.iload_n 3, 1) := by decide +kernel
theorem dX3_sheet_68 : decode cX3_sheet 68 = .ok (.if_icmp .ge 22, 3) := by decide +kernel
theorem dX3_sheet_71 : decode cX3_sheet 71 = .ok (.aload_n 0, 1) := by decide +kernel
theorem dX3_sheet_72 : decode cX3_sheet 72 = .ok (.getfield 49, 3) := by decide +kernel
theorem dX3_sheet_75 : decode cX3_sheet 75 = .ok (.bipush 60, 2) := by decide +kernel
theorem dX3_sheet_77 : decode cX3_sheet 77 = .ok (.iload_n 1, 1) := by decide +kernel
theorem dX3_sheet_78 : decode cX3_sheet 78 = .ok (.imul, 1) := by decide +kernel
theorem dX3_sheet_79 : decode cX3_sheet 79 = .ok (.iload 4, 2) := by decide +kernel
theorem dX3_sheet_81 : decode cX3_sheet 81 = .ok (.iadd, 1) := by decide +kernel
theorem dX3_sheet_82 : decode cX3_sheet 82 = .ok (.iconst 0, 1) := by decide +kernel
theorem dX3_sheet_83 : decode cX3_sheet 83 = .ok (.iastore, 1) := by decide +kernel
theorem dX3_sheet_84 : decode cX3_sheet 84 = .ok (.iinc 4 1, 3) := by decide +kernel
theorem dX3_sheet_87 : decode cX3_sheet 87 = .ok (.goto (-22), 3) := by decide +kernel
theorem dX3_sheet_90 : decode cX3_sheet 90 = .ok (.aload_n 0, 1) := by decide +kernel
theorem dX3_sheet_91 : decode cX3_sheet 91 = .ok (.iconst 1, 1) := by decide +kernel
theorem dX3_sheet_92 : decode cX3_sheet 92 = .ok (.invokevirtual 102, 3) := by decide +kernel
theorem dX3_sheet_95 : decode cX3_sheet 95 = .ok (.ireturn, 1) := by decide +kernel
set_option maxRecDepth 20000 in
theorem ggX3_lose_X3_noSheet : GoodIn wsX3_lose wsX3_noSheet := goodIn_r _ [5, 6, 7, 8, 4, 9] (by decide +kernel) (by decide +kernel)
set_option maxRecDepth 20000 in
theorem gX3_lose_X3_noSheet : GoodIn wsX3_lose (va_wsS RX3 98 yX3_noSheet wsX3_noSheet) := goodIn_app (goodIn_of _ (by decide +kernel)) ggX3_lose_X3_noSheet
theorem dX3_lose_0 : decode cX3_lose 0 = .ok (.iload_n 1, 1) := by decide +kernel
theorem dX3_lose_1 : decode cX3_lose 1 = .ok (.invokestatic 98, 3) := by decide +kernel
theorem dX3_lose_4 : decode cX3_lose 4 = .ok (.ifCond .eq 5, 3) := by decide +kernel
theorem dX3_lose_7 : decode cX3_lose 7 = .ok (.iconst (-1), 1) := by decide +kernel
theorem dX3_lose_8 : decode cX3_lose 8 = .ok (.ireturn, 1) := by decide +kernel
theorem dX3_lose_9 : decode cX3_lose 9 = .ok (.aload_n 0, 1) := by decide +kernel
theorem dX3_lose_10 : decode cX3_lose 10 = .ok (.getfield 43, 3) := by decide +kernel
theorem dX3_lose_13 : decode cX3_lose 13 = .ok (.iload_n 1, 1) := by decide +kernel
theorem dX3_lose_14 : decode cX3_lose 14 = .ok (.iaload, 1) := by decide +kernel
theorem dX3_lose_15 : decode cX3_lose 15 = .ok (.ifCond .ge 7, 3) := by decide +kernel
theorem dX3_lose_18 : decode cX3_lose 18 = .ok (.iconst 0, 1) := by decide +kernel
theorem dX3_lose_19 : decode cX3_lose 19 = .ok (.goto 4, 3) := by decide +kernel
theorem dX3_lose_22 : decode cX3_lose 22 = .ok (.iconst 1, 1) := by decide +kernel
theorem dX3_lose_23 : decode cX3_lose 23 = .ok (.istore_n 2, 1) := by decide +kernel
theorem dX3_lose_24 : decode cX3_lose 24 = .ok (.aload_n 0, 1) := by decide +kernel
theorem dX3_lose_25 : decode cX3_lose 25 = .ok (.getfield 43, 3) := by decide +kernel
theorem dX3_lose_28 : decode cX3_lose 28 = .ok (.iload_n 1, 1) := by decide +kernel
theorem dX3_lose_29 : decode cX3_lose 29 = .ok (.iconst (-1), 1) := by decide +kernel
theorem dX3_lose_30 : decode cX3_lose 30 = .ok (.iastore, 1) := by decide +kernel
theorem dX3_lose_31 : decode cX3_lose 31 = .ok (.iload_n 2, 1) := by decide +kernel
theorem dX3_lose_32 : decode cX3_lose 32 = .ok (.ireturn, 1) := by decide +kernel
set_option maxRecDepth 20000 in
theorem ggX3_noCell_X3_in : GoodIn wsX3_noCell wsX3_in := goodIn_r _ [5] (by decide +kernel) (by decide +kernel)
set_option maxRecDepth 20000 in
theorem gX3_noCell_X3_in : GoodIn wsX3_noCell (va_wsS RX3 68 yX3_in wsX3_in) := goodIn_app (goodIn_of _ (by decide +kernel)) ggX3_noCell_X3_in
theorem dX3_noCell_0 : decode cX3_noCell 0 = .ok (.aload_n 0, 1) := by decide +kernel
theorem dX3_noCell_1 : decode cX3_noCell 1 = .ok (.getfield 43, 3) := by decide +kernel
theorem dX3_noCell_4 : decode cX3_noCell 4 = .ok (.iload_n 1, 1) := by decide +kernel
theorem dX3_noCell_5 : decode cX3_noCell 5 = .ok (.iaload, 1) := by decide +kernel
theorem dX3_noCell_6 : decode cX3_noCell 6 = .ok (.ifCond .ge 7, 3) := by decide +kernel
theorem dX3_noCell_9 : decode cX3_noCell 9 = .ok (.iconst 1, 1) := by decide +kernel
theorem dX3_noCell_10 : decode cX3_noCell 10 = .ok (.goto 26, 3) := by decide +kernel
theorem dX3_noCell_13 : decode cX3_noCell 13 = .ok (.iload_n 2, 1) := by decide +kernel
theorem dX3_noCell_14 : decode cX3_noCell 14 = .ok (.i2l, 1) := by decide +kernel
theorem dX3_noCell_15 : decode cX3_noCell 15 = .ok (.lconst 0, 1) := by decide +kernel
theorem dX3_noCell_16 : decode cX3_noCell 16 = .ok (.aload_n 0, 1) := by decide +kernel
theorem dX3_noCell_17 : decode cX3_noCell 17 = .ok (.getfield 43, 3) := by decide +kernel
theorem dX3_noCell_20 : decode cX3_noCell 20 = .ok (.iload_n 1, 1) := by decide +kernel
theorem dX3_noCell_21 : decode cX3_noCell 21 = .ok (.iaload, 1) := by decide +kernel
theorem dX3_noCell_22 : decode cX3_noCell 22 = .ok (.i2l, 1) := by decide +kernel
theorem dX3_noCell_23 : decode cX3_noCell 23 = .ok (.lconst 1, 1) := by decide +kernel
theorem dX3_noCell_24 : decode cX3_noCell 24 = .ok (.lsub, 1) := by decide +kernel
theorem dX3_noCell_25 : decode cX3_noCell 25 = .ok (.invokestatic 68, 3) := by decide +kernel
theorem dX3_noCell_28 : decode cX3_noCell 28 = .ok (.ifCond .eq 7, 3) := by decide +kernel
theorem dX3_noCell_31 : decode cX3_noCell 31 = .ok (.iconst 0, 1) := by decide +kernel
theorem dX3_noCell_32 : decode cX3_noCell 32 = .ok (.goto 4, 3) := by decide +kernel
theorem dX3_noCell_35 : decode cX3_noCell 35 = .ok (.iconst 3, 1) := by decide +kernel
theorem dX3_noCell_36 : decode cX3_noCell 36 = .ok (.ireturn, 1) := by decide +kernel
set_option maxRecDepth 20000 in
theorem ggX3_put_X3_noSheet : GoodIn wsX3_put wsX3_noSheet := goodIn_r _ [6, 7, 8, 9, 5, 10] (by decide +kernel) (by decide +kernel)
set_option maxRecDepth 20000 in
theorem gX3_put_X3_noSheet : GoodIn wsX3_put (va_wsS RX3 98 yX3_noSheet wsX3_noSheet) := goodIn_app (goodIn_of _ (by decide +kernel)) ggX3_put_X3_noSheet
set_option maxRecDepth 20000 in
theorem ggX3_put_X3_refused : GoodIn wsX3_put wsX3_refused := goodIn_r _ [14, 15, 25, 26, 27, 28, 29, 30, 31, 32, 33, 34, 35, 36, 37, 38, 39, 40, 41, 42, 43, 44, 45, 46, 47] (by decide +kernel) (by decide +kernel)
set_option maxRecDepth 20000 in
theorem gX3_put_X3_refused : GoodIn wsX3_put (wsV RX3 102 RX3 yX3_refused wsX3_refused) := goodIn_app (goodIn_of _ (by decide +kernel)) ggX3_put_X3_refused
set_option maxRecDepth 20000 in
theorem ggX3_put_X3_noCell : GoodIn wsX3_put wsX3_noCell := goodIn_r _ [19, 20, 8, 9, 5, 10, 25, 26, 27, 28, 29, 30, 31, 32, 33, 34, 35, 36, 37, 38, 39, 40, 41, 42, 43, 44, 45, 46, 47] (by decide +kernel) (by decide +kernel)
set_option maxRecDepth 20000 in
theorem gX3_put_X3_noCell : GoodIn wsX3_put (wsV RX3 223 RX3 yX3_noCell wsX3_noCell) := goodIn_app (goodIn_of _ (by decide +kernel)) ggX3_put_X3_noCell
set_option maxRecDepth 20000 in
theorem ggX3_put_X3_failed : GoodIn wsX3_put wsX3_failed := goodIn_r _ [24, 15, 25, 26, 27, 28, 29, 30, 31, 32, 33, 34, 35, 36, 37, 38, 39, 40, 41, 42, 43, 44, 45, 46, 47] (by decide +kernel) (by decide +kernel)
set_option maxRecDepth 20000 in
theorem gX3_put_X3_failed : GoodIn wsX3_put (wsV RX3 90 RX3 yX3_failed wsX3_failed) := goodIn_app (goodIn_of _ (by decide +kernel)) ggX3_put_X3_failed
theorem dX3_put_0 : decode cX3_put 0 = .ok (.iload_n 1, 1) := by decide +kernel
theorem dX3_put_1 : decode cX3_put 1 = .ok (.invokestatic 98, 3) := by decide +kernel
theorem dX3_put_4 : decode cX3_put 4 = .ok (.ifCond .eq 9, 3) := by decide +kernel
theorem dX3_put_7 : decode cX3_put 7 = .ok (.aload_n 0, 1) := by decide +kernel
theorem dX3_put_8 : decode cX3_put 8 = .ok (.iconst (-1), 1) := by decide +kernel
theorem dX3_put_9 : decode cX3_put 9 = .ok (.invokevirtual 102, 3) := by decide +kernel
theorem dX3_put_12 : decode cX3_put 12 = .ok (.ireturn, 1) := by decide +kernel
theorem dX3_put_13 : decode cX3_put 13 = .ok (.aload_n 0, 1) := by decide +kernel
theorem dX3_put_14 : decode cX3_put 14 = .ok (.iload_n 1, 1) := by decide +kernel
theorem dX3_put_15 : decode cX3_put 15 = .ok (.iload_n 2, 1) := by decide +kernel
theorem dX3_put_16 : decode cX3_put 16 = .ok (.invokevirtual 223, 3) := by decide +kernel
theorem dX3_put_19 : decode cX3_put 19 = .ok (.ifCond .le 14, 3) := by decide +kernel
theorem dX3_put_22 : decode cX3_put 22 = .ok (.aload_n 0, 1) := by decide +kernel
theorem dX3_put_23 : decode cX3_put 23 = .ok (.aload_n 0, 1) := by decide +kernel
theorem dX3_put_24 : decode cX3_put 24 = .ok (.iload_n 1, 1) := by decide +kernel
theorem dX3_put_25 : decode cX3_put 25 = .ok (.iload_n 2, 1) := by decide +kernel
theorem dX3_put_26 : decode cX3_put 26 = .ok (.invokevirtual 223, 3) := by decide +kernel
theorem dX3_put_29 : decode cX3_put 29 = .ok (.invokevirtual 90, 3) := by decide +kernel
theorem dX3_put_32 : decode cX3_put 32 = .ok (.ireturn, 1) := by decide +kernel
theorem dX3_put_33 : decode cX3_put 33 = .ok (.aload_n 0, 1) := by decide +kernel
theorem dX3_put_34 : decode cX3_put 34 = .ok (.getfield 49, 3) := by decide +kernel
theorem dX3_put_37 : decode cX3_put 37 = .ok (.bipush 60, 2) := by decide +kernel
theorem dX3_put_39 : decode cX3_put 39 = .ok (.iload_n 1, 1) := by decide +kernel
theorem dX3_put_40 : decode cX3_put 40 = .ok (.imul, 1) := by decide +kernel
theorem dX3_put_41 : decode cX3_put 41 = .ok (.iload_n 2, 1) := by decide +kernel
theorem dX3_put_42 : decode cX3_put 42 = .ok (.iadd, 1) := by decide +kernel
theorem dX3_put_43 : decode cX3_put 43 = .ok (.aload_n 0, 1) := by decide +kernel
theorem dX3_put_44 : decode cX3_put 44 = .ok (.getfield 46, 3) := by decide +kernel
theorem dX3_put_47 : decode cX3_put 47 = .ok (.iload_n 1, 1) := by decide +kernel
theorem dX3_put_48 : decode cX3_put 48 = .ok (.iaload, 1) := by decide +kernel
theorem dX3_put_49 : decode cX3_put 49 = .ok (.ifCond .ne 8, 3) := by decide +kernel
theorem dX3_put_52 : decode cX3_put 52 = .ok (.iload_n 3, 1) := by decide +kernel
theorem dX3_put_53 : decode cX3_put 53 = .ok (.i2b, 1) := by decide +kernel
theorem dX3_put_54 : decode cX3_put 54 = .ok (.goto 19, 3) := by decide +kernel
theorem dX3_put_57 : decode cX3_put 57 = .ok (.aload_n 0, 1) := by decide +kernel
theorem dX3_put_58 : decode cX3_put 58 = .ok (.getfield 46, 3) := by decide +kernel
theorem dX3_put_61 : decode cX3_put 61 = .ok (.iload_n 1, 1) := by decide +kernel
theorem dX3_put_62 : decode cX3_put 62 = .ok (.iaload, 1) := by decide +kernel
theorem dX3_put_63 : decode cX3_put 63 = .ok (.iconst 1, 1) := by decide +kernel
theorem dX3_put_64 : decode cX3_put 64 = .ok (.if_icmp .ne 8, 3) := by decide +kernel
theorem dX3_put_67 : decode cX3_put 67 = .ok (.iload_n 3, 1) := by decide +kernel
theorem dX3_put_68 : decode cX3_put 68 = .ok (.i2s, 1) := by decide +kernel
theorem dX3_put_69 : decode cX3_put 69 = .ok (.goto 4, 3) := by decide +kernel
theorem dX3_put_72 : decode cX3_put 72 = .ok (.iload_n 3, 1) := by decide +kernel
theorem dX3_put_73 : decode cX3_put 73 = .ok (.iastore, 1) := by decide +kernel
theorem dX3_put_74 : decode cX3_put 74 = .ok (.aload_n 0, 1) := by decide +kernel
theorem dX3_put_75 : decode cX3_put 75 = .ok (.iconst 1, 1) := by decide +kernel
theorem dX3_put_76 : decode cX3_put 76 = .ok (.invokevirtual 102, 3) := by decide +kernel
theorem dX3_put_79 : decode cX3_put 79 = .ok (.ireturn, 1) := by decide +kernel
set_option maxRecDepth 20000 in
theorem ggX3_cell_X3_noSheet : GoodIn wsX3_cell wsX3_noSheet := goodIn_r _ [9, 10, 11, 12, 8, 13] (by decide +kernel) (by decide +kernel)
set_option maxRecDepth 20000 in
theorem gX3_cell_X3_noSheet : GoodIn wsX3_cell (va_wsS RX3 98 yX3_noSheet wsX3_noSheet) := goodIn_app (goodIn_of _ (by decide +kernel)) ggX3_cell_X3_noSheet
set_option maxRecDepth 20000 in
theorem ggX3_cell_X3_in : GoodIn wsX3_cell wsX3_in := goodIn_r _ [13] (by decide +kernel) (by decide +kernel)
set_option maxRecDepth 20000 in
theorem gX3_cell_X3_in : GoodIn wsX3_cell (va_wsS RX3 68 yX3_in wsX3_in) := goodIn_app (goodIn_of _ (by decide +kernel)) ggX3_cell_X3_in
set_option maxRecDepth 20000 in
theorem ggX3_cell_X3_lost : GoodIn wsX3_cell wsX3_lost := goodIn_r _ [16, 17] (by decide +kernel) (by decide +kernel)
set_option maxRecDepth 20000 in
theorem gX3_cell_X3_lost : GoodIn wsX3_cell (va_wsS RX3 61 yX3_lost wsX3_lost) := goodIn_app (goodIn_of _ (by decide +kernel)) ggX3_cell_X3_lost
set_option maxRecDepth 20000 in
theorem ggX3_cell_X3_failedLong : GoodIn wsX3_cell wsX3_failedLong := goodIn_r _ [21, 1, 14, 15, 8, 16, 17, 26, 27, 28, 29, 30, 31, 32, 33, 34, 35, 36, 37, 38, 39, 40, 41, 42, 43, 44, 45, 46, 47, 48] (by decide +kernel) (by decide +kernel)
set_option maxRecDepth 20000 in
theorem gX3_cell_X3_failedLong : GoodIn wsX3_cell (wsV RX3 226 RX3 yX3_failedLong wsX3_failedLong) := goodIn_app (goodIn_of _ (by decide +kernel)) ggX3_cell_X3_failedLong
set_option maxRecDepth 20000 in
theorem ggX3_cell_X3_noCell : GoodIn wsX3_cell wsX3_noCell := goodIn_r _ [25, 3, 11, 12, 8, 13, 26, 27, 28, 29, 30, 31, 32, 33, 34, 35, 36, 37, 38, 39, 40, 41, 42, 43, 44, 45, 46, 47, 48] (by decide +kernel) (by decide +kernel)
set_option maxRecDepth 20000 in
theorem gX3_cell_X3_noCell : GoodIn wsX3_cell (wsV RX3 223 RX3 yX3_noCell wsX3_noCell) := goodIn_app (goodIn_of _ (by decide +kernel)) ggX3_cell_X3_noCell
theorem dX3_cell_0 : decode cX3_cell 0 = .ok (.aload_n 0, 1) := by decide +kernel
theorem dX3_cell_1 : decode cX3_cell 1 = .ok (.iconst 0, 1) := by decide +kernel
theorem dX3_cell_2 : decode cX3_cell 2 = .ok (.putfield 57, 3) := by decide +kernel
theorem dX3_cell_5 : decode cX3_cell 5 = .ok (.iload_n 1, 1) := by decide +kernel
theorem dX3_cell_6 : decode cX3_cell 6 = .ok (.invokestatic 98, 3) := by decide +kernel
theorem dX3_cell_9 : decode cX3_cell 9 = .ok (.ifCond .ne 15, 3) := by decide +kernel
theorem dX3_cell_12 : decode cX3_cell 12 = .ok (.iload_n 3, 1) := by decide +kernel
theorem dX3_cell_13 : decode cX3_cell 13 = .ok (.i2l, 1) := by decide +kernel
theorem dX3_cell_14 : decode cX3_cell 14 = .ok (.lconst 0, 1) := by decide +kernel
theorem dX3_cell_15 : decode cX3_cell 15 = .ok (.ldc2_w 105, 3) := by decide +kernel
theorem dX3_cell_18 : decode cX3_cell 18 = .ok (.invokestatic 68, 3) := by decide +kernel
theorem dX3_cell_21 : decode cX3_cell 21 = .ok (.ifCond .ne 7, 3) := by decide +kernel
theorem dX3_cell_24 : decode cX3_cell 24 = .ok (.invokestatic 61, 3) := by decide +kernel
theorem dX3_cell_27 : decode cX3_cell 27 = .ok (.lreturn, 1) := by decide +kernel
theorem dX3_cell_28 : decode cX3_cell 28 = .ok (.aload_n 0, 1) := by decide +kernel
theorem dX3_cell_29 : decode cX3_cell 29 = .ok (.getfield 43, 3) := by decide +kernel
theorem dX3_cell_32 : decode cX3_cell 32 = .ok (.iload_n 1, 1) := by decide +kernel
theorem dX3_cell_33 : decode cX3_cell 33 = .ok (.iaload, 1) := by decide +kernel
theorem dX3_cell_34 : decode cX3_cell 34 = .ok (.ifCond .lt 19, 3) := by decide +kernel
theorem dX3_cell_37 : decode cX3_cell 37 = .ok (.aload_n 0, 1) := by decide +kernel
theorem dX3_cell_38 : decode cX3_cell 38 = .ok (.getfield 46, 3) := by decide +kernel
theorem dX3_cell_41 : decode cX3_cell 41 = .ok (.iload_n 1, 1) := by decide +kernel
theorem dX3_cell_42 : decode cX3_cell 42 = .ok (.iaload, 1) := by decide +kernel
theorem dX3_cell_43 : decode cX3_cell 43 = .ok (.iload_n 3, 1) := by decide +kernel
theorem dX3_cell_44 : decode cX3_cell 44 = .ok (.if_icmp .eq 9, 3) := by decide +kernel
theorem dX3_cell_47 : decode cX3_cell 47 = .ok (.aload_n 0, 1) := by decide +kernel
theorem dX3_cell_48 : decode cX3_cell 48 = .ok (.iconst 2, 1) := by decide +kernel
theorem dX3_cell_49 : decode cX3_cell 49 = .ok (.invokevirtual 226, 3) := by decide +kernel
theorem dX3_cell_52 : decode cX3_cell 52 = .ok (.lreturn, 1) := by decide +kernel
theorem dX3_cell_53 : decode cX3_cell 53 = .ok (.aload_n 0, 1) := by decide +kernel
theorem dX3_cell_54 : decode cX3_cell 54 = .ok (.iload_n 1, 1) := by decide +kernel
theorem dX3_cell_55 : decode cX3_cell 55 = .ok (.iload_n 2, 1) := by decide +kernel
theorem dX3_cell_56 : decode cX3_cell 56 = .ok (.invokevirtual 223, 3) := by decide +kernel
theorem dX3_cell_59 : decode cX3_cell 59 = .ok (.ifCond .le 16, 3) := by decide +kernel
theorem dX3_cell_62 : decode cX3_cell 62 = .ok (.aload_n 0, 1) := by decide +kernel
theorem dX3_cell_63 : decode cX3_cell 63 = .ok (.aload_n 0, 1) := by decide +kernel
theorem dX3_cell_64 : decode cX3_cell 64 = .ok (.iload_n 1, 1) := by decide +kernel
theorem dX3_cell_65 : decode cX3_cell 65 = .ok (.iload_n 2, 1) := by decide +kernel
theorem dX3_cell_66 : decode cX3_cell 66 = .ok (.invokevirtual 223, 3) := by decide +kernel
theorem dX3_cell_69 : decode cX3_cell 69 = .ok (.invokevirtual 226, 3) := by decide +kernel
theorem dX3_cell_72 : decode cX3_cell 72 = .ok (.goto 15, 3) := by decide +kernel
theorem dX3_cell_75 : decode cX3_cell 75 = .ok (.aload_n 0, 1) := by decide +kernel
theorem dX3_cell_76 : decode cX3_cell 76 = .ok (.getfield 49, 3) := by decide +kernel
theorem dX3_cell_79 : decode cX3_cell 79 = .ok (.bipush 60, 2) := by decide +kernel
theorem dX3_cell_81 : decode cX3_cell 81 = .ok (.iload_n 1, 1) := by decide +kernel
theorem dX3_cell_82 : decode cX3_cell 82 = .ok (.imul, 1) := by decide +kernel
theorem dX3_cell_83 : decode cX3_cell 83 = .ok (.iload_n 2, 1) := by decide +kernel
theorem dX3_cell_84 : decode cX3_cell 84 = .ok (.iadd, 1) := by decide +kernel
theorem dX3_cell_85 : decode cX3_cell 85 = .ok (.iaload, 1) := by decide +kernel
theorem dX3_cell_86 : decode cX3_cell 86 = .ok (.i2l, 1) := by decide +kernel
theorem dX3_cell_87 : decode cX3_cell 87 = .ok (.lreturn, 1) := by decide +kernel
theorem dX3_isBeyond_0 : decode cX3_isBeyond 0 = .ok (.iload_n 0, 1) := by decide +kernel
theorem dX3_isBeyond_1 : decode cX3_isBeyond 1 = .ok (.ifCond .lt 19, 3) := by decide +kernel
theorem dX3_isBeyond_4 : decode cX3_isBeyond 4 = .ok (.lload_n 1, 1) := by decide +kernel
theorem dX3_isBeyond_5 : decode cX3_isBeyond 5 = .ok (.lconst 0, 1) := by decide +kernel
theorem dX3_isBeyond_6 : decode cX3_isBeyond 6 = .ok (.lcmp, 1) := by decide +kernel
theorem dX3_isBeyond_7 : decode cX3_isBeyond 7 = .ok (.ifCond .lt 13, 3) := by decide +kernel
theorem dX3_isBeyond_10 : decode cX3_isBeyond 10 = .ok (.iload_n 0, 1) := by decide +kernel
theorem dX3_isBeyond_11 : decode cX3_isBeyond 11 = .ok (.i2l, 1) := by decide +kernel
theorem dX3_isBeyond_12 : decode cX3_isBeyond 12 = .ok (.lload_n 1, 1) := by decide +kernel
theorem dX3_isBeyond_13 : decode cX3_isBeyond 13 = .ok (.ladd, 1) := by decide +kernel
theorem dX3_isBeyond_14 : decode cX3_isBeyond 14 = .ok (.iload_n 3, 1) := by decide +kernel
theorem dX3_isBeyond_15 : decode cX3_isBeyond 15 = .ok (.i2l, 1) := by decide +kernel
theorem dX3_isBeyond_16 : decode cX3_isBeyond 16 = .ok (.lcmp, 1) := by decide +kernel
theorem dX3_isBeyond_17 : decode cX3_isBeyond 17 = .ok (.ifCond .le 7, 3) := by decide +kernel
theorem dX3_isBeyond_20 : decode cX3_isBeyond 20 = .ok (.iconst 1, 1) := by decide +kernel
theorem dX3_isBeyond_21 : decode cX3_isBeyond 21 = .ok (.goto 4, 3) := by decide +kernel
theorem dX3_isBeyond_24 : decode cX3_isBeyond 24 = .ok (.iconst 0, 1) := by decide +kernel
theorem dX3_isBeyond_25 : decode cX3_isBeyond 25 = .ok (.ireturn, 1) := by decide +kernel
set_option maxRecDepth 20000 in
theorem ggX3_copy_X3_noSheet : GoodIn wsX3_copy wsX3_noSheet := goodIn_r _ [8, 9, 10, 11, 7, 12] (by decide +kernel) (by decide +kernel)
set_option maxRecDepth 20000 in
theorem gX3_copy_X3_noSheet : GoodIn wsX3_copy (va_wsS RX3 98 yX3_noSheet wsX3_noSheet) := goodIn_app (goodIn_of _ (by decide +kernel)) ggX3_copy_X3_noSheet
set_option maxRecDepth 20000 in
theorem ggX3_copy_X3_refused : GoodIn wsX3_copy wsX3_refused := goodIn_r _ [16, 17, 25, 26, 27, 28, 29, 30, 31, 32, 33, 34, 35, 36, 37, 38, 39, 40, 41, 42, 43, 44, 45, 46, 47] (by decide +kernel) (by decide +kernel)
set_option maxRecDepth 20000 in
theorem gX3_copy_X3_refused : GoodIn wsX3_copy (wsV RX3 102 RX3 yX3_refused wsX3_refused) := goodIn_app (goodIn_of _ (by decide +kernel)) ggX3_copy_X3_refused
set_option maxRecDepth 20000 in
theorem ggX3_copy_X3_failed : GoodIn wsX3_copy wsX3_failed := goodIn_r _ [21, 17, 25, 26, 27, 28, 29, 30, 31, 32, 33, 34, 35, 36, 37, 38, 39, 40, 41, 42, 43, 44, 45, 46, 47] (by decide +kernel) (by decide +kernel)
set_option maxRecDepth 20000 in
theorem gX3_copy_X3_failed : GoodIn wsX3_copy (wsV RX3 90 RX3 yX3_failed wsX3_failed) := goodIn_app (goodIn_of _ (by decide +kernel)) ggX3_copy_X3_failed
set_option maxRecDepth 20000 in
theorem ggX3_copy_X3_isBeyond : GoodIn wsX3_copy wsX3_isBeyond := goodIn_r _ [24] (by decide +kernel) (by decide +kernel)
set_option maxRecDepth 20000 in
theorem gX3_copy_X3_isBeyond : GoodIn wsX3_copy (va_wsS RX3 94 yX3_isBeyond wsX3_isBeyond) := goodIn_app (goodIn_of _ (by decide +kernel)) ggX3_copy_X3_isBeyond
theorem dX3_copy_0 : decode cX3_copy 0 = .ok (.iload_n 1, 1) := by decide +kernel
theorem dX3_copy_1 : decode cX3_copy 1 = .ok (.invokestatic 98, 3) := by decide +kernel
theorem dX3_copy_4 : decode cX3_copy 4 = .ok (.ifCond .ne 10, 3) := by decide +kernel
theorem dX3_copy_7 : decode cX3_copy 7 = .ok (.iload_n 3, 1) := by decide +kernel
theorem dX3_copy_8 : decode cX3_copy 8 = .ok (.invokestatic 98, 3) := by decide +kernel
theorem dX3_copy_11 : decode cX3_copy 11 = .ok (.ifCond .eq 9, 3) := by decide +kernel
theorem dX3_copy_14 : decode cX3_copy 14 = .ok (.aload_n 0, 1) := by decide +kernel
theorem dX3_copy_15 : decode cX3_copy 15 = .ok (.iconst (-1), 1) := by decide +kernel
theorem dX3_copy_16 : decode cX3_copy 16 = .ok (.invokevirtual 102, 3) := by decide +kernel
theorem dX3_copy_19 : decode cX3_copy 19 = .ok (.ireturn, 1) := by decide +kernel
theorem dX3_copy_20 : decode cX3_copy 20 = .ok (.aload_n 0, 1) := by decide +kernel
theorem dX3_copy_21 : decode cX3_copy 21 = .ok (.getfield 43, 3) := by decide +kernel
theorem dX3_copy_24 : decode cX3_copy 24 = .ok (.iload_n 1, 1) := by decide +kernel
theorem dX3_copy_25 : decode cX3_copy 25 = .ok (.iaload, 1) := by decide +kernel
theorem dX3_copy_26 : decode cX3_copy 26 = .ok (.ifCond .lt 12, 3) := by decide +kernel
theorem dX3_copy_29 : decode cX3_copy 29 = .ok (.aload_n 0, 1) := by decide +kernel
theorem dX3_copy_30 : decode cX3_copy 30 = .ok (.getfield 43, 3) := by decide +kernel
theorem dX3_copy_33 : decode cX3_copy 33 = .ok (.iload_n 3, 1) := by decide +kernel
theorem dX3_copy_34 : decode cX3_copy 34 = .ok (.iaload, 1) := by decide +kernel
theorem dX3_copy_35 : decode cX3_copy 35 = .ok (.ifCond .ge 9, 3) := by decide +kernel
theorem dX3_copy_38 : decode cX3_copy 38 = .ok (.aload_n 0, 1) := by decide +kernel
theorem dX3_copy_39 : decode cX3_copy 39 = .ok (.iconst 1, 1) := by decide +kernel
theorem dX3_copy_40 : decode cX3_copy 40 = .ok (.invokevirtual 90, 3) := by decide +kernel
theorem dX3_copy_43 : decode cX3_copy 43 = .ok (.ireturn, 1) := by decide +kernel
theorem dX3_copy_44 : decode cX3_copy 44 = .ok (.aload_n 0, 1) := by decide +kernel
theorem dX3_copy_45 : decode cX3_copy 45 = .ok (.getfield 46, 3) := by decide +kernel
theorem dX3_copy_48 : decode cX3_copy 48 = .ok (.iload_n 1, 1) := by decide +kernel
theorem dX3_copy_49 : decode cX3_copy 49 = .ok (.iaload, 1) := by decide +kernel
theorem dX3_copy_50 : decode cX3_copy 50 = .ok (.aload_n 0, 1) := by decide +kernel
theorem dX3_copy_51 : decode cX3_copy 51 = .ok (.getfield 46, 3) := by decide +kernel
theorem dX3_copy_54 : decode cX3_copy 54 = .ok (.iload_n 3, 1) := by decide +kernel
theorem dX3_copy_55 : decode cX3_copy 55 = .ok (.iaload, 1) := by decide +kernel
theorem dX3_copy_56 : decode cX3_copy 56 = .ok (.if_icmp .eq 9, 3) := by decide +kernel
theorem dX3_copy_59 : decode cX3_copy 59 = .ok (.aload_n 0, 1) := by decide +kernel
theorem dX3_copy_60 : decode cX3_copy 60 = .ok (.iconst 2, 1) := by decide +kernel
theorem dX3_copy_61 : decode cX3_copy 61 = .ok (.invokevirtual 90, 3) := by decide +kernel
theorem dX3_copy_64 : decode cX3_copy 64 = .ok (.ireturn, 1) := by decide +kernel
theorem dX3_copy_65 : decode cX3_copy 65 = .ok (.iload_n 2, 1) := by decide +kernel
theorem dX3_copy_66 : decode cX3_copy 66 = .ok (.iload 5, 2) := by decide +kernel
theorem dX3_copy_68 : decode cX3_copy 68 = .ok (.i2l, 1) := by decide +kernel
theorem dX3_copy_69 : decode cX3_copy 69 = .ok (.aload_n 0, 1) := by decide +kernel
theorem dX3_copy_70 : decode cX3_copy 70 = .ok (.getfield 43, 3) := by decide +kernel
theorem dX3_copy_73 : decode cX3_copy 73 = .ok (.iload_n 1, 1) := by decide +kernel
theorem dX3_copy_74 : decode cX3_copy 74 = .ok (.iaload, 1) := by decide +kernel
theorem dX3_copy_75 : decode cX3_copy 75 = .ok (.invokestatic 94, 3) := by decide +kernel
theorem dX3_copy_78 : decode cX3_copy 78 = .ok (.ifCond .ne 20, 3) := by decide +kernel
theorem dX3_copy_81 : decode cX3_copy 81 = .ok (.iload 4, 2) := by decide +kernel
theorem dX3_copy_83 : decode cX3_copy 83 = .ok (.iload 5, 2) := by decide +kernel
theorem dX3_copy_85 : decode cX3_copy 85 = .ok (.i2l, 1) := by decide +kernel
theorem dX3_copy_86 : decode cX3_copy 86 = .ok (.aload_n 0, 1) := by decide +kernel
theorem dX3_copy_87 : decode cX3_copy 87 = .ok (.getfield 43, 3) := by decide +kernel
theorem dX3_copy_90 : decode cX3_copy 90 = .ok (.iload_n 3, 1) := by decide +kernel
theorem dX3_copy_91 : decode cX3_copy 91 = .ok (.iaload, 1) := by decide +kernel
theorem dX3_copy_92 : decode cX3_copy 92 = .ok (.invokestatic 94, 3) := by decide +kernel
theorem dX3_copy_95 : decode cX3_copy 95 = .ok (.ifCond .eq 9, 3) := by decide +kernel
theorem dX3_copy_98 : decode cX3_copy 98 = .ok (.aload_n 0, 1) := by decide +kernel
theorem dX3_copy_99 : decode cX3_copy 99 = .ok (.iconst 3, 1) := by decide +kernel
theorem dX3_copy_100 : decode cX3_copy 100 = .ok (.invokevirtual 90, 3) := by decide +kernel
theorem dX3_copy_103 : decode cX3_copy 103 = .ok (.ireturn, 1) := by decide +kernel
theorem dX3_copy_104 : decode cX3_copy 104 = .ok (.iconst 0, 1) := by decide +kernel
theorem dX3_copy_105 : decode cX3_copy 105 = .ok (.istore 6, 2) := by decide +kernel
theorem dX3_copy_107 : decode cX3_copy 107 = .ok (.iload 6, 2) := by decide +kernel
theorem dX3_copy_109 : decode cX3_copy 109 = .ok (.iload 5, 2) := by decide +kernel
theorem dX3_copy_111 : decode cX3_copy 111 = .ok (.if_icmp .ge 30, 3) := by decide +kernel
theorem dX3_copy_114 : decode cX3_copy 114 = .ok (.aload_n 0, 1) := by decide +kernel
theorem dX3_copy_115 : decode cX3_copy 115 = .ok (.getfield 52, 3) := by decide +kernel
theorem dX3_copy_118 : decode cX3_copy 118 = .ok (.iload 6, 2) := by decide +kernel
theorem dX3_copy_120 : decode cX3_copy 120 = .ok (.aload_n 0, 1) := by decide +kernel
theorem dX3_copy_121 : decode cX3_copy 121 = .ok (.getfield 49, 3) := by decide +kernel
theorem dX3_copy_124 : decode cX3_copy 124 = .ok (.bipush 60, 2) := by decide +kernel
theorem dX3_copy_126 : decode cX3_copy 126 = .ok (.iload_n 1, 1) := by decide +kernel
theorem dX3_copy_127 : decode cX3_copy 127 = .ok (.imul, 1) := by decide +kernel
theorem dX3_copy_128 : decode cX3_copy 128 = .ok (.iload_n 2, 1) := by decide +kernel
theorem dX3_copy_129 : decode cX3_copy 129 = .ok (.iadd, 1) := by decide +kernel
theorem dX3_copy_130 : decode cX3_copy 130 = .ok (.iload 6, 2) := by decide +kernel
theorem dX3_copy_132 : decode cX3_copy 132 = .ok (.iadd, 1) := by decide +kernel
theorem dX3_copy_133 : decode cX3_copy 133 = .ok (.iaload, 1) := by decide +kernel
theorem dX3_copy_134 : decode cX3_copy 134 = .ok (.iastore, 1) := by decide +kernel
theorem dX3_copy_135 : decode cX3_copy 135 = .ok (.iinc 6 1, 3) := by decide +kernel
theorem dX3_copy_138 : decode cX3_copy 138 = .ok (.goto (-31), 3) := by decide +kernel
theorem dX3_copy_141 : decode cX3_copy 141 = .ok (.iconst 0, 1) := by decide +kernel
theorem dX3_copy_142 : decode cX3_copy 142 = .ok (.istore 6, 2) := by decide +kernel
theorem dX3_copy_144 : decode cX3_copy 144 = .ok (.iload 6, 2) := by decide +kernel
theorem dX3_copy_146 : decode cX3_copy 146 = .ok (.iload 5, 2) := by decide +kernel
theorem dX3_copy_148 : decode cX3_copy 148 = .ok (.if_icmp .ge 31, 3) := by decide +kernel
theorem dX3_copy_151 : decode cX3_copy 151 = .ok (.aload_n 0, 1) := by decide +kernel
theorem dX3_copy_152 : decode cX3_copy 152 = .ok (.getfield 49, 3) := by decide +kernel
theorem dX3_copy_155 : decode cX3_copy 155 = .ok (.bipush 60, 2) := by decide +kernel
theorem dX3_copy_157 : decode cX3_copy 157 = .ok (.iload_n 3, 1) := by decide +kernel
theorem dX3_copy_158 : decode cX3_copy 158 = .ok (.imul, 1) := by decide +kernel
theorem dX3_copy_159 : decode cX3_copy 159 = .ok (.iload 4, 2) := by decide +kernel
theorem dX3_copy_161 : decode cX3_copy 161 = .ok (.iadd, 1) := by decide +kernel
theorem dX3_copy_162 : decode cX3_copy 162 = .ok (.iload 6, 2) := by decide +kernel
theorem dX3_copy_164 : decode cX3_copy 164 = .ok (.iadd, 1) := by decide +kernel
theorem dX3_copy_165 : decode cX3_copy 165 = .ok (.aload_n 0, 1) := by decide +kernel
theorem dX3_copy_166 : decode cX3_copy 166 = .ok (.getfield 52, 3) := by decide +kernel
theorem dX3_copy_169 : decode cX3_copy 169 = .ok (.iload 6, 2) := by decide +kernel
theorem dX3_copy_171 : decode cX3_copy 171 = .ok (.iaload, 1) := by decide +kernel
theorem dX3_copy_172 : decode cX3_copy 172 = .ok (.iastore, 1) := by decide +kernel
theorem dX3_copy_173 : decode cX3_copy 173 = .ok (.iinc 6 1, 3) := by decide +kernel
theorem dX3_copy_176 : decode cX3_copy 176 = .ok (.goto (-32), 3) := by decide +kernel
theorem dX3_copy_179 : decode cX3_copy 179 = .ok (.aload_n 0, 1) := by decide +kernel
theorem dX3_copy_180 : decode cX3_copy 180 = .ok (.iload 5, 2) := by decide +kernel
theorem dX3_copy_182 : decode cX3_copy 182 = .ok (.invokevirtual 102, 3) := by decide +kernel
theorem dX3_copy_185 : decode cX3_copy 185 = .ok (.ireturn, 1) := by decide +kernel
theorem dX3_traced_0 : decode cX3_traced 0 = .ok (.aload_n 0, 1) := by decide +kernel
theorem dX3_traced_1 : decode cX3_traced 1 = .ok (.bipush 31, 2) := by decide +kernel
theorem dX3_traced_3 : decode cX3_traced 3 = .ok (.aload_n 0, 1) := by decide +kernel
theorem dX3_traced_4 : decode cX3_traced 4 = .ok (.getfield 230, 3) := by decide +kernel
theorem dX3_traced_7 : decode cX3_traced 7 = .ok (.imul, 1) := by decide +kernel
theorem dX3_traced_8 : decode cX3_traced 8 = .ok (.iload_n 1, 1) := by decide +kernel
theorem dX3_traced_9 : decode cX3_traced 9 = .ok (.iadd, 1) := by decide +kernel
theorem dX3_traced_10 : decode cX3_traced 10 = .ok (.putfield 230, 3) := by decide +kernel
theorem dX3_traced_13 : decode cX3_traced 13 = .ok (.return_, 1) := by decide +kernel
set_option maxRecDepth 20000 in
theorem ggX3_tell_X3_noChair : GoodIn wsX3_tell wsX3_noChair := goodIn_r _ [7, 8, 9, 10, 6, 11, 17, 18, 19, 20, 21, 22, 23, 24, 25, 26, 27, 28, 29, 30, 31, 32, 33, 34, 35, 36, 37, 38, 39] (by decide +kernel) (by decide +kernel)
set_option maxRecDepth 20000 in
theorem gX3_tell_X3_noChair : GoodIn wsX3_tell (wsV RX3 129 RX3 yX3_noChair wsX3_noChair) := goodIn_app (goodIn_of _ (by decide +kernel)) ggX3_tell_X3_noChair
set_option maxRecDepth 20000 in
theorem ggX3_tell_X3_traced : GoodIn wsX3_tell wsX3_traced := goodIn_r _ [15, 16, 17, 18, 19, 20, 21, 22, 23, 24, 25, 26, 27, 28, 29, 30, 31, 32, 33, 34, 35, 36, 37, 38, 39] (by decide +kernel) (by decide +kernel)
set_option maxRecDepth 20000 in
theorem gX3_tell_X3_traced : GoodIn wsX3_tell (wsV RX3 233 RX3 yX3_traced wsX3_traced) := goodIn_app (goodIn_of _ (by decide +kernel)) ggX3_tell_X3_traced
theorem dX3_tell_0 : decode cX3_tell 0 = .ok (.aload_n 0, 1) := by decide +kernel
theorem dX3_tell_1 : decode cX3_tell 1 = .ok (.iload_n 1, 1) := by decide +kernel
theorem dX3_tell_2 : decode cX3_tell 2 = .ok (.invokevirtual 129, 3) := by decide +kernel
theorem dX3_tell_5 : decode cX3_tell 5 = .ok (.ifCond .eq 5, 3) := by decide +kernel
theorem dX3_tell_8 : decode cX3_tell 8 = .ok (.iconst (-1), 1) := by decide +kernel
theorem dX3_tell_9 : decode cX3_tell 9 = .ok (.ireturn, 1) := by decide +kernel
theorem dX3_tell_10 : decode cX3_tell 10 = .ok (.aload_n 0, 1) := by decide +kernel
theorem dX3_tell_11 : decode cX3_tell 11 = .ok (.getfield 7, 3) := by decide +kernel
theorem dX3_tell_14 : decode cX3_tell 14 = .ok (.iload_n 1, 1) := by decide +kernel
theorem dX3_tell_15 : decode cX3_tell 15 = .ok (.iaload, 1) := by decide +kernel
theorem dX3_tell_16 : decode cX3_tell 16 = .ok (.istore_n 2, 1) := by decide +kernel
theorem dX3_tell_17 : decode cX3_tell 17 = .ok (.iload_n 2, 1) := by decide +kernel
theorem dX3_tell_18 : decode cX3_tell 18 = .ok (.iconst 2, 1) := by decide +kernel
theorem dX3_tell_19 : decode cX3_tell 19 = .ok (.if_icmp .ne 8, 3) := by decide +kernel
theorem dX3_tell_22 : decode cX3_tell 22 = .ok (.aload_n 0, 1) := by decide +kernel
theorem dX3_tell_23 : decode cX3_tell 23 = .ok (.iconst 3, 1) := by decide +kernel
theorem dX3_tell_24 : decode cX3_tell 24 = .ok (.invokevirtual 233, 3) := by decide +kernel
theorem dX3_tell_27 : decode cX3_tell 27 = .ok (.iload_n 2, 1) := by decide +kernel
theorem dX3_tell_28 : decode cX3_tell 28 = .ok (.ifCond .le 8, 3) := by decide +kernel
theorem dX3_tell_31 : decode cX3_tell 31 = .ok (.aload_n 0, 1) := by decide +kernel
theorem dX3_tell_32 : decode cX3_tell 32 = .ok (.iconst 2, 1) := by decide +kernel
theorem dX3_tell_33 : decode cX3_tell 33 = .ok (.invokevirtual 233, 3) := by decide +kernel
theorem dX3_tell_36 : decode cX3_tell 36 = .ok (.aload_n 0, 1) := by decide +kernel
theorem dX3_tell_37 : decode cX3_tell 37 = .ok (.iconst 1, 1) := by decide +kernel
theorem dX3_tell_38 : decode cX3_tell 38 = .ok (.invokevirtual 233, 3) := by decide +kernel
theorem dX3_tell_41 : decode cX3_tell 41 = .ok (.iload_n 2, 1) := by decide +kernel
theorem dX3_tell_42 : decode cX3_tell 42 = .ok (.iconst 2, 1) := by decide +kernel
theorem dX3_tell_43 : decode cX3_tell 43 = .ok (.if_icmp .ne 8, 3) := by decide +kernel
theorem dX3_tell_46 : decode cX3_tell 46 = .ok (.aload_n 0, 1) := by decide +kernel
theorem dX3_tell_47 : decode cX3_tell 47 = .ok (.iconst 1, 1) := by decide +kernel
theorem dX3_tell_48 : decode cX3_tell 48 = .ok (.invokevirtual 233, 3) := by decide +kernel
theorem dX3_tell_51 : decode cX3_tell 51 = .ok (.aload_n 0, 1) := by decide +kernel
theorem dX3_tell_52 : decode cX3_tell 52 = .ok (.getfield 16, 3) := by decide +kernel
theorem dX3_tell_55 : decode cX3_tell 55 = .ok (.iload_n 1, 1) := by decide +kernel
theorem dX3_tell_56 : decode cX3_tell 56 = .ok (.iaload, 1) := by decide +kernel
theorem dX3_tell_57 : decode cX3_tell 57 = .ok (.istore_n 3, 1) := by decide +kernel
theorem dX3_tell_58 : decode cX3_tell 58 = .ok (.iload_n 2, 1) := by decide +kernel
theorem dX3_tell_59 : decode cX3_tell 59 = .ok (.ifCond .ne 7, 3) := by decide +kernel
theorem dX3_tell_62 : decode cX3_tell 62 = .ok (.iload_n 3, 1) := by decide +kernel
theorem dX3_tell_63 : decode cX3_tell 63 = .ok (.goto 21, 3) := by decide +kernel
theorem dX3_tell_66 : decode cX3_tell 66 = .ok (.iload_n 2, 1) := by decide +kernel
theorem dX3_tell_67 : decode cX3_tell 67 = .ok (.iconst 1, 1) := by decide +kernel
theorem dX3_tell_68 : decode cX3_tell 68 = .ok (.if_icmp .ne 10, 3) := by decide +kernel
theorem dX3_tell_71 : decode cX3_tell 71 = .ok (.iload_n 3, 1) := by decide +kernel
theorem dX3_tell_72 : decode cX3_tell 72 = .ok (.bipush 100, 2) := by decide +kernel
theorem dX3_tell_74 : decode cX3_tell 74 = .ok (.iadd, 1) := by decide +kernel
theorem dX3_tell_75 : decode cX3_tell 75 = .ok (.goto 9, 3) := by decide +kernel
theorem dX3_tell_78 : decode cX3_tell 78 = .ok (.iconst 2, 1) := by decide +kernel
theorem dX3_tell_79 : decode cX3_tell 79 = .ok (.iload_n 3, 1) := by decide +kernel
theorem dX3_tell_80 : decode cX3_tell 80 = .ok (.imul, 1) := by decide +kernel
theorem dX3_tell_81 : decode cX3_tell 81 = .ok (.bipush 100, 2) := by decide +kernel
theorem dX3_tell_83 : decode cX3_tell 83 = .ok (.iadd, 1) := by decide +kernel
theorem dX3_tell_84 : decode cX3_tell 84 = .ok (.ireturn, 1) := by decide +kernel
set_option maxRecDepth 20000 in
theorem ggX3_chalk_X3_noChair : GoodIn wsX3_chalk wsX3_noChair := goodIn_r _ [6, 7, 8, 9, 5, 10, 16, 17, 18, 19, 20, 21, 22, 23, 24, 25, 26, 27, 28, 29, 30, 31, 32, 33, 34, 35, 36, 37, 38] (by decide +kernel) (by decide +kernel)
set_option maxRecDepth 20000 in
theorem gX3_chalk_X3_noChair : GoodIn wsX3_chalk (wsV RX3 129 RX3 yX3_noChair wsX3_noChair) := goodIn_app (goodIn_of _ (by decide +kernel)) ggX3_chalk_X3_noChair
set_option maxRecDepth 20000 in
theorem ggX3_chalk_X3_traced : GoodIn wsX3_chalk wsX3_traced := goodIn_r _ [14, 15, 16, 17, 18, 19, 20, 21, 22, 23, 24, 25, 26, 27, 28, 29, 30, 31, 32, 33, 34, 35, 36, 37, 38] (by decide +kernel) (by decide +kernel)
set_option maxRecDepth 20000 in
theorem gX3_chalk_X3_traced : GoodIn wsX3_chalk (wsV RX3 233 RX3 yX3_traced wsX3_traced) := goodIn_app (goodIn_of _ (by decide +kernel)) ggX3_chalk_X3_traced
theorem dX3_chalk_0 : decode cX3_chalk 0 = .ok (.aload_n 0, 1) := by decide +kernel
theorem dX3_chalk_1 : decode cX3_chalk 1 = .ok (.iload_n 1, 1) := by decide +kernel
theorem dX3_chalk_2 : decode cX3_chalk 2 = .ok (.invokevirtual 129, 3) := by decide +kernel
theorem dX3_chalk_5 : decode cX3_chalk 5 = .ok (.ifCond .eq 5, 3) := by decide +kernel
theorem dX3_chalk_8 : decode cX3_chalk 8 = .ok (.iconst (-1), 1) := by decide +kernel
theorem dX3_chalk_9 : decode cX3_chalk 9 = .ok (.ireturn, 1) := by decide +kernel
theorem dX3_chalk_10 : decode cX3_chalk 10 = .ok (.aload_n 0, 1) := by decide +kernel
theorem dX3_chalk_11 : decode cX3_chalk 11 = .ok (.aload_n 0, 1) := by decide +kernel
theorem dX3_chalk_12 : decode cX3_chalk 12 = .ok (.getfield 7, 3) := by decide +kernel
theorem dX3_chalk_15 : decode cX3_chalk 15 = .ok (.iload_n 1, 1) := by decide +kernel
theorem dX3_chalk_16 : decode cX3_chalk 16 = .ok (.iaload, 1) := by decide +kernel
theorem dX3_chalk_17 : decode cX3_chalk 17 = .ok (.iconst 2, 1) := by decide +kernel
theorem dX3_chalk_18 : decode cX3_chalk 18 = .ok (.if_icmp .ne 7, 3) := by decide +kernel
theorem dX3_chalk_21 : decode cX3_chalk 21 = .ok (.iconst 5, 1) := by decide +kernel
theorem dX3_chalk_22 : decode cX3_chalk 22 = .ok (.goto 4, 3) := by decide +kernel
theorem dX3_chalk_25 : decode cX3_chalk 25 = .ok (.iconst 4, 1) := by decide +kernel
theorem dX3_chalk_26 : decode cX3_chalk 26 = .ok (.invokevirtual 233, 3) := by decide +kernel
theorem dX3_chalk_29 : decode cX3_chalk 29 = .ok (.aload_n 0, 1) := by decide +kernel
theorem dX3_chalk_30 : decode cX3_chalk 30 = .ok (.getfield 7, 3) := by decide +kernel
theorem dX3_chalk_33 : decode cX3_chalk 33 = .ok (.iload_n 1, 1) := by decide +kernel
theorem dX3_chalk_34 : decode cX3_chalk 34 = .ok (.iaload, 1) := by decide +kernel
theorem dX3_chalk_35 : decode cX3_chalk 35 = .ok (.iconst 2, 1) := by decide +kernel
theorem dX3_chalk_36 : decode cX3_chalk 36 = .ok (.if_icmp .ne 8, 3) := by decide +kernel
theorem dX3_chalk_39 : decode cX3_chalk 39 = .ok (.bipush 40, 2) := by decide +kernel
theorem dX3_chalk_41 : decode cX3_chalk 41 = .ok (.goto 4, 3) := by decide +kernel
theorem dX3_chalk_44 : decode cX3_chalk 44 = .ok (.iload_n 1, 1) := by decide +kernel
theorem dX3_chalk_45 : decode cX3_chalk 45 = .ok (.ireturn, 1) := by decide +kernel
set_option maxRecDepth 20000 in
theorem ggX3_as_X3_noChair : GoodIn wsX3_as wsX3_noChair := goodIn_r _ [7, 8, 9, 10, 6, 11, 21, 22, 23, 24, 25, 26, 27, 28, 29, 30, 31, 32, 33, 34, 35, 36, 37, 38, 39, 40, 41, 42, 43] (by decide +kernel) (by decide +kernel)
set_option maxRecDepth 20000 in
theorem gX3_as_X3_noChair : GoodIn wsX3_as (wsV RX3 129 RX3 yX3_noChair wsX3_noChair) := goodIn_app (goodIn_of _ (by decide +kernel)) ggX3_as_X3_noChair
set_option maxRecDepth 20000 in
theorem ggX3_as_X3_refused : GoodIn wsX3_as wsX3_refused := goodIn_r _ [15, 16, 21, 22, 23, 24, 25, 26, 27, 28, 29, 30, 31, 32, 33, 34, 35, 36, 37, 38, 39, 40, 41, 42, 43] (by decide +kernel) (by decide +kernel)
set_option maxRecDepth 20000 in
theorem gX3_as_X3_refused : GoodIn wsX3_as (wsV RX3 102 RX3 yX3_refused wsX3_refused) := goodIn_app (goodIn_of _ (by decide +kernel)) ggX3_as_X3_refused
set_option maxRecDepth 20000 in
theorem ggX3_as_X3_in : GoodIn wsX3_as wsX3_in := goodIn_r _ [11] (by decide +kernel) (by decide +kernel)
set_option maxRecDepth 20000 in
theorem gX3_as_X3_in : GoodIn wsX3_as (va_wsS RX3 68 yX3_in wsX3_in) := goodIn_app (goodIn_of _ (by decide +kernel)) ggX3_as_X3_in
set_option maxRecDepth 20000 in
theorem ggX3_as_X3_failed : GoodIn wsX3_as wsX3_failed := goodIn_r _ [20, 16, 21, 22, 23, 24, 25, 26, 27, 28, 29, 30, 31, 32, 33, 34, 35, 36, 37, 38, 39, 40, 41, 42, 43] (by decide +kernel) (by decide +kernel)
set_option maxRecDepth 20000 in
theorem gX3_as_X3_failed : GoodIn wsX3_as (wsV RX3 90 RX3 yX3_failed wsX3_failed) := goodIn_app (goodIn_of _ (by decide +kernel)) ggX3_as_X3_failed
theorem dX3_as_0 : decode cX3_as 0 = .ok (.aload_n 0, 1) := by decide +kernel
theorem dX3_as_1 : decode cX3_as 1 = .ok (.iload_n 1, 1) := by decide +kernel
theorem dX3_as_2 : decode cX3_as 2 = .ok (.invokevirtual 129, 3) := by decide +kernel
theorem dX3_as_5 : decode cX3_as 5 = .ok (.ifCond .eq 9, 3) := by decide +kernel
theorem dX3_as_8 : decode cX3_as 8 = .ok (.aload_n 0, 1) := by decide +kernel
theorem dX3_as_9 : decode cX3_as 9 = .ok (.iconst (-1), 1) := by decide +kernel
theorem dX3_as_10 : decode cX3_as 10 = .ok (.invokevirtual 102, 3) := by decide +kernel
theorem dX3_as_13 : decode cX3_as 13 = .ok (.ireturn, 1) := by decide +kernel
theorem dX3_as_14 : decode cX3_as 14 = .ok (.iload_n 2, 1) := by decide +kernel
theorem dX3_as_15 : decode cX3_as 15 = .ok (.i2l, 1) := by decide +kernel
theorem dX3_as_16 : decode cX3_as 16 = .ok (.lconst 0, 1) := by decide +kernel
theorem dX3_as_17 : decode cX3_as 17 = .ok (.ldc2_w 105, 3) := by decide +kernel
theorem dX3_as_20 : decode cX3_as 20 = .ok (.invokestatic 68, 3) := by decide +kernel
