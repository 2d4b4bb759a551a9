theorem dX0_init_0 : decode cX0_init 0 = .ok (.aload_n 0, 1) := by decide +kernel
theorem dX0_init_1 : decode cX0_init 1 = .ok (.invokespecial 3, 3) := by decide +kernel
theorem dX0_init_4 : decode cX0_init 4 = .ok (.aload_n 0, 1) := by decide +kernel
theorem dX0_init_5 : decode cX0_init 5 = .ok (.bipush 8, 2) := by decide +kernel
theorem dX0_init_7 : decode cX0_init 7 = .ok (.newarray .int, 2) := by decide +kernel
theorem dX0_init_9 : decode cX0_init 9 = .ok (.putfield 9, 3) := by decide +kernel
theorem dX0_init_12 : decode cX0_init 12 = .ok (.aload_n 0, 1) := by decide +kernel
theorem dX0_init_13 : decode cX0_init 13 = .ok (.bipush 8, 2) := by decide +kernel
theorem dX0_init_15 : decode cX0_init 15 = .ok (.newarray .int, 2) := by decide +kernel
theorem dX0_init_17 : decode cX0_init 17 = .ok (.putfield 15, 3) := by decide +kernel
theorem dX0_init_20 : decode cX0_init 20 = .ok (.aload_n 0, 1) := by decide +kernel
theorem dX0_init_21 : decode cX0_init 21 = .ok (.bipush 8, 2) := by decide +kernel
theorem dX0_init_23 : decode cX0_init 23 = .ok (.newarray .int, 2) := by decide +kernel
theorem dX0_init_25 : decode cX0_init 25 = .ok (.putfield 18, 3) := by decide +kernel
theorem dX0_init_28 : decode cX0_init 28 = .ok (.aload_n 0, 1) := by decide +kernel
theorem dX0_init_29 : decode cX0_init 29 = .ok (.bipush 8, 2) := by decide +kernel
theorem dX0_init_31 : decode cX0_init 31 = .ok (.newarray .int, 2) := by decide +kernel
theorem dX0_init_33 : decode cX0_init 33 = .ok (.putfield 21, 3) := by decide +kernel
theorem dX0_init_36 : decode cX0_init 36 = .ok (.aload_n 0, 1) := by decide +kernel
theorem dX0_init_37 : decode cX0_init 37 = .ok (.iconst 0, 1) := by decide +kernel
theorem dX0_init_38 : decode cX0_init 38 = .ok (.putfield 24, 3) := by decide +kernel
theorem dX0_init_41 : decode cX0_init 41 = .ok (.aload_n 0, 1) := by decide +kernel
theorem dX0_init_42 : decode cX0_init 42 = .ok (.iconst 0, 1) := by decide +kernel
theorem dX0_init_43 : decode cX0_init 43 = .ok (.putfield 28, 3) := by decide +kernel
theorem dX0_init_46 : decode cX0_init 46 = .ok (.return_, 1) := by decide +kernel
theorem dX0_has_0 : decode cX0_has 0 = .ok (.iload_n 1, 1) := by decide +kernel
theorem dX0_has_1 : decode cX0_has 1 = .ok (.ifCond .lt 15, 3) := by decide +kernel
theorem dX0_has_4 : decode cX0_has 4 = .ok (.iload_n 1, 1) := by decide +kernel
theorem dX0_has_5 : decode cX0_has 5 = .ok (.aload_n 0, 1) := by decide +kernel
theorem dX0_has_6 : decode cX0_has 6 = .ok (.getfield 24, 3) := by decide +kernel
theorem dX0_has_9 : decode cX0_has 9 = .ok (.if_icmp .ge 7, 3) := by decide +kernel
theorem dX0_has_12 : decode cX0_has 12 = .ok (.iconst 1, 1) := by decide +kernel
theorem dX0_has_13 : decode cX0_has 13 = .ok (.goto 4, 3) := by decide +kernel
theorem dX0_has_16 : decode cX0_has 16 = .ok (.iconst 0, 1) := by decide +kernel
theorem dX0_has_17 : decode cX0_has 17 = .ok (.ireturn, 1) := by decide +kernel
theorem dX0_isFolded_0 : decode cX0_isFolded 0 = .ok (.aload_n 0, 1) := by decide +kernel
theorem dX0_isFolded_1 : decode cX0_isFolded 1 = .ok (.getfield 28, 3) := by decide +kernel
theorem dX0_isFolded_4 : decode cX0_isFolded 4 = .ok (.iload_n 1, 1) := by decide +kernel
theorem dX0_isFolded_5 : decode cX0_isFolded 5 = .ok (.ishr, 1) := by decide +kernel
theorem dX0_isFolded_6 : decode cX0_isFolded 6 = .ok (.iconst 1, 1) := by decide +kernel
theorem dX0_isFolded_7 : decode cX0_isFolded 7 = .ok (.iand, 1) := by decide +kernel
theorem dX0_isFolded_8 : decode cX0_isFolded 8 = .ok (.ifCond .eq 7, 3) := by decide +kernel
theorem dX0_isFolded_11 : decode cX0_isFolded 11 = .ok (.iconst 1, 1) := by decide +kernel
theorem dX0_isFolded_12 : decode cX0_isFolded 12 = .ok (.goto 4, 3) := by decide +kernel
theorem dX0_isFolded_15 : decode cX0_isFolded 15 = .ok (.iconst 0, 1) := by decide +kernel
theorem dX0_isFolded_16 : decode cX0_isFolded 16 = .ok (.ireturn, 1) := by decide +kernel
theorem dX0_becomes_0 : decode cX0_becomes 0 = .ok (.aload_n 1, 1) := by decide +kernel
theorem dX0_becomes_1 : decode cX0_becomes 1 = .ok (.getfield 9, 3) := by decide +kernel
theorem dX0_becomes_4 : decode cX0_becomes 4 = .ok (.iconst 0, 1) := by decide +kernel
theorem dX0_becomes_5 : decode cX0_becomes 5 = .ok (.aload_n 0, 1) := by decide +kernel
theorem dX0_becomes_6 : decode cX0_becomes 6 = .ok (.getfield 9, 3) := by decide +kernel
theorem dX0_becomes_9 : decode cX0_becomes 9 = .ok (.iconst 0, 1) := by decide +kernel
theorem dX0_becomes_10 : decode cX0_becomes 10 = .ok (.bipush 8, 2) := by decide +kernel
theorem dX0_becomes_12 : decode cX0_becomes 12 = .ok (.invokestatic 31, 3) := by decide +kernel
theorem dX0_becomes_15 : decode cX0_becomes 15 = .ok (.aload_n 1, 1) := by decide +kernel
theorem dX0_becomes_16 : decode cX0_becomes 16 = .ok (.getfield 15, 3) := by decide +kernel
theorem dX0_becomes_19 : decode cX0_becomes 19 = .ok (.iconst 0, 1) := by decide +kernel
theorem dX0_becomes_20 : decode cX0_becomes 20 = .ok (.aload_n 0, 1) := by decide +kernel
theorem dX0_becomes_21 : decode cX0_becomes 21 = .ok (.getfield 15, 3) := by decide +kernel
theorem dX0_becomes_24 : decode cX0_becomes 24 = .ok (.iconst 0, 1) := by decide +kernel
theorem dX0_becomes_25 : decode cX0_becomes 25 = .ok (.bipush 8, 2) := by decide +kernel
theorem dX0_becomes_27 : decode cX0_becomes 27 = .ok (.invokestatic 31, 3) := by decide +kernel
theorem dX0_becomes_30 : decode cX0_becomes 30 = .ok (.aload_n 1, 1) := by decide +kernel
theorem dX0_becomes_31 : decode cX0_becomes 31 = .ok (.getfield 18, 3) := by decide +kernel
theorem dX0_becomes_34 : decode cX0_becomes 34 = .ok (.iconst 0, 1) := by decide +kernel
theorem dX0_becomes_35 : decode cX0_becomes 35 = .ok (.aload_n 0, 1) := by decide +kernel
theorem dX0_becomes_36 : decode cX0_becomes 36 = .ok (.getfield 18, 3) := by decide +kernel
theorem dX0_becomes_39 : decode cX0_becomes 39 = .ok (.iconst 0, 1) := by decide +kernel
theorem dX0_becomes_40 : decode cX0_becomes 40 = .ok (.bipush 8, 2) := by decide +kernel
theorem dX0_becomes_42 : decode cX0_becomes 42 = .ok (.invokestatic 31, 3) := by decide +kernel
theorem dX0_becomes_45 : decode cX0_becomes 45 = .ok (.aload_n 1, 1) := by decide +kernel
theorem dX0_becomes_46 : decode cX0_becomes 46 = .ok (.getfield 21, 3) := by decide +kernel
theorem dX0_becomes_49 : decode cX0_becomes 49 = .ok (.iconst 0, 1) := by decide +kernel
theorem dX0_becomes_50 : decode cX0_becomes 50 = .ok (.aload_n 0, 1) := by decide +kernel
theorem dX0_becomes_51 : decode cX0_becomes 51 = .ok (.getfield 21, 3) := by decide +kernel
theorem dX0_becomes_54 : decode cX0_becomes 54 = .ok (.iconst 0, 1) := by decide +kernel
theorem dX0_becomes_55 : decode cX0_becomes 55 = .ok (.bipush 8, 2) := by decide +kernel
theorem dX0_becomes_57 : decode cX0_becomes 57 = .ok (.invokestatic 31, 3) := by decide +kernel
theorem dX0_becomes_60 : decode cX0_becomes 60 = .ok (.aload_n 0, 1) := by decide +kernel
theorem dX0_becomes_61 : decode cX0_becomes 61 = .ok (.aload_n 1, 1) := by decide +kernel
theorem dX0_becomes_62 : decode cX0_becomes 62 = .ok (.getfield 24, 3) := by decide +kernel
theorem dX0_becomes_65 : decode cX0_becomes 65 = .ok (.putfield 24, 3) := by decide +kernel
theorem dX0_becomes_68 : decode cX0_becomes 68 = .ok (.aload_n 0, 1) := by decide +kernel
theorem dX0_becomes_69 : decode cX0_becomes 69 = .ok (.aload_n 1, 1) := by decide +kernel
theorem dX0_becomes_70 : decode cX0_becomes 70 = .ok (.getfield 28, 3) := by decide +kernel
theorem dX0_becomes_73 : decode cX0_becomes 73 = .ok (.putfield 28, 3) := by decide +kernel
theorem dX0_becomes_76 : decode cX0_becomes 76 = .ok (.return_, 1) := by decide +kernel
set_option maxRecDepth 20000 in
theorem ggX0_votesWhenOpen_X0_has : GoodIn wsX0_votesWhenOpen wsX0_has := goodIn_r _ [7, 8, 12, 13, 14, 15, 16, 17] (by decide +kernel) (by decide +kernel)
set_option maxRecDepth 20000 in
theorem gX0_votesWhenOpen_X0_has : GoodIn wsX0_votesWhenOpen (wsV RX0 37 RX0 yX0_has wsX0_has) := goodIn_app (goodIn_of _ (by decide +kernel)) ggX0_votesWhenOpen_X0_has
set_option maxRecDepth 20000 in
theorem ggX0_votesWhenOpen_X2_votesAs : GoodIn wsX0_votesWhenOpen wsX2_votesAs := goodIn_r _ [11] (by decide +kernel) (by decide +kernel)
set_option maxRecDepth 20000 in
theorem gX0_votesWhenOpen_X2_votesAs_n41 : GoodIn wsX0_votesWhenOpen (wsX2_votesAs) := ggX0_votesWhenOpen_X2_votesAs
theorem dX0_votesWhenOpen_0 : decode cX0_votesWhenOpen 0 = .ok (.aload_n 0, 1) := by decide +kernel
theorem dX0_votesWhenOpen_1 : decode cX0_votesWhenOpen 1 = .ok (.iload_n 1, 1) := by decide +kernel
theorem dX0_votesWhenOpen_2 : decode cX0_votesWhenOpen 2 = .ok (.invokevirtual 37, 3) := by decide +kernel
theorem dX0_votesWhenOpen_5 : decode cX0_votesWhenOpen 5 = .ok (.ifCond .eq 21, 3) := by decide +kernel
theorem dX0_votesWhenOpen_8 : decode cX0_votesWhenOpen 8 = .ok (.aload_n 0, 1) := by decide +kernel
theorem dX0_votesWhenOpen_9 : decode cX0_votesWhenOpen 9 = .ok (.getfield 9, 3) := by decide +kernel
theorem dX0_votesWhenOpen_12 : decode cX0_votesWhenOpen 12 = .ok (.iload_n 1, 1) := by decide +kernel
theorem dX0_votesWhenOpen_13 : decode cX0_votesWhenOpen 13 = .ok (.iaload, 1) := by decide +kernel
theorem dX0_votesWhenOpen_14 : decode cX0_votesWhenOpen 14 = .ok (.aload_n 0, 1) := by decide +kernel
theorem dX0_votesWhenOpen_15 : decode cX0_votesWhenOpen 15 = .ok (.getfield 18, 3) := by decide +kernel
theorem dX0_votesWhenOpen_18 : decode cX0_votesWhenOpen 18 = .ok (.iload_n 1, 1) := by decide +kernel
theorem dX0_votesWhenOpen_19 : decode cX0_votesWhenOpen 19 = .ok (.iaload, 1) := by decide +kernel
theorem dX0_votesWhenOpen_20 : decode cX0_votesWhenOpen 20 = .ok (.invokestatic 41, 3) := by decide +kernel
theorem dX0_votesWhenOpen_23 : decode cX0_votesWhenOpen 23 = .ok (.goto 4, 3) := by decide +kernel
theorem dX0_votesWhenOpen_26 : decode cX0_votesWhenOpen 26 = .ok (.iconst 0, 1) := by decide +kernel
theorem dX0_votesWhenOpen_27 : decode cX0_votesWhenOpen 27 = .ok (.ireturn, 1) := by decide +kernel
set_option maxRecDepth 20000 in
theorem ggX0_votes_X0_isFolded : GoodIn wsX0_votes wsX0_isFolded := goodIn_r _ [5, 6, 21, 22, 23, 24, 25, 26] (by decide +kernel) (by decide +kernel)
set_option maxRecDepth 20000 in
theorem gX0_votes_X0_isFolded : GoodIn wsX0_votes (wsV RX0 45 RX0 yX0_isFolded wsX0_isFolded) := goodIn_app (goodIn_of _ (by decide +kernel)) ggX0_votes_X0_isFolded
set_option maxRecDepth 20000 in
theorem ggX0_votes_X0_votesWhenOpen : GoodIn wsX0_votes wsX0_votesWhenOpen := goodIn_r _ [10, 11, 12, 13, 14, 15, 4, 16, 17, 18, 19, 20, 21, 22, 23, 24, 25, 26] (by decide +kernel) (by decide +kernel)
set_option maxRecDepth 20000 in
theorem gX0_votes_X0_votesWhenOpen : GoodIn wsX0_votes (wsV RX0 48 RX0 yX0_votesWhenOpen wsX0_votesWhenOpen) := goodIn_app (goodIn_of _ (by decide +kernel)) ggX0_votes_X0_votesWhenOpen
theorem dX0_votes_0 : decode cX0_votes 0 = .ok (.aload_n 0, 1) := by decide +kernel
theorem dX0_votes_1 : decode cX0_votes 1 = .ok (.iload_n 1, 1) := by decide +kernel
theorem dX0_votes_2 : decode cX0_votes 2 = .ok (.invokevirtual 45, 3) := by decide +kernel
theorem dX0_votes_5 : decode cX0_votes 5 = .ok (.ifCond .eq 7, 3) := by decide +kernel
theorem dX0_votes_8 : decode cX0_votes 8 = .ok (.iconst 0, 1) := by decide +kernel
theorem dX0_votes_9 : decode cX0_votes 9 = .ok (.goto 8, 3) := by decide +kernel
theorem dX0_votes_12 : decode cX0_votes 12 = .ok (.aload_n 0, 1) := by decide +kernel
theorem dX0_votes_13 : decode cX0_votes 13 = .ok (.iload_n 1, 1) := by decide +kernel
theorem dX0_votes_14 : decode cX0_votes 14 = .ok (.invokevirtual 48, 3) := by decide +kernel
theorem dX0_votes_17 : decode cX0_votes 17 = .ok (.ireturn, 1) := by decide +kernel
set_option maxRecDepth 20000 in
theorem ggX0_meetsNext_X0_has : GoodIn wsX0_meetsNext wsX0_has := goodIn_r _ [6, 7, 13, 14, 15, 16, 17, 18] (by decide +kernel) (by decide +kernel)
set_option maxRecDepth 20000 in
theorem gX0_meetsNext_X0_has : GoodIn wsX0_meetsNext (wsV RX0 37 RX0 yX0_has wsX0_has) := goodIn_app (goodIn_of _ (by decide +kernel)) ggX0_meetsNext_X0_has
set_option maxRecDepth 20000 in
theorem ggX0_meetsNext_X0_isFolded : GoodIn wsX0_meetsNext wsX0_isFolded := goodIn_r _ [11, 12, 13, 14, 15, 16, 17, 18] (by decide +kernel) (by decide +kernel)
set_option maxRecDepth 20000 in
theorem gX0_meetsNext_X0_isFolded : GoodIn wsX0_meetsNext (wsV RX0 45 RX0 yX0_isFolded wsX0_isFolded) := goodIn_app (goodIn_of _ (by decide +kernel)) ggX0_meetsNext_X0_isFolded
theorem dX0_meetsNext_0 : decode cX0_meetsNext 0 = .ok (.aload_n 0, 1) := by decide +kernel
theorem dX0_meetsNext_1 : decode cX0_meetsNext 1 = .ok (.iload_n 1, 1) := by decide +kernel
theorem dX0_meetsNext_2 : decode cX0_meetsNext 2 = .ok (.invokevirtual 37, 3) := by decide +kernel
theorem dX0_meetsNext_5 : decode cX0_meetsNext 5 = .ok (.ifCond .eq 57, 3) := by decide +kernel
theorem dX0_meetsNext_8 : decode cX0_meetsNext 8 = .ok (.aload_n 0, 1) := by decide +kernel
theorem dX0_meetsNext_9 : decode cX0_meetsNext 9 = .ok (.iload_n 1, 1) := by decide +kernel
theorem dX0_meetsNext_10 : decode cX0_meetsNext 10 = .ok (.iconst 1, 1) := by decide +kernel
theorem dX0_meetsNext_11 : decode cX0_meetsNext 11 = .ok (.iadd, 1) := by decide +kernel
theorem dX0_meetsNext_12 : decode cX0_meetsNext 12 = .ok (.invokevirtual 37, 3) := by decide +kernel
theorem dX0_meetsNext_15 : decode cX0_meetsNext 15 = .ok (.ifCond .eq 47, 3) := by decide +kernel
theorem dX0_meetsNext_18 : decode cX0_meetsNext 18 = .ok (.aload_n 0, 1) := by decide +kernel
theorem dX0_meetsNext_19 : decode cX0_meetsNext 19 = .ok (.iload_n 1, 1) := by decide +kernel
theorem dX0_meetsNext_20 : decode cX0_meetsNext 20 = .ok (.invokevirtual 45, 3) := by decide +kernel
theorem dX0_meetsNext_23 : decode cX0_meetsNext 23 = .ok (.ifCond .ne 39, 3) := by decide +kernel
theorem dX0_meetsNext_26 : decode cX0_meetsNext 26 = .ok (.aload_n 0, 1) := by decide +kernel
theorem dX0_meetsNext_27 : decode cX0_meetsNext 27 = .ok (.iload_n 1, 1) := by decide +kernel
theorem dX0_meetsNext_28 : decode cX0_meetsNext 28 = .ok (.iconst 1, 1) := by decide +kernel
theorem dX0_meetsNext_29 : decode cX0_meetsNext 29 = .ok (.iadd, 1) := by decide +kernel
theorem dX0_meetsNext_30 : decode cX0_meetsNext 30 = .ok (.invokevirtual 45, 3) := by decide +kernel
theorem dX0_meetsNext_33 : decode cX0_meetsNext 33 = .ok (.ifCond .ne 29, 3) := by decide +kernel
theorem dX0_meetsNext_36 : decode cX0_meetsNext 36 = .ok (.aload_n 0, 1) := by decide +kernel
theorem dX0_meetsNext_37 : decode cX0_meetsNext 37 = .ok (.getfield 21, 3) := by decide +kernel
theorem dX0_meetsNext_40 : decode cX0_meetsNext 40 = .ok (.iload_n 1, 1) := by decide +kernel
theorem dX0_meetsNext_41 : decode cX0_meetsNext 41 = .ok (.iaload, 1) := by decide +kernel
theorem dX0_meetsNext_42 : decode cX0_meetsNext 42 = .ok (.iconst 1, 1) := by decide +kernel
theorem dX0_meetsNext_43 : decode cX0_meetsNext 43 = .ok (.if_icmp .ne 19, 3) := by decide +kernel
theorem dX0_meetsNext_46 : decode cX0_meetsNext 46 = .ok (.aload_n 0, 1) := by decide +kernel
theorem dX0_meetsNext_47 : decode cX0_meetsNext 47 = .ok (.getfield 21, 3) := by decide +kernel
theorem dX0_meetsNext_50 : decode cX0_meetsNext 50 = .ok (.iload_n 1, 1) := by decide +kernel
theorem dX0_meetsNext_51 : decode cX0_meetsNext 51 = .ok (.iconst 1, 1) := by decide +kernel
theorem dX0_meetsNext_52 : decode cX0_meetsNext 52 = .ok (.iadd, 1) := by decide +kernel
theorem dX0_meetsNext_53 : decode cX0_meetsNext 53 = .ok (.iaload, 1) := by decide +kernel
theorem dX0_meetsNext_54 : decode cX0_meetsNext 54 = .ok (.iconst 3, 1) := by decide +kernel
theorem dX0_meetsNext_55 : decode cX0_meetsNext 55 = .ok (.if_icmp .ne 7, 3) := by decide +kernel
theorem dX0_meetsNext_58 : decode cX0_meetsNext 58 = .ok (.iconst 1, 1) := by decide +kernel
theorem dX0_meetsNext_59 : decode cX0_meetsNext 59 = .ok (.goto 4, 3) := by decide +kernel
theorem dX0_meetsNext_62 : decode cX0_meetsNext 62 = .ok (.iconst 0, 1) := by decide +kernel
theorem dX0_meetsNext_63 : decode cX0_meetsNext 63 = .ok (.ireturn, 1) := by decide +kernel
set_option maxRecDepth 20000 in
theorem ggX0_side_X0_has : GoodIn wsX0_side wsX0_has := goodIn_r _ [7, 8, 18, 19, 20, 21, 22, 23] (by decide +kernel) (by decide +kernel)
set_option maxRecDepth 20000 in
theorem gX0_side_X0_has : GoodIn wsX0_side (wsV RX0 37 RX0 yX0_has wsX0_has) := goodIn_app (goodIn_of _ (by decide +kernel)) ggX0_side_X0_has
set_option maxRecDepth 20000 in
theorem ggX0_side_X0_isFolded : GoodIn wsX0_side wsX0_isFolded := goodIn_r _ [12, 13, 18, 19, 20, 21, 22, 23] (by decide +kernel) (by decide +kernel)
set_option maxRecDepth 20000 in
theorem gX0_side_X0_isFolded : GoodIn wsX0_side (wsV RX0 45 RX0 yX0_isFolded wsX0_isFolded) := goodIn_app (goodIn_of _ (by decide +kernel)) ggX0_side_X0_isFolded
set_option maxRecDepth 20000 in
theorem ggX0_side_X0_meetsNext : GoodIn wsX0_side wsX0_meetsNext := goodIn_r _ [17, 2, 3, 4, 5, 6, 7, 8, 9, 10, 11, 12, 13, 18, 19, 20, 21, 22, 23] (by decide +kernel) (by decide +kernel)
set_option maxRecDepth 20000 in
theorem gX0_side_X0_meetsNext : GoodIn wsX0_side (wsV RX0 52 RX0 yX0_meetsNext wsX0_meetsNext) := goodIn_app (goodIn_of _ (by decide +kernel)) ggX0_side_X0_meetsNext
theorem dX0_side_0 : decode cX0_side 0 = .ok (.aload_n 0, 1) := by decide +kernel
theorem dX0_side_1 : decode cX0_side 1 = .ok (.iload_n 1, 1) := by decide +kernel
theorem dX0_side_2 : decode cX0_side 2 = .ok (.invokevirtual 37, 3) := by decide +kernel
theorem dX0_side_5 : decode cX0_side 5 = .ok (.ifCond .eq 11, 3) := by decide +kernel
theorem dX0_side_8 : decode cX0_side 8 = .ok (.aload_n 0, 1) := by decide +kernel
theorem dX0_side_9 : decode cX0_side 9 = .ok (.iload_n 1, 1) := by decide +kernel
theorem dX0_side_10 : decode cX0_side 10 = .ok (.invokevirtual 45, 3) := by decide +kernel
theorem dX0_side_13 : decode cX0_side 13 = .ok (.ifCond .eq 5, 3) := by decide +kernel
theorem dX0_side_16 : decode cX0_side 16 = .ok (.iconst 0, 1) := by decide +kernel
theorem dX0_side_17 : decode cX0_side 17 = .ok (.ireturn, 1) := by decide +kernel
theorem dX0_side_18 : decode cX0_side 18 = .ok (.aload_n 0, 1) := by decide +kernel
theorem dX0_side_19 : decode cX0_side 19 = .ok (.iload_n 1, 1) := by decide +kernel
theorem dX0_side_20 : decode cX0_side 20 = .ok (.invokevirtual 52, 3) := by decide +kernel
theorem dX0_side_23 : decode cX0_side 23 = .ok (.ifCond .eq 26, 3) := by decide +kernel
theorem dX0_side_26 : decode cX0_side 26 = .ok (.aload_n 0, 1) := by decide +kernel
theorem dX0_side_27 : decode cX0_side 27 = .ok (.getfield 15, 3) := by decide +kernel
theorem dX0_side_30 : decode cX0_side 30 = .ok (.iload_n 1, 1) := by decide +kernel
theorem dX0_side_31 : decode cX0_side 31 = .ok (.iaload, 1) := by decide +kernel
theorem dX0_side_32 : decode cX0_side 32 = .ok (.aload_n 0, 1) := by decide +kernel
theorem dX0_side_33 : decode cX0_side 33 = .ok (.getfield 15, 3) := by decide +kernel
theorem dX0_side_36 : decode cX0_side 36 = .ok (.iload_n 1, 1) := by decide +kernel
theorem dX0_side_37 : decode cX0_side 37 = .ok (.iconst 1, 1) := by decide +kernel
theorem dX0_side_38 : decode cX0_side 38 = .ok (.iadd, 1) := by decide +kernel
theorem dX0_side_39 : decode cX0_side 39 = .ok (.iaload, 1) := by decide +kernel
theorem dX0_side_40 : decode cX0_side 40 = .ok (.if_icmp .ne 7, 3) := by decide +kernel
theorem dX0_side_43 : decode cX0_side 43 = .ok (.iconst 1, 1) := by decide +kernel
theorem dX0_side_44 : decode cX0_side 44 = .ok (.goto 4, 3) := by decide +kernel
theorem dX0_side_47 : decode cX0_side 47 = .ok (.iconst 2, 1) := by decide +kernel
theorem dX0_side_48 : decode cX0_side 48 = .ok (.ireturn, 1) := by decide +kernel
theorem dX0_side_49 : decode cX0_side 49 = .ok (.aload_n 0, 1) := by decide +kernel
theorem dX0_side_50 : decode cX0_side 50 = .ok (.iload_n 1, 1) := by decide +kernel
theorem dX0_side_51 : decode cX0_side 51 = .ok (.iconst 1, 1) := by decide +kernel
theorem dX0_side_52 : decode cX0_side 52 = .ok (.isub, 1) := by decide +kernel
theorem dX0_side_53 : decode cX0_side 53 = .ok (.invokevirtual 52, 3) := by decide +kernel
theorem dX0_side_56 : decode cX0_side 56 = .ok (.ifCond .eq 26, 3) := by decide +kernel
theorem dX0_side_59 : decode cX0_side 59 = .ok (.aload_n 0, 1) := by decide +kernel
theorem dX0_side_60 : decode cX0_side 60 = .ok (.getfield 15, 3) := by decide +kernel
theorem dX0_side_63 : decode cX0_side 63 = .ok (.iload_n 1, 1) := by decide +kernel
theorem dX0_side_64 : decode cX0_side 64 = .ok (.iaload, 1) := by decide +kernel
theorem dX0_side_65 : decode cX0_side 65 = .ok (.aload_n 0, 1) := by decide +kernel
theorem dX0_side_66 : decode cX0_side 66 = .ok (.getfield 15, 3) := by decide +kernel
theorem dX0_side_69 : decode cX0_side 69 = .ok (.iload_n 1, 1) := by decide +kernel
theorem dX0_side_70 : decode cX0_side 70 = .ok (.iconst 1, 1) := by decide +kernel
theorem dX0_side_71 : decode cX0_side 71 = .ok (.isub, 1) := by decide +kernel
theorem dX0_side_72 : decode cX0_side 72 = .ok (.iaload, 1) := by decide +kernel
theorem dX0_side_73 : decode cX0_side 73 = .ok (.if_icmp .ne 7, 3) := by decide +kernel
theorem dX0_side_76 : decode cX0_side 76 = .ok (.iconst 1, 1) := by decide +kernel
theorem dX0_side_77 : decode cX0_side 77 = .ok (.goto 4, 3) := by decide +kernel
theorem dX0_side_80 : decode cX0_side 80 = .ok (.iconst 2, 1) := by decide +kernel
theorem dX0_side_81 : decode cX0_side 81 = .ok (.ireturn, 1) := by decide +kernel
theorem dX0_side_82 : decode cX0_side 82 = .ok (.aload_n 0, 1) := by decide +kernel
theorem dX0_side_83 : decode cX0_side 83 = .ok (.getfield 21, 3) := by decide +kernel
theorem dX0_side_86 : decode cX0_side 86 = .ok (.iload_n 1, 1) := by decide +kernel
theorem dX0_side_87 : decode cX0_side 87 = .ok (.iaload, 1) := by decide +kernel
theorem dX0_side_88 : decode cX0_side 88 = .ok (.lookupswitch 32 #[(0, 28), (2, 30)], 28) := by decide +kernel
theorem dX0_side_116 : decode cX0_side 116 = .ok (.iconst 1, 1) := by decide +kernel
theorem dX0_side_117 : decode cX0_side 117 = .ok (.ireturn, 1) := by decide +kernel
theorem dX0_side_118 : decode cX0_side 118 = .ok (.iconst 2, 1) := by decide +kernel
theorem dX0_side_119 : decode cX0_side 119 = .ok (.ireturn, 1) := by decide +kernel
theorem dX0_side_120 : decode cX0_side 120 = .ok (.iconst 0, 1) := by decide +kernel
theorem dX0_side_121 : decode cX0_side 121 = .ok (.ireturn, 1) := by decide +kernel
set_option maxRecDepth 20000 in
theorem ggX0_tilt_X0_side : GoodIn wsX0_tilt wsX0_side := goodIn_r _ [5, 6, 7, 8, 9, 10, 4, 11, 12, 13, 14, 15, 16, 17, 18, 19, 20, 21, 35, 36, 37, 38, 39, 40] (by decide +kernel) (by decide +kernel)
set_option maxRecDepth 20000 in
theorem gX0_tilt_X0_side : GoodIn wsX0_tilt (wsV RX0 55 RX0 yX0_side wsX0_side) := goodIn_app (goodIn_of _ (by decide +kernel)) ggX0_tilt_X0_side
set_option maxRecDepth 20000 in
theorem ggX0_tilt_X0_votes : GoodIn wsX0_tilt wsX0_votes := goodIn_r _ [25, 13, 14, 15, 4, 16, 17, 26, 27, 28, 29, 30, 31, 8, 9, 10, 11, 12, 32, 33, 34, 35, 36, 37, 38, 39, 40] (by decide +kernel) (by decide +kernel)
set_option maxRecDepth 20000 in
theorem gX0_tilt_X0_votes : GoodIn wsX0_tilt (wsV RX0 58 RX0 yX0_votes wsX0_votes) := goodIn_app (goodIn_of _ (by decide +kernel)) ggX0_tilt_X0_votes
theorem dX0_tilt_0 : decode cX0_tilt 0 = .ok (.aload_n 0, 1) := by decide +kernel
theorem dX0_tilt_1 : decode cX0_tilt 1 = .ok (.iload_n 1, 1) := by decide +kernel
theorem dX0_tilt_2 : decode cX0_tilt 2 = .ok (.invokevirtual 55, 3) := by decide +kernel
theorem dX0_tilt_5 : decode cX0_tilt 5 = .ok (.lookupswitch 40 #[(1, 27), (2, 33)], 27) := by decide +kernel
theorem dX0_tilt_32 : decode cX0_tilt 32 = .ok (.aload_n 0, 1) := by decide +kernel
theorem dX0_tilt_33 : decode cX0_tilt 33 = .ok (.iload_n 1, 1) := by decide +kernel
theorem dX0_tilt_34 : decode cX0_tilt 34 = .ok (.invokevirtual 58, 3) := by decide +kernel
theorem dX0_tilt_37 : decode cX0_tilt 37 = .ok (.ireturn, 1) := by decide +kernel
theorem dX0_tilt_38 : decode cX0_tilt 38 = .ok (.aload_n 0, 1) := by decide +kernel
theorem dX0_tilt_39 : decode cX0_tilt 39 = .ok (.iload_n 1, 1) := by decide +kernel
theorem dX0_tilt_40 : decode cX0_tilt 40 = .ok (.invokevirtual 58, 3) := by decide +kernel
theorem dX0_tilt_43 : decode cX0_tilt 43 = .ok (.ineg, 1) := by decide +kernel
theorem dX0_tilt_44 : decode cX0_tilt 44 = .ok (.ireturn, 1) := by decide +kernel
theorem dX0_tilt_45 : decode cX0_tilt 45 = .ok (.iconst 0, 1) := by decide +kernel
theorem dX0_tilt_46 : decode cX0_tilt 46 = .ok (.ireturn, 1) := by decide +kernel
set_option maxRecDepth 20000 in
theorem ggX0_isCarried_X0_tilt : GoodIn wsX0_isCarried wsX0_tilt := goodIn_r _ [6, 7, 8, 9, 5, 10, 11, 12, 13, 14, 15, 16, 1, 17, 18, 19, 20, 21, 22, 23, 24, 25, 26, 27, 28, 29, 30, 31, 32, 33, 34, 35, 36, 37, 38, 39, 40, 41, 42, 43, 44] (by decide +kernel) (by decide +kernel)
set_option maxRecDepth 20000 in
theorem gX0_isCarried_X0_tilt : GoodIn wsX0_isCarried (wsV RX0 61 RX0 yX0_tilt wsX0_tilt) := goodIn_app (goodIn_of _ (by decide +kernel)) ggX0_isCarried_X0_tilt
theorem dX0_isCarried_0 : decode cX0_isCarried 0 = .ok (.iconst 0, 1) := by decide +kernel
theorem dX0_isCarried_1 : decode cX0_isCarried 1 = .ok (.istore_n 1, 1) := by decide +kernel
theorem dX0_isCarried_2 : decode cX0_isCarried 2 = .ok (.iconst 0, 1) := by decide +kernel
theorem dX0_isCarried_3 : decode cX0_isCarried 3 = .ok (.istore_n 2, 1) := by decide +kernel
theorem dX0_isCarried_4 : decode cX0_isCarried 4 = .ok (.iload_n 2, 1) := by decide +kernel
theorem dX0_isCarried_5 : decode cX0_isCarried 5 = .ok (.aload_n 0, 1) := by decide +kernel
theorem dX0_isCarried_6 : decode cX0_isCarried 6 = .ok (.getfield 24, 3) := by decide +kernel
theorem dX0_isCarried_9 : decode cX0_isCarried 9 = .ok (.if_icmp .ge 17, 3) := by decide +kernel
theorem dX0_isCarried_12 : decode cX0_isCarried 12 = .ok (.iload_n 1, 1) := by decide +kernel
theorem dX0_isCarried_13 : decode cX0_isCarried 13 = .ok (.aload_n 0, 1) := by decide +kernel
theorem dX0_isCarried_14 : decode cX0_isCarried 14 = .ok (.iload_n 2, 1) := by decide +kernel
theorem dX0_isCarried_15 : decode cX0_isCarried 15 = .ok (.invokevirtual 61, 3) := by decide +kernel
theorem dX0_isCarried_18 : decode cX0_isCarried 18 = .ok (.iadd, 1) := by decide +kernel
theorem dX0_isCarried_19 : decode cX0_isCarried 19 = .ok (.istore_n 1, 1) := by decide +kernel
theorem dX0_isCarried_20 : decode cX0_isCarried 20 = .ok (.iinc 2 1, 3) := by decide +kernel
theorem dX0_isCarried_23 : decode cX0_isCarried 23 = .ok (.goto (-19), 3) := by decide +kernel
theorem dX0_isCarried_26 : decode cX0_isCarried 26 = .ok (.iload_n 1, 1) := by decide +kernel
theorem dX0_isCarried_27 : decode cX0_isCarried 27 = .ok (.ifCond .le 7, 3) := by decide +kernel
theorem dX0_isCarried_30 : decode cX0_isCarried 30 = .ok (.iconst 1, 1) := by decide +kernel
theorem dX0_isCarried_31 : decode cX0_isCarried 31 = .ok (.goto 4, 3) := by decide +kernel
theorem dX0_isCarried_34 : decode cX0_isCarried 34 = .ok (.iconst 0, 1) := by decide +kernel
theorem dX0_isCarried_35 : decode cX0_isCarried 35 = .ok (.ireturn, 1) := by decide +kernel
set_option maxRecDepth 20000 in
theorem ggX0_chairsOf_X0_side : GoodIn wsX0_chairsOf wsX0_side := goodIn_r _ [6, 7, 8, 9, 10, 11, 5, 12, 1, 13, 14, 15, 16, 17, 18, 19, 20, 21, 22, 23, 24, 25, 26, 27] (by decide +kernel) (by decide +kernel)
set_option maxRecDepth 20000 in
theorem gX0_chairsOf_X0_side : GoodIn wsX0_chairsOf (wsV RX0 55 RX0 yX0_side wsX0_side) := goodIn_app (goodIn_of _ (by decide +kernel)) ggX0_chairsOf_X0_side
theorem dX0_chairsOf_0 : decode cX0_chairsOf 0 = .ok (.iconst 0, 1) := by decide +kernel
theorem dX0_chairsOf_1 : decode cX0_chairsOf 1 = .ok (.istore_n 2, 1) := by decide +kernel
theorem dX0_chairsOf_2 : decode cX0_chairsOf 2 = .ok (.iconst 0, 1) := by decide +kernel
theorem dX0_chairsOf_3 : decode cX0_chairsOf 3 = .ok (.istore_n 3, 1) := by decide +kernel
theorem dX0_chairsOf_4 : decode cX0_chairsOf 4 = .ok (.iload_n 3, 1) := by decide +kernel
theorem dX0_chairsOf_5 : decode cX0_chairsOf 5 = .ok (.aload_n 0, 1) := by decide +kernel
theorem dX0_chairsOf_6 : decode cX0_chairsOf 6 = .ok (.getfield 24, 3) := by decide +kernel
theorem dX0_chairsOf_9 : decode cX0_chairsOf 9 = .ok (.if_icmp .ge 24, 3) := by decide +kernel
theorem dX0_chairsOf_12 : decode cX0_chairsOf 12 = .ok (.aload_n 0, 1) := by decide +kernel
theorem dX0_chairsOf_13 : decode cX0_chairsOf 13 = .ok (.iload_n 3, 1) := by decide +kernel
theorem dX0_chairsOf_14 : decode cX0_chairsOf 14 = .ok (.invokevirtual 55, 3) := by decide +kernel
theorem dX0_chairsOf_17 : decode cX0_chairsOf 17 = .ok (.iload_n 1, 1) := by decide +kernel
theorem dX0_chairsOf_18 : decode cX0_chairsOf 18 = .ok (.if_icmp .ne 9, 3) := by decide +kernel
theorem dX0_chairsOf_21 : decode cX0_chairsOf 21 = .ok (.iload_n 2, 1) := by decide +kernel
theorem dX0_chairsOf_22 : decode cX0_chairsOf 22 = .ok (.iconst 1, 1) := by decide +kernel
theorem dX0_chairsOf_23 : decode cX0_chairsOf 23 = .ok (.iload_n 3, 1) := by decide +kernel
theorem dX0_chairsOf_24 : decode cX0_chairsOf 24 = .ok (.ishl, 1) := by decide +kernel
theorem dX0_chairsOf_25 : decode cX0_chairsOf 25 = .ok (.ior, 1) := by decide +kernel
theorem dX0_chairsOf_26 : decode cX0_chairsOf 26 = .ok (.istore_n 2, 1) := by decide +kernel
theorem dX0_chairsOf_27 : decode cX0_chairsOf 27 = .ok (.iinc 3 1, 3) := by decide +kernel
theorem dX0_chairsOf_30 : decode cX0_chairsOf 30 = .ok (.goto (-26), 3) := by decide +kernel
theorem dX0_chairsOf_33 : decode cX0_chairsOf 33 = .ok (.iload_n 2, 1) := by decide +kernel
theorem dX0_chairsOf_34 : decode cX0_chairsOf 34 = .ok (.ireturn, 1) := by decide +kernel
set_option maxRecDepth 20000 in
theorem ggX0_votesOf_X0_chairsOf : GoodIn wsX0_votesOf wsX0_chairsOf := goodIn_r _ [5, 6, 7, 8, 9, 4, 10, 11, 12, 13, 14, 15, 16, 17, 18, 19, 20, 21, 22, 23, 24, 25, 45, 46, 47, 48, 49, 50] (by decide +kernel) (by decide +kernel)
set_option maxRecDepth 20000 in
theorem gX0_votesOf_X0_chairsOf : GoodIn wsX0_votesOf (wsV RX0 64 RX0 yX0_chairsOf wsX0_chairsOf) := goodIn_app (goodIn_of _ (by decide +kernel)) ggX0_votesOf_X0_chairsOf
set_option maxRecDepth 20000 in
theorem ggX0_votesOf_X0_votesIn : GoodIn wsX0_votesOf wsX0_votesIn := goodIn_r _ [29, 6, 30, 31, 32, 33, 34, 35, 4, 36, 17, 18, 19, 20, 21, 37, 38, 39, 40, 41, 42, 13, 14, 15, 16, 43, 44, 45, 46, 47, 48, 49, 50] (by decide +kernel) (by decide +kernel)
set_option maxRecDepth 20000 in
theorem gX0_votesOf_X0_votesIn : GoodIn wsX0_votesOf (wsV RX0 67 RX0 yX0_votesIn wsX0_votesIn) := goodIn_app (goodIn_of _ (by decide +kernel)) ggX0_votesOf_X0_votesIn
theorem dX0_votesOf_0 : decode cX0_votesOf 0 = .ok (.aload_n 0, 1) := by decide +kernel
theorem dX0_votesOf_1 : decode cX0_votesOf 1 = .ok (.aload_n 0, 1) := by decide +kernel
theorem dX0_votesOf_2 : decode cX0_votesOf 2 = .ok (.iload_n 1, 1) := by decide +kernel
theorem dX0_votesOf_3 : decode cX0_votesOf 3 = .ok (.invokevirtual 64, 3) := by decide +kernel
theorem dX0_votesOf_6 : decode cX0_votesOf 6 = .ok (.invokevirtual 67, 3) := by decide +kernel
theorem dX0_votesOf_9 : decode cX0_votesOf 9 = .ok (.ireturn, 1) := by decide +kernel
set_option maxRecDepth 20000 in
theorem ggX0_votesIn_X2_isIn : GoodIn wsX0_votesIn wsX2_isIn := goodIn_r _ [4] (by decide +kernel) (by decide +kernel)
set_option maxRecDepth 20000 in
theorem gX0_votesIn_X2_isIn_n70 : GoodIn wsX0_votesIn (wsX2_isIn) := ggX0_votesIn_X2_isIn
set_option maxRecDepth 20000 in
theorem ggX0_votesIn_X0_votes : GoodIn wsX0_votesIn wsX0_votes := goodIn_r _ [9, 10, 11, 12, 8, 13, 14, 15, 16, 17, 18, 19, 20, 21, 22, 23, 24, 1, 25, 3, 26, 27, 28, 29, 30, 31, 32] (by decide +kernel) (by decide +kernel)
set_option maxRecDepth 20000 in
theorem gX0_votesIn_X0_votes : GoodIn wsX0_votesIn (wsV RX0 58 RX0 yX0_votes wsX0_votes) := goodIn_app (goodIn_of _ (by decide +kernel)) ggX0_votesIn_X0_votes
theorem dX0_votesIn_0 : decode cX0_votesIn 0 = .ok (.iconst 0, 1) := by decide +kernel
theorem dX0_votesIn_1 : decode cX0_votesIn 1 = .ok (.istore_n 2, 1) := by decide +kernel
theorem dX0_votesIn_2 : decode cX0_votesIn 2 = .ok (.iconst 0, 1) := by decide +kernel
theorem dX0_votesIn_3 : decode cX0_votesIn 3 = .ok (.istore_n 3, 1) := by decide +kernel
theorem dX0_votesIn_4 : decode cX0_votesIn 4 = .ok (.iload_n 3, 1) := by decide +kernel
theorem dX0_votesIn_5 : decode cX0_votesIn 5 = .ok (.aload_n 0, 1) := by decide +kernel
theorem dX0_votesIn_6 : decode cX0_votesIn 6 = .ok (.getfield 24, 3) := by decide +kernel
theorem dX0_votesIn_9 : decode cX0_votesIn 9 = .ok (.if_icmp .ge 25, 3) := by decide +kernel
theorem dX0_votesIn_12 : decode cX0_votesIn 12 = .ok (.iload_n 1, 1) := by decide +kernel
theorem dX0_votesIn_13 : decode cX0_votesIn 13 = .ok (.iload_n 3, 1) := by decide +kernel
theorem dX0_votesIn_14 : decode cX0_votesIn 14 = .ok (.invokestatic 70, 3) := by decide +kernel
theorem dX0_votesIn_17 : decode cX0_votesIn 17 = .ok (.ifCond .eq 11, 3) := by decide +kernel
theorem dX0_votesIn_20 : decode cX0_votesIn 20 = .ok (.iload_n 2, 1) := by decide +kernel
theorem dX0_votesIn_21 : decode cX0_votesIn 21 = .ok (.aload_n 0, 1) := by decide +kernel
theorem dX0_votesIn_22 : decode cX0_votesIn 22 = .ok (.iload_n 3, 1) := by decide +kernel
theorem dX0_votesIn_23 : decode cX0_votesIn 23 = .ok (.invokevirtual 58, 3) := by decide +kernel
theorem dX0_votesIn_26 : decode cX0_votesIn 26 = .ok (.iadd, 1) := by decide +kernel
theorem dX0_votesIn_27 : decode cX0_votesIn 27 = .ok (.istore_n 2, 1) := by decide +kernel
theorem dX0_votesIn_28 : decode cX0_votesIn 28 = .ok (.iinc 3 1, 3) := by decide +kernel
theorem dX0_votesIn_31 : decode cX0_votesIn 31 = .ok (.goto (-27), 3) := by decide +kernel
theorem dX0_votesIn_34 : decode cX0_votesIn 34 = .ok (.iload_n 2, 1) := by decide +kernel
theorem dX0_votesIn_35 : decode cX0_votesIn 35 = .ok (.ireturn, 1) := by decide +kernel
set_option maxRecDepth 20000 in
theorem ggX0_votesOfStripes_X2_isIn : GoodIn wsX0_votesOfStripes wsX2_isIn := goodIn_r _ [5] (by decide +kernel) (by decide +kernel)
set_option maxRecDepth 20000 in
theorem gX0_votesOfStripes_X2_isIn_n70 : GoodIn wsX0_votesOfStripes (wsX2_isIn) := ggX0_votesOfStripes_X2_isIn
set_option maxRecDepth 20000 in
theorem ggX0_votesOfStripes_X0_votes : GoodIn wsX0_votesOfStripes wsX0_votes := goodIn_r _ [10, 11, 12, 13, 9, 14, 15, 16, 17, 18, 19, 20, 21, 22, 23, 24, 25, 1, 26, 4, 27, 28, 29, 30, 31, 32, 33] (by decide +kernel) (by decide +kernel)
set_option maxRecDepth 20000 in
theorem gX0_votesOfStripes_X0_votes : GoodIn wsX0_votesOfStripes (wsV RX0 58 RX0 yX0_votes wsX0_votes) := goodIn_app (goodIn_of _ (by decide +kernel)) ggX0_votesOfStripes_X0_votes
theorem dX0_votesOfStripes_0 : decode cX0_votesOfStripes 0 = .ok (.iconst 0, 1) := by decide +kernel
theorem dX0_votesOfStripes_1 : decode cX0_votesOfStripes 1 = .ok (.istore_n 2, 1) := by decide +kernel
theorem dX0_votesOfStripes_2 : decode cX0_votesOfStripes 2 = .ok (.iconst 0, 1) := by decide +kernel
theorem dX0_votesOfStripes_3 : decode cX0_votesOfStripes 3 = .ok (.istore_n 3, 1) := by decide +kernel
theorem dX0_votesOfStripes_4 : decode cX0_votesOfStripes 4 = .ok (.iload_n 3, 1) := by decide +kernel
theorem dX0_votesOfStripes_5 : decode cX0_votesOfStripes 5 = .ok (.aload_n 0, 1) := by decide +kernel
theorem dX0_votesOfStripes_6 : decode cX0_votesOfStripes 6 = .ok (.getfield 24, 3) := by decide +kernel
theorem dX0_votesOfStripes_9 : decode cX0_votesOfStripes 9 = .ok (.if_icmp .ge 30, 3) := by decide +kernel
theorem dX0_votesOfStripes_12 : decode cX0_votesOfStripes 12 = .ok (.iload_n 1, 1) := by decide +kernel
theorem dX0_votesOfStripes_13 : decode cX0_votesOfStripes 13 = .ok (.aload_n 0, 1) := by decide +kernel
theorem dX0_votesOfStripes_14 : decode cX0_votesOfStripes 14 = .ok (.getfield 15, 3) := by decide +kernel
theorem dX0_votesOfStripes_17 : decode cX0_votesOfStripes 17 = .ok (.iload_n 3, 1) := by decide +kernel
theorem dX0_votesOfStripes_18 : decode cX0_votesOfStripes 18 = .ok (.iaload, 1) := by decide +kernel
theorem dX0_votesOfStripes_19 : decode cX0_votesOfStripes 19 = .ok (.invokestatic 70, 3) := by decide +kernel
theorem dX0_votesOfStripes_22 : decode cX0_votesOfStripes 22 = .ok (.ifCond .eq 11, 3) := by decide +kernel
theorem dX0_votesOfStripes_25 : decode cX0_votesOfStripes 25 = .ok (.iload_n 2, 1) := by decide +kernel
theorem dX0_votesOfStripes_26 : decode cX0_votesOfStripes 26 = .ok (.aload_n 0, 1) := by decide +kernel
theorem dX0_votesOfStripes_27 : decode cX0_votesOfStripes 27 = .ok (.iload_n 3, 1) := by decide +kernel
theorem dX0_votesOfStripes_28 : decode cX0_votesOfStripes 28 = .ok (.invokevirtual 58, 3) := by decide +kernel
theorem dX0_votesOfStripes_31 : decode cX0_votesOfStripes 31 = .ok (.iadd, 1) := by decide +kernel
theorem dX0_votesOfStripes_32 : decode cX0_votesOfStripes 32 = .ok (.istore_n 2, 1) := by decide +kernel
theorem dX0_votesOfStripes_33 : decode cX0_votesOfStripes 33 = .ok (.iinc 3 1, 3) := by decide +kernel
theorem dX0_votesOfStripes_36 : decode cX0_votesOfStripes 36 = .ok (.goto (-32), 3) := by decide +kernel
theorem dX0_votesOfStripes_39 : decode cX0_votesOfStripes 39 = .ok (.iload_n 2, 1) := by decide +kernel
theorem dX0_votesOfStripes_40 : decode cX0_votesOfStripes 40 = .ok (.ireturn, 1) := by decide +kernel
set_option maxRecDepth 20000 in
theorem ggX0_turned_X0_has : GoodIn wsX0_turned wsX0_has := goodIn_r _ [6, 7, 13, 14, 15, 16, 17, 18] (by decide +kernel) (by decide +kernel)
set_option maxRecDepth 20000 in
theorem gX0_turned_X0_has : GoodIn wsX0_turned (wsV RX0 37 RX0 yX0_has wsX0_has) := goodIn_app (goodIn_of _ (by decide +kernel)) ggX0_turned_X0_has
set_option maxRecDepth 20000 in
theorem ggX0_turned_X0_isFolded : GoodIn wsX0_turned wsX0_isFolded := goodIn_r _ [11, 12, 13, 14, 15, 16, 17, 18] (by decide +kernel) (by decide +kernel)
set_option maxRecDepth 20000 in
theorem gX0_turned_X0_isFolded : GoodIn wsX0_turned (wsV RX0 45 RX0 yX0_isFolded wsX0_isFolded) := goodIn_app (goodIn_of _ (by decide +kernel)) ggX0_turned_X0_isFolded
theorem dX0_turned_0 : decode cX0_turned 0 = .ok (.aload_n 0, 1) := by decide +kernel
theorem dX0_turned_1 : decode cX0_turned 1 = .ok (.iload_n 1, 1) := by decide +kernel
theorem dX0_turned_2 : decode cX0_turned 2 = .ok (.invokevirtual 37, 3) := by decide +kernel
theorem dX0_turned_5 : decode cX0_turned 5 = .ok (.ifCond .eq 11, 3) := by decide +kernel
theorem dX0_turned_8 : decode cX0_turned 8 = .ok (.aload_n 0, 1) := by decide +kernel
theorem dX0_turned_9 : decode cX0_turned 9 = .ok (.iload_n 1, 1) := by decide +kernel
theorem dX0_turned_10 : decode cX0_turned 10 = .ok (.invokevirtual 45, 3) := by decide +kernel
theorem dX0_turned_13 : decode cX0_turned 13 = .ok (.ifCond .eq 5, 3) := by decide +kernel
theorem dX0_turned_16 : decode cX0_turned 16 = .ok (.iconst 0, 1) := by decide +kernel
theorem dX0_turned_17 : decode cX0_turned 17 = .ok (.ireturn, 1) := by decide +kernel
theorem dX0_turned_18 : decode cX0_turned 18 = .ok (.aload_n 0, 1) := by decide +kernel
theorem dX0_turned_19 : decode cX0_turned 19 = .ok (.getfield 21, 3) := by decide +kernel
theorem dX0_turned_22 : decode cX0_turned 22 = .ok (.iload_n 1, 1) := by decide +kernel
theorem dX0_turned_23 : decode cX0_turned 23 = .ok (.iload_n 2, 1) := by decide +kernel
theorem dX0_turned_24 : decode cX0_turned 24 = .ok (.iastore, 1) := by decide +kernel
theorem dX0_turned_25 : decode cX0_turned 25 = .ok (.iconst 1, 1) := by decide +kernel
theorem dX0_turned_26 : decode cX0_turned 26 = .ok (.ireturn, 1) := by decide +kernel
set_option maxRecDepth 20000 in
theorem ggX0_blown_X0_isFolded : GoodIn wsX0_blown wsX0_isFolded := goodIn_r _ [8, 9, 10, 11, 12, 13, 14, 15] (by decide +kernel) (by decide +kernel)
set_option maxRecDepth 20000 in
theorem gX0_blown_X0_isFolded : GoodIn wsX0_blown (wsV RX0 45 RX0 yX0_isFolded wsX0_isFolded) := goodIn_app (goodIn_of _ (by decide +kernel)) ggX0_blown_X0_isFolded
theorem dX0_blown_0 : decode cX0_blown 0 = .ok (.iconst 0, 1) := by decide +kernel
theorem dX0_blown_1 : decode cX0_blown 1 = .ok (.istore_n 3, 1) := by decide +kernel
theorem dX0_blown_2 : decode cX0_blown 2 = .ok (.iconst 0, 1) := by decide +kernel
theorem dX0_blown_3 : decode cX0_blown 3 = .ok (.istore 4, 2) := by decide +kernel
theorem dX0_blown_5 : decode cX0_blown 5 = .ok (.iload 4, 2) := by decide +kernel
theorem dX0_blown_7 : decode cX0_blown 7 = .ok (.aload_n 0, 1) := by decide +kernel
theorem dX0_blown_8 : decode cX0_blown 8 = .ok (.getfield 24, 3) := by decide +kernel
theorem dX0_blown_11 : decode cX0_blown 11 = .ok (.if_icmp .ge 51, 3) := by decide +kernel
theorem dX0_blown_14 : decode cX0_blown 14 = .ok (.aload_n 0, 1) := by decide +kernel
theorem dX0_blown_15 : decode cX0_blown 15 = .ok (.iload 4, 2) := by decide +kernel
theorem dX0_blown_17 : decode cX0_blown 17 = .ok (.invokevirtual 45, 3) := by decide +kernel
theorem dX0_blown_20 : decode cX0_blown 20 = .ok (.ifCond .ne 36, 3) := by decide +kernel
theorem dX0_blown_23 : decode cX0_blown 23 = .ok (.aload_n 0, 1) := by decide +kernel
theorem dX0_blown_24 : decode cX0_blown 24 = .ok (.getfield 18, 3) := by decide +kernel
theorem dX0_blown_27 : decode cX0_blown 27 = .ok (.iload 4, 2) := by decide +kernel
theorem dX0_blown_29 : decode cX0_blown 29 = .ok (.iaload, 1) := by decide +kernel
theorem dX0_blown_30 : decode cX0_blown 30 = .ok (.iload_n 2, 1) := by decide +kernel
theorem dX0_blown_31 : decode cX0_blown 31 = .ok (.if_icmp .ge 25, 3) := by decide +kernel
theorem dX0_blown_34 : decode cX0_blown 34 = .ok (.aload_n 0, 1) := by decide +kernel
theorem dX0_blown_35 : decode cX0_blown 35 = .ok (.getfield 21, 3) := by decide +kernel
theorem dX0_blown_38 : decode cX0_blown 38 = .ok (.iload 4, 2) := by decide +kernel
theorem dX0_blown_40 : decode cX0_blown 40 = .ok (.iaload, 1) := by decide +kernel
theorem dX0_blown_41 : decode cX0_blown 41 = .ok (.iload_n 1, 1) := by decide +kernel
theorem dX0_blown_42 : decode cX0_blown 42 = .ok (.if_icmp .eq 14, 3) := by decide +kernel
theorem dX0_blown_45 : decode cX0_blown 45 = .ok (.aload_n 0, 1) := by decide +kernel
theorem dX0_blown_46 : decode cX0_blown 46 = .ok (.getfield 21, 3) := by decide +kernel
theorem dX0_blown_49 : decode cX0_blown 49 = .ok (.iload 4, 2) := by decide +kernel
theorem dX0_blown_51 : decode cX0_blown 51 = .ok (.iload_n 1, 1) := by decide +kernel
theorem dX0_blown_52 : decode cX0_blown 52 = .ok (.iastore, 1) := by decide +kernel
theorem dX0_blown_53 : decode cX0_blown 53 = .ok (.iinc 3 1, 3) := by decide +kernel
theorem dX0_blown_56 : decode cX0_blown 56 = .ok (.iinc 4 1, 3) := by decide +kernel
theorem dX0_blown_59 : decode cX0_blown 59 = .ok (.goto (-54), 3) := by decide +kernel
theorem dX0_blown_62 : decode cX0_blown 62 = .ok (.iload_n 3, 1) := by decide +kernel
theorem dX0_blown_63 : decode cX0_blown 63 = .ok (.ireturn, 1) := by decide +kernel
set_option maxRecDepth 20000 in
theorem ggX0_foldedByRain_J6_bitCount_0f7a4 : GoodIn wsX0_foldedByRain wsJ6_bitCount_0f7a4 := goodIn_r _ [6, 7, 8, 9] (by decide +kernel) (by decide +kernel)
set_option maxRecDepth 20000 in
theorem gX0_foldedByRain_J6_bitCount_0f7a4 : GoodIn wsX0_foldedByRain (va_wsS RX0 74 yJ6_bitCount_0f7a4 wsJ6_bitCount_0f7a4) := goodIn_app (goodIn_of _ (by decide +kernel)) ggX0_foldedByRain_J6_bitCount_0f7a4
theorem dX0_foldedByRain_0 : decode cX0_foldedByRain 0 = .ok (.aload_n 0, 1) := by decide +kernel
theorem dX0_foldedByRain_1 : decode cX0_foldedByRain 1 = .ok (.getfield 28, 3) := by decide +kernel
theorem dX0_foldedByRain_4 : decode cX0_foldedByRain 4 = .ok (.invokestatic 74, 3) := by decide +kernel
theorem dX0_foldedByRain_7 : decode cX0_foldedByRain 7 = .ok (.istore_n 1, 1) := by decide +kernel
theorem dX0_foldedByRain_8 : decode cX0_foldedByRain 8 = .ok (.aload_n 0, 1) := by decide +kernel
theorem dX0_foldedByRain_9 : decode cX0_foldedByRain 9 = .ok (.iconst 1, 1) := by decide +kernel
theorem dX0_foldedByRain_10 : decode cX0_foldedByRain 10 = .ok (.aload_n 0, 1) := by decide +kernel
theorem dX0_foldedByRain_11 : decode cX0_foldedByRain 11 = .ok (.getfield 24, 3) := by decide +kernel
theorem dX0_foldedByRain_14 : decode cX0_foldedByRain 14 = .ok (.ishl, 1) := by decide +kernel
theorem dX0_foldedByRain_15 : decode cX0_foldedByRain 15 = .ok (.iconst 1, 1) := by decide +kernel
theorem dX0_foldedByRain_16 : decode cX0_foldedByRain 16 = .ok (.isub, 1) := by decide +kernel
theorem dX0_foldedByRain_17 : decode cX0_foldedByRain 17 = .ok (.putfield 28, 3) := by decide +kernel
theorem dX0_foldedByRain_20 : decode cX0_foldedByRain 20 = .ok (.aload_n 0, 1) := by decide +kernel
theorem dX0_foldedByRain_21 : decode cX0_foldedByRain 21 = .ok (.getfield 24, 3) := by decide +kernel
theorem dX0_foldedByRain_24 : decode cX0_foldedByRain 24 = .ok (.iload_n 1, 1) := by decide +kernel
theorem dX0_foldedByRain_25 : decode cX0_foldedByRain 25 = .ok (.isub, 1) := by decide +kernel
theorem dX0_foldedByRain_26 : decode cX0_foldedByRain 26 = .ok (.ireturn, 1) := by decide +kernel
set_option maxRecDepth 20000 in
theorem ggX0_opened_X0_has : GoodIn wsX0_opened wsX0_has := goodIn_r _ [6, 7, 12, 13, 14, 15, 16, 17] (by decide +kernel) (by decide +kernel)
set_option maxRecDepth 20000 in
theorem gX0_opened_X0_has : GoodIn wsX0_opened (wsV RX0 37 RX0 yX0_has wsX0_has) := goodIn_app (goodIn_of _ (by decide +kernel)) ggX0_opened_X0_has
set_option maxRecDepth 20000 in
theorem ggX0_opened_X0_isFolded : GoodIn wsX0_opened wsX0_isFolded := goodIn_r _ [11, 1, 12, 13, 14, 15, 16, 17] (by decide +kernel) (by decide +kernel)
set_option maxRecDepth 20000 in
theorem gX0_opened_X0_isFolded : GoodIn wsX0_opened (wsV RX0 45 RX0 yX0_isFolded wsX0_isFolded) := goodIn_app (goodIn_of _ (by decide +kernel)) ggX0_opened_X0_isFolded
theorem dX0_opened_0 : decode cX0_opened 0 = .ok (.aload_n 0, 1) := by decide +kernel
theorem dX0_opened_1 : decode cX0_opened 1 = .ok (.iload_n 1, 1) := by decide +kernel
theorem dX0_opened_2 : decode cX0_opened 2 = .ok (.invokevirtual 37, 3) := by decide +kernel
theorem dX0_opened_5 : decode cX0_opened 5 = .ok (.ifCond .eq 11, 3) := by decide +kernel
theorem dX0_opened_8 : decode cX0_opened 8 = .ok (.aload_n 0, 1) := by decide +kernel
theorem dX0_opened_9 : decode cX0_opened 9 = .ok (.iload_n 1, 1) := by decide +kernel
theorem dX0_opened_10 : decode cX0_opened 10 = .ok (.invokevirtual 45, 3) := by decide +kernel
theorem dX0_opened_13 : decode cX0_opened 13 = .ok (.ifCond .ne 5, 3) := by decide +kernel
theorem dX0_opened_16 : decode cX0_opened 16 = .ok (.iconst 0, 1) := by decide +kernel
theorem dX0_opened_17 : decode cX0_opened 17 = .ok (.ireturn, 1) := by decide +kernel
theorem dX0_opened_18 : decode cX0_opened 18 = .ok (.aload_n 0, 1) := by decide +kernel
theorem dX0_opened_19 : decode cX0_opened 19 = .ok (.dup, 1) := by decide +kernel
theorem dX0_opened_20 : decode cX0_opened 20 = .ok (.getfield 28, 3) := by decide +kernel
theorem dX0_opened_23 : decode cX0_opened 23 = .ok (.iconst 1, 1) := by decide +kernel
theorem dX0_opened_24 : decode cX0_opened 24 = .ok (.iload_n 1, 1) := by decide +kernel
theorem dX0_opened_25 : decode cX0_opened 25 = .ok (.ishl, 1) := by decide +kernel
theorem dX0_opened_26 : decode cX0_opened 26 = .ok (.iconst (-1), 1) := by decide +kernel
theorem dX0_opened_27 : decode cX0_opened 27 = .ok (.ixor, 1) := by decide +kernel
theorem dX0_opened_28 : decode cX0_opened 28 = .ok (.iand, 1) := by decide +kernel
theorem dX0_opened_29 : decode cX0_opened 29 = .ok (.putfield 28, 3) := by decide +kernel
theorem dX0_opened_32 : decode cX0_opened 32 = .ok (.iconst 1, 1) := by decide +kernel
theorem dX0_opened_33 : decode cX0_opened 33 = .ok (.ireturn, 1) := by decide +kernel
set_option maxRecDepth 20000 in
theorem ggX0_acted_X0_opened : GoodIn wsX0_acted wsX0_opened := goodIn_r _ [5, 6, 7, 8, 9, 4, 10, 11, 12, 13, 14, 15, 37, 38, 39, 40, 41, 42] (by decide +kernel) (by decide +kernel)
set_option maxRecDepth 20000 in
theorem gX0_acted_X0_opened : GoodIn wsX0_acted (wsV RX0 79 RX0 yX0_opened wsX0_opened) := goodIn_app (goodIn_of _ (by decide +kernel)) ggX0_acted_X0_opened
set_option maxRecDepth 20000 in
theorem ggX0_acted_X0_foldedByRain : GoodIn wsX0_acted wsX0_foldedByRain := goodIn_r _ [19, 6, 11, 20, 21, 22, 23, 24, 25, 26, 37, 38, 39, 40, 41, 42] (by decide +kernel) (by decide +kernel)
set_option maxRecDepth 20000 in
theorem gX0_acted_X0_foldedByRain : GoodIn wsX0_acted (wsV RX0 82 RX0 yX0_foldedByRain wsX0_foldedByRain) := goodIn_app (goodIn_of _ (by decide +kernel)) ggX0_acted_X0_foldedByRain
set_option maxRecDepth 20000 in
theorem ggX0_acted_X0_blown : GoodIn wsX0_acted wsX0_blown := goodIn_r _ [30, 11, 31, 32, 12, 13, 14, 4, 15, 6, 37, 38, 39, 40, 41, 42] (by decide +kernel) (by decide +kernel)
set_option maxRecDepth 20000 in
theorem gX0_acted_X0_blown : GoodIn wsX0_acted (wsV RX0 86 RX0 yX0_blown wsX0_blown) := goodIn_app (goodIn_of _ (by decide +kernel)) ggX0_acted_X0_blown
set_option maxRecDepth 20000 in
theorem ggX0_acted_X0_turned : GoodIn wsX0_acted wsX0_turned := goodIn_r _ [36, 32, 7, 8, 9, 4, 10, 11, 12, 13, 14, 15, 6, 37, 38, 39, 40, 41, 42] (by decide +kernel) (by decide +kernel)
set_option maxRecDepth 20000 in
theorem gX0_acted_X0_turned : GoodIn wsX0_acted (wsV RX0 89 RX0 yX0_turned wsX0_turned) := goodIn_app (goodIn_of _ (by decide +kernel)) ggX0_acted_X0_turned
theorem dX0_acted_0 : decode cX0_acted 0 = .ok (.iload_n 2, 1) := by decide +kernel
theorem dX0_acted_1 : decode cX0_acted 1 = .ok (.bipush 9, 2) := by decide +kernel
theorem dX0_acted_3 : decode cX0_acted 3 = .ok (.if_icmp .ne 9, 3) := by decide +kernel
theorem dX0_acted_6 : decode cX0_acted 6 = .ok (.aload_n 0, 1) := by decide +kernel
theorem dX0_acted_7 : decode cX0_acted 7 = .ok (.iload_n 1, 1) := by decide +kernel
theorem dX0_acted_8 : decode cX0_acted 8 = .ok (.invokevirtual 79, 3) := by decide +kernel
theorem dX0_acted_11 : decode cX0_acted 11 = .ok (.ireturn, 1) := by decide +kernel
theorem dX0_acted_12 : decode cX0_acted 12 = .ok (.iload_n 2, 1) := by decide +kernel
theorem dX0_acted_13 : decode cX0_acted 13 = .ok (.bipush 8, 2) := by decide +kernel
theorem dX0_acted_15 : decode cX0_acted 15 = .ok (.if_icmp .ne 10, 3) := by decide +kernel
theorem dX0_acted_18 : decode cX0_acted 18 = .ok (.aload_n 0, 1) := by decide +kernel
theorem dX0_acted_19 : decode cX0_acted 19 = .ok (.invokevirtual 82, 3) := by decide +kernel
theorem dX0_acted_22 : decode cX0_acted 22 = .ok (.pop, 1) := by decide +kernel
theorem dX0_acted_23 : decode cX0_acted 23 = .ok (.iconst 1, 1) := by decide +kernel
theorem dX0_acted_24 : decode cX0_acted 24 = .ok (.ireturn, 1) := by decide +kernel
theorem dX0_acted_25 : decode cX0_acted 25 = .ok (.iload_n 2, 1) := by decide +kernel
theorem dX0_acted_26 : decode cX0_acted 26 = .ok (.iconst 4, 1) := by decide +kernel
theorem dX0_acted_27 : decode cX0_acted 27 = .ok (.if_icmp .lt 14, 3) := by decide +kernel
theorem dX0_acted_30 : decode cX0_acted 30 = .ok (.aload_n 0, 1) := by decide +kernel
theorem dX0_acted_31 : decode cX0_acted 31 = .ok (.iload_n 2, 1) := by decide +kernel
theorem dX0_acted_32 : decode cX0_acted 32 = .ok (.iconst 4, 1) := by decide +kernel
theorem dX0_acted_33 : decode cX0_acted 33 = .ok (.isub, 1) := by decide +kernel
theorem dX0_acted_34 : decode cX0_acted 34 = .ok (.iload_n 1, 1) := by decide +kernel
theorem dX0_acted_35 : decode cX0_acted 35 = .ok (.invokevirtual 86, 3) := by decide +kernel
theorem dX0_acted_38 : decode cX0_acted 38 = .ok (.pop, 1) := by decide +kernel
theorem dX0_acted_39 : decode cX0_acted 39 = .ok (.iconst 1, 1) := by decide +kernel
theorem dX0_acted_40 : decode cX0_acted 40 = .ok (.ireturn, 1) := by decide +kernel
theorem dX0_acted_41 : decode cX0_acted 41 = .ok (.aload_n 0, 1) := by decide +kernel
theorem dX0_acted_42 : decode cX0_acted 42 = .ok (.iload_n 1, 1) := by decide +kernel
theorem dX0_acted_43 : decode cX0_acted 43 = .ok (.iload_n 2, 1) := by decide +kernel
theorem dX0_acted_44 : decode cX0_acted 44 = .ok (.invokevirtual 89, 3) := by decide +kernel
theorem dX0_acted_47 : decode cX0_acted 47 = .ok (.ireturn, 1) := by decide +kernel
theorem dX1_init_0 : decode cX1_init 0 = .ok (.aload_n 0, 1) := by decide +kernel
theorem dX1_init_1 : decode cX1_init 1 = .ok (.invokespecial 3, 3) := by decide +kernel
theorem dX1_init_4 : decode cX1_init 4 = .ok (.aload_n 0, 1) := by decide +kernel
theorem dX1_init_5 : decode cX1_init 5 = .ok (.bipush 60, 2) := by decide +kernel
theorem dX1_init_7 : decode cX1_init 7 = .ok (.newarray .int, 2) := by decide +kernel
theorem dX1_init_9 : decode cX1_init 9 = .ok (.putfield 9, 3) := by decide +kernel
theorem dX1_init_12 : decode cX1_init 12 = .ok (.aload_n 0, 1) := by decide +kernel
theorem dX1_init_13 : decode cX1_init 13 = .ok (.iconst 0, 1) := by decide +kernel
theorem dX1_init_14 : decode cX1_init 14 = .ok (.putfield 15, 3) := by decide +kernel
theorem dX1_init_17 : decode cX1_init 17 = .ok (.aload_n 0, 1) := by decide +kernel
theorem dX1_init_18 : decode cX1_init 18 = .ok (.iconst 0, 1) := by decide +kernel
theorem dX1_init_19 : decode cX1_init 19 = .ok (.putfield 19, 3) := by decide +kernel
theorem dX1_init_22 : decode cX1_init 22 = .ok (.aload_n 0, 1) := by decide +kernel
theorem dX1_init_23 : decode cX1_init 23 = .ok (.iconst 0, 1) := by decide +kernel
theorem dX1_init_24 : decode cX1_init 24 = .ok (.putfield 23, 3) := by decide +kernel
theorem dX1_init_27 : decode cX1_init 27 = .ok (.return_, 1) := by decide +kernel
theorem dX1_getsRow_0 : decode cX1_getsRow 0 = .ok (.aload_n 0, 1) := by decide +kernel
theorem dX1_getsRow_1 : decode cX1_getsRow 1 = .ok (.iconst 1, 1) := by decide +kernel
theorem dX1_getsRow_2 : decode cX1_getsRow 2 = .ok (.putfield 15, 3) := by decide +kernel
theorem dX1_getsRow_5 : decode cX1_getsRow 5 = .ok (.aload_n 0, 1) := by decide +kernel
theorem dX1_getsRow_6 : decode cX1_getsRow 6 = .ok (.iload_n 1, 1) := by decide +kernel
theorem dX1_getsRow_7 : decode cX1_getsRow 7 = .ok (.putfield 19, 3) := by decide +kernel
theorem dX1_getsRow_10 : decode cX1_getsRow 10 = .ok (.aload_n 0, 1) := by decide +kernel
theorem dX1_getsRow_11 : decode cX1_getsRow 11 = .ok (.iload_n 2, 1) := by decide +kernel
theorem dX1_getsRow_12 : decode cX1_getsRow 12 = .ok (.bipush 60, 2) := by decide +kernel
theorem dX1_getsRow_14 : decode cX1_getsRow 14 = .ok (.invokestatic 26, 3) := by decide +kernel
theorem dX1_getsRow_17 : decode cX1_getsRow 17 = .ok (.putfield 23, 3) := by decide +kernel
theorem dX1_getsRow_20 : decode cX1_getsRow 20 = .ok (.iconst 0, 1) := by decide +kernel
theorem dX1_getsRow_21 : decode cX1_getsRow 21 = .ok (.istore_n 3, 1) := by decide +kernel
theorem dX1_getsRow_22 : decode cX1_getsRow 22 = .ok (.iload_n 3, 1) := by decide +kernel
theorem dX1_getsRow_23 : decode cX1_getsRow 23 = .ok (.aload_n 0, 1) := by decide +kernel
theorem dX1_getsRow_24 : decode cX1_getsRow 24 = .ok (.getfield 23, 3) := by decide +kernel
theorem dX1_getsRow_27 : decode cX1_getsRow 27 = .ok (.if_icmp .ge 16, 3) := by decide +kernel
theorem dX1_getsRow_30 : decode cX1_getsRow 30 = .ok (.aload_n 0, 1) := by decide +kernel
theorem dX1_getsRow_31 : decode cX1_getsRow 31 = .ok (.getfield 9, 3) := by decide +kernel
theorem dX1_getsRow_34 : decode cX1_getsRow 34 = .ok (.iload_n 3, 1) := by decide +kernel
theorem dX1_getsRow_35 : decode cX1_getsRow 35 = .ok (.iconst 0, 1) := by decide +kernel
theorem dX1_getsRow_36 : decode cX1_getsRow 36 = .ok (.iastore, 1) := by decide +kernel
theorem dX1_getsRow_37 : decode cX1_getsRow 37 = .ok (.iinc 3 1, 3) := by decide +kernel
theorem dX1_getsRow_40 : decode cX1_getsRow 40 = .ok (.goto (-18), 3) := by decide +kernel
theorem dX1_getsRow_43 : decode cX1_getsRow 43 = .ok (.return_, 1) := by decide +kernel
theorem dX1_faultAs_0 : decode cX1_faultAs 0 = .ok (.aload_n 0, 1) := by decide +kernel
theorem dX1_faultAs_1 : decode cX1_faultAs 1 = .ok (.getfield 15, 3) := by decide +kernel
theorem dX1_faultAs_4 : decode cX1_faultAs 4 = .ok (.ifCond .ne 5, 3) := by decide +kernel
theorem dX1_faultAs_7 : decode cX1_faultAs 7 = .ok (.iconst 1, 1) := by decide +kernel
theorem dX1_faultAs_8 : decode cX1_faultAs 8 = .ok (.ireturn, 1) := by decide +kernel
theorem dX1_faultAs_9 : decode cX1_faultAs 9 = .ok (.aload_n 0, 1) := by decide +kernel
theorem dX1_faultAs_10 : decode cX1_faultAs 10 = .ok (.getfield 19, 3) := by decide +kernel
theorem dX1_faultAs_13 : decode cX1_faultAs 13 = .ok (.iload_n 1, 1) := by decide +kernel
theorem dX1_faultAs_14 : decode cX1_faultAs 14 = .ok (.if_icmp .ne 7, 3) := by decide +kernel
theorem dX1_faultAs_17 : decode cX1_faultAs 17 = .ok (.iconst 0, 1) := by decide +kernel
theorem dX1_faultAs_18 : decode cX1_faultAs 18 = .ok (.goto 4, 3) := by decide +kernel
theorem dX1_faultAs_21 : decode cX1_faultAs 21 = .ok (.iconst 2, 1) := by decide +kernel
theorem dX1_faultAs_22 : decode cX1_faultAs 22 = .ok (.ireturn, 1) := by decide +kernel
theorem dX1_holds_0 : decode cX1_holds 0 = .ok (.iload_n 1, 1) := by decide +kernel
theorem dX1_holds_1 : decode cX1_holds 1 = .ok (.ifCond .lt 29, 3) := by decide +kernel
theorem dX1_holds_4 : decode cX1_holds 4 = .ok (.iload_n 1, 1) := by decide +kernel
theorem dX1_holds_5 : decode cX1_holds 5 = .ok (.aload_n 0, 1) := by decide +kernel
theorem dX1_holds_6 : decode cX1_holds 6 = .ok (.getfield 23, 3) := by decide +kernel
theorem dX1_holds_9 : decode cX1_holds 9 = .ok (.if_icmp .gt 21, 3) := by decide +kernel
theorem dX1_holds_12 : decode cX1_holds 12 = .ok (.iload_n 2, 1) := by decide +kernel
theorem dX1_holds_13 : decode cX1_holds 13 = .ok (.ifCond .lt 17, 3) := by decide +kernel
theorem dX1_holds_16 : decode cX1_holds 16 = .ok (.iload_n 2, 1) := by decide +kernel
theorem dX1_holds_17 : decode cX1_holds 17 = .ok (.aload_n 0, 1) := by decide +kernel
theorem dX1_holds_18 : decode cX1_holds 18 = .ok (.getfield 23, 3) := by decide +kernel
theorem dX1_holds_21 : decode cX1_holds 21 = .ok (.iload_n 1, 1) := by decide +kernel
theorem dX1_holds_22 : decode cX1_holds 22 = .ok (.isub, 1) := by decide +kernel
theorem dX1_holds_23 : decode cX1_holds 23 = .ok (.if_icmp .gt 7, 3) := by decide +kernel
theorem dX1_holds_26 : decode cX1_holds 26 = .ok (.iconst 1, 1) := by decide +kernel
theorem dX1_holds_27 : decode cX1_holds 27 = .ok (.goto 4, 3) := by decide +kernel
theorem dX1_holds_30 : decode cX1_holds 30 = .ok (.iconst 0, 1) := by decide +kernel
theorem dX1_holds_31 : decode cX1_holds 31 = .ok (.ireturn, 1) := by decide +kernel
set_option maxRecDepth 20000 in
theorem ggX1_at_X1_holds : GoodIn wsX1_at wsX1_holds := goodIn_r _ [6, 7, 8, 9, 10, 11] (by decide +kernel) (by decide +kernel)
set_option maxRecDepth 20000 in
theorem gX1_at_X1_holds : GoodIn wsX1_at (wsV RX1 32 RX1 yX1_holds wsX1_holds) := goodIn_app (goodIn_of _ (by decide +kernel)) ggX1_at_X1_holds
theorem dX1_at_0 : decode cX1_at 0 = .ok (.aload_n 0, 1) := by decide +kernel
theorem dX1_at_1 : decode cX1_at 1 = .ok (.iload_n 1, 1) := by decide +kernel
theorem dX1_at_2 : decode cX1_at 2 = .ok (.iconst 1, 1) := by decide +kernel
theorem dX1_at_3 : decode cX1_at 3 = .ok (.invokevirtual 32, 3) := by decide +kernel
theorem dX1_at_6 : decode cX1_at 6 = .ok (.ifCond .eq 12, 3) := by decide +kernel
theorem dX1_at_9 : decode cX1_at 9 = .ok (.aload_n 0, 1) := by decide +kernel
theorem dX1_at_10 : decode cX1_at 10 = .ok (.getfield 9, 3) := by decide +kernel
theorem dX1_at_13 : decode cX1_at 13 = .ok (.iload_n 1, 1) := by decide +kernel
theorem dX1_at_14 : decode cX1_at 14 = .ok (.iaload, 1) := by decide +kernel
theorem dX1_at_15 : decode cX1_at 15 = .ok (.goto 4, 3) := by decide +kernel
theorem dX1_at_18 : decode cX1_at 18 = .ok (.iconst 0, 1) := by decide +kernel
theorem dX1_at_19 : decode cX1_at 19 = .ok (.ireturn, 1) := by decide +kernel
set_option maxRecDepth 20000 in
theorem ggX1_becomesAt_X1_holds : GoodIn wsX1_becomesAt wsX1_holds := goodIn_r _ [6, 7, 13, 14, 15, 16] (by decide +kernel) (by decide +kernel)
set_option maxRecDepth 20000 in
theorem gX1_becomesAt_X1_holds : GoodIn wsX1_becomesAt (wsV RX1 32 RX1 yX1_holds wsX1_holds) := goodIn_app (goodIn_of _ (by decide +kernel)) ggX1_becomesAt_X1_holds
set_option maxRecDepth 20000 in
theorem ggX1_becomesAt_X1_cut : GoodIn wsX1_becomesAt wsX1_cut := goodIn_r _ [11, 12, 13, 14, 15, 16] (by decide +kernel) (by decide +kernel)
set_option maxRecDepth 20000 in
theorem gX1_becomesAt_X1_cut : GoodIn wsX1_becomesAt (wsV RX1 36 RX1 yX1_cut wsX1_cut) := goodIn_app (goodIn_of _ (by decide +kernel)) ggX1_becomesAt_X1_cut
theorem dX1_becomesAt_0 : decode cX1_becomesAt 0 = .ok (.aload_n 0, 1) := by decide +kernel
theorem dX1_becomesAt_1 : decode cX1_becomesAt 1 = .ok (.iload_n 1, 1) := by decide +kernel
theorem dX1_becomesAt_2 : decode cX1_becomesAt 2 = .ok (.iconst 1, 1) := by decide +kernel
theorem dX1_becomesAt_3 : decode cX1_becomesAt 3 = .ok (.invokevirtual 32, 3) := by decide +kernel
theorem dX1_becomesAt_6 : decode cX1_becomesAt 6 = .ok (.ifCond .eq 14, 3) := by decide +kernel
theorem dX1_becomesAt_9 : decode cX1_becomesAt 9 = .ok (.aload_n 0, 1) := by decide +kernel
theorem dX1_becomesAt_10 : decode cX1_becomesAt 10 = .ok (.getfield 9, 3) := by decide +kernel
theorem dX1_becomesAt_13 : decode cX1_becomesAt 13 = .ok (.iload_n 1, 1) := by decide +kernel
theorem dX1_becomesAt_14 : decode cX1_becomesAt 14 = .ok (.aload_n 0, 1) := by decide +kernel
theorem dX1_becomesAt_15 : decode cX1_becomesAt 15 = .ok (.iload_n 2, 1) := by decide +kernel
theorem dX1_becomesAt_16 : decode cX1_becomesAt 16 = .ok (.invokevirtual 36, 3) := by decide +kernel
theorem dX1_becomesAt_19 : decode cX1_becomesAt 19 = .ok (.iastore, 1) := by decide +kernel
theorem dX1_becomesAt_20 : decode cX1_becomesAt 20 = .ok (.return_, 1) := by decide +kernel
theorem dX1_cut_0 : decode cX1_cut 0 = .ok (.aload_n 0, 1) := by decide +kernel
theorem dX1_cut_1 : decode cX1_cut 1 = .ok (.getfield 19, 3) := by decide +kernel
theorem dX1_cut_4 : decode cX1_cut 4 = .ok (.lookupswitch 34 #[(0, 28), (1, 31)], 28) := by decide +kernel
theorem dX1_cut_32 : decode cX1_cut 32 = .ok (.iload_n 1, 1) := by decide +kernel
theorem dX1_cut_33 : decode cX1_cut 33 = .ok (.i2b, 1) := by decide +kernel
theorem dX1_cut_34 : decode cX1_cut 34 = .ok (.ireturn, 1) := by decide +kernel
theorem dX1_cut_35 : decode cX1_cut 35 = .ok (.iload_n 1, 1) := by decide +kernel
theorem dX1_cut_36 : decode cX1_cut 36 = .ok (.i2s, 1) := by decide +kernel
theorem dX1_cut_37 : decode cX1_cut 37 = .ok (.ireturn, 1) := by decide +kernel
theorem dX1_cut_38 : decode cX1_cut 38 = .ok (.iload_n 1, 1) := by decide +kernel
theorem dX1_cut_39 : decode cX1_cut 39 = .ok (.ireturn, 1) := by decide +kernel
set_option maxRecDepth 20000 in
theorem ggX2_init_X0_init : GoodIn wsX2_init wsX0_init := goodIn_r _ [21, 22, 2, 3, 11, 23, 24, 25, 26, 27, 28, 45, 46, 47, 48, 49, 50] (by decide +kernel) (by decide +kernel)
set_option maxRecDepth 20000 in
theorem gX2_init_X0_init_n19 : GoodIn wsX2_init (wsX0_init) := ggX2_init_X0_init
set_option maxRecDepth 20000 in
theorem ggX2_init_X1_init : GoodIn wsX2_init wsX1_init := goodIn_r _ [30, 31, 2, 3, 11, 32, 33, 34, 35, 51, 52, 53, 54] (by decide +kernel) (by decide +kernel)
set_option maxRecDepth 20000 in
theorem gX2_init_X1_init_n47 : GoodIn wsX2_init (wsX1_init) := ggX2_init_X1_init
theorem dX2_init_0 : decode cX2_init 0 = .ok (.aload_n 0, 1) := by decide +kernel
theorem dX2_init_1 : decode cX2_init 1 = .ok (.invokespecial 3, 3) := by decide +kernel
theorem dX2_init_4 : decode cX2_init 4 = .ok (.aload_n 0, 1) := by decide +kernel
theorem dX2_init_5 : decode cX2_init 5 = .ok (.iconst 4, 1) := by decide +kernel
theorem dX2_init_6 : decode cX2_init 6 = .ok (.anewarray 11, 3) := by decide +kernel
theorem dX2_init_9 : decode cX2_init 9 = .ok (.putfield 13, 3) := by decide +kernel
theorem dX2_init_12 : decode cX2_init 12 = .ok (.aload_n 0, 1) := by decide +kernel
theorem dX2_init_13 : decode cX2_init 13 = .ok (.new 17, 3) := by decide +kernel
theorem dX2_init_16 : decode cX2_init 16 = .ok (.dup, 1) := by decide +kernel
theorem dX2_init_17 : decode cX2_init 17 = .ok (.invokespecial 19, 3) := by decide +kernel
theorem dX2_init_20 : decode cX2_init 20 = .ok (.putfield 20, 3) := by decide +kernel
theorem dX2_init_23 : decode cX2_init 23 = .ok (.aload_n 0, 1) := by decide +kernel
theorem dX2_init_24 : decode cX2_init 24 = .ok (.new 17, 3) := by decide +kernel
theorem dX2_init_27 : decode cX2_init 27 = .ok (.dup, 1) := by decide +kernel
theorem dX2_init_28 : decode cX2_init 28 = .ok (.invokespecial 19, 3) := by decide +kernel
theorem dX2_init_31 : decode cX2_init 31 = .ok (.putfield 24, 3) := by decide +kernel
theorem dX2_init_34 : decode cX2_init 34 = .ok (.aload_n 0, 1) := by decide +kernel
theorem dX2_init_35 : decode cX2_init 35 = .ok (.bipush 8, 2) := by decide +kernel
theorem dX2_init_37 : decode cX2_init 37 = .ok (.newarray .int, 2) := by decide +kernel
theorem dX2_init_39 : decode cX2_init 39 = .ok (.putfield 27, 3) := by decide +kernel
theorem dX2_init_42 : decode cX2_init 42 = .ok (.aload_n 0, 1) := by decide +kernel
theorem dX2_init_43 : decode cX2_init 43 = .ok (.bipush 8, 2) := by decide +kernel
theorem dX2_init_45 : decode cX2_init 45 = .ok (.newarray .int, 2) := by decide +kernel
theorem dX2_init_47 : decode cX2_init 47 = .ok (.putfield 31, 3) := by decide +kernel
theorem dX2_init_50 : decode cX2_init 50 = .ok (.aload_n 0, 1) := by decide +kernel
theorem dX2_init_51 : decode cX2_init 51 = .ok (.bipush 8, 2) := by decide +kernel
theorem dX2_init_53 : decode cX2_init 53 = .ok (.newarray .int, 2) := by decide +kernel
theorem dX2_init_55 : decode cX2_init 55 = .ok (.putfield 34, 3) := by decide +kernel
theorem dX2_init_58 : decode cX2_init 58 = .ok (.aload_n 0, 1) := by decide +kernel
theorem dX2_init_59 : decode cX2_init 59 = .ok (.iconst 0, 1) := by decide +kernel
theorem dX2_init_60 : decode cX2_init 60 = .ok (.putfield 37, 3) := by decide +kernel
theorem dX2_init_63 : decode cX2_init 63 = .ok (.aload_n 0, 1) := by decide +kernel
theorem dX2_init_64 : decode cX2_init 64 = .ok (.iconst 0, 1) := by decide +kernel
theorem dX2_init_65 : decode cX2_init 65 = .ok (.putfield 41, 3) := by decide +kernel
theorem dX2_init_68 : decode cX2_init 68 = .ok (.aload_n 0, 1) := by decide +kernel
theorem dX2_init_69 : decode cX2_init 69 = .ok (.iconst 0, 1) := by decide +kernel
theorem dX2_init_70 : decode cX2_init 70 = .ok (.putfield 44, 3) := by decide +kernel
theorem dX2_init_73 : decode cX2_init 73 = .ok (.iconst 0, 1) := by decide +kernel
theorem dX2_init_74 : decode cX2_init 74 = .ok (.istore_n 1, 1) := by decide +kernel
theorem dX2_init_75 : decode cX2_init 75 = .ok (.iload_n 1, 1) := by decide +kernel
theorem dX2_init_76 : decode cX2_init 76 = .ok (.aload_n 0, 1) := by decide +kernel
theorem dX2_init_77 : decode cX2_init 77 = .ok (.getfield 13, 3) := by decide +kernel
theorem dX2_init_80 : decode cX2_init 80 = .ok (.arraylength, 1) := by decide +kernel
theorem dX2_init_81 : decode cX2_init 81 = .ok (.if_icmp .ge 22, 3) := by decide +kernel
theorem dX2_init_84 : decode cX2_init 84 = .ok (.aload_n 0, 1) := by decide +kernel
theorem dX2_init_85 : decode cX2_init 85 = .ok (.getfield 13, 3) := by decide +kernel
theorem dX2_init_88 : decode cX2_init 88 = .ok (.iload_n 1, 1) := by decide +kernel
theorem dX2_init_89 : decode cX2_init 89 = .ok (.new 11, 3) := by decide +kernel
theorem dX2_init_92 : decode cX2_init 92 = .ok (.dup, 1) := by decide +kernel
theorem dX2_init_93 : decode cX2_init 93 = .ok (.invokespecial 47, 3) := by decide +kernel
theorem dX2_init_96 : decode cX2_init 96 = .ok (.aastore, 1) := by decide +kernel
theorem dX2_init_97 : decode cX2_init 97 = .ok (.iinc 1 1, 3) := by decide +kernel
theorem dX2_init_100 : decode cX2_init 100 = .ok (.goto (-25), 3) := by decide +kernel
theorem dX2_init_103 : decode cX2_init 103 = .ok (.return_, 1) := by decide +kernel
set_option maxRecDepth 20000 in
theorem ggX2_front_X2_sheetAt : GoodIn wsX2_front wsX2_sheetAt := goodIn_r _ [8, 9, 64, 65, 66, 67, 68, 69, 70, 71, 72] (by decide +kernel) (by decide +kernel)
set_option maxRecDepth 20000 in
theorem gX2_front_X2_sheetAt : GoodIn wsX2_front (wsV RX2 48 RX2 yX2_sheetAt wsX2_sheetAt) := goodIn_app (goodIn_of _ (by decide +kernel)) ggX2_front_X2_sheetAt
set_option maxRecDepth 20000 in
theorem ggX2_front_X2_isLane : GoodIn wsX2_front wsX2_isLane := goodIn_r _ [12] (by decide +kernel) (by decide +kernel)
set_option maxRecDepth 20000 in
theorem gX2_front_X2_isLane : GoodIn wsX2_front (va_wsS RX2 52 yX2_isLane wsX2_isLane) := goodIn_app (goodIn_of _ (by decide +kernel)) ggX2_front_X2_isLane
set_option maxRecDepth 20000 in
theorem ggX2_front_X1_faultAs : GoodIn wsX2_front wsX1_faultAs := goodIn_r _ [17, 18, 19, 79, 80, 81, 82] (by decide +kernel) (by decide +kernel)
set_option maxRecDepth 20000 in
theorem gX2_front_X1_faultAs : GoodIn wsX2_front (wsV RX2 56 RX1 yX1_faultAs wsX1_faultAs) := goodIn_app (goodIn_of _ (by decide +kernel)) ggX2_front_X1_faultAs
set_option maxRecDepth 20000 in
theorem ggX2_front_X2_faulted : GoodIn wsX2_front wsX2_faulted := goodIn_r _ [23, 1, 64, 65, 66, 67, 68, 69, 70, 71, 72] (by decide +kernel) (by decide +kernel)
set_option maxRecDepth 20000 in
theorem gX2_front_X2_faulted : GoodIn wsX2_front (wsV RX2 60 RX2 yX2_faulted wsX2_faulted) := goodIn_app (goodIn_of _ (by decide +kernel)) ggX2_front_X2_faulted
set_option maxRecDepth 20000 in
theorem ggX2_front_X1_holds : GoodIn wsX2_front wsX1_holds := goodIn_r _ [27, 28, 79, 80, 81, 82] (by decide +kernel) (by decide +kernel)
set_option maxRecDepth 20000 in
theorem gX2_front_X1_holds : GoodIn wsX2_front (wsV RX2 63 RX1 yX1_holds wsX1_holds) := goodIn_app (goodIn_of _ (by decide +kernel)) ggX2_front_X1_holds
set_option maxRecDepth 20000 in
theorem ggX2_front_X2_firstFaultOfText : GoodIn wsX2_front wsX2_firstFaultOfText := goodIn_r _ [31, 32, 33, 34, 16, 35, 36, 37, 25, 26, 27, 28, 38, 39, 7, 40, 41, 42, 43, 44, 45, 46, 47, 48, 49, 79, 80, 81, 82] (by decide +kernel) (by decide +kernel)
set_option maxRecDepth 20000 in
theorem gX2_front_X2_firstFaultOfText : GoodIn wsX2_front (va_wsS RX2 67 yX2_firstFaultOfText wsX2_firstFaultOfText) := goodIn_app (goodIn_of _ (by decide +kernel)) ggX2_front_X2_firstFaultOfText
set_option maxRecDepth 20000 in
theorem ggX2_front_X2_takeText : GoodIn wsX2_front wsX2_takeText := goodIn_r _ [53, 2, 54, 55, 56, 57, 3, 58, 59, 60, 61, 62, 63, 32, 33, 34, 16, 35, 36, 37, 25, 26, 27, 28, 41, 42, 7, 43, 64, 65, 66, 67, 68, 69, 70, 71, 72, 73, 74, 75, 76, 77, 78, 79, 80, 81, 82] (by decide +kernel) (by decide +kernel)
set_option maxRecDepth 20000 in
theorem gX2_front_X2_takeText : GoodIn wsX2_front (wsV RX2 71 RX2 yX2_takeText wsX2_takeText) := goodIn_app (goodIn_of _ (by decide +kernel)) ggX2_front_X2_takeText
theorem dX2_front_0 : decode cX2_front 0 = .ok (.aload_n 0, 1) := by decide +kernel
theorem dX2_front_1 : decode cX2_front 1 = .ok (.iconst 0, 1) := by decide +kernel
theorem dX2_front_2 : decode cX2_front 2 = .ok (.putfield 44, 3) := by decide +kernel
theorem dX2_front_5 : decode cX2_front 5 = .ok (.aload_n 0, 1) := by decide +kernel
theorem dX2_front_6 : decode cX2_front 6 = .ok (.iload_n 1, 1) := by decide +kernel
theorem dX2_front_7 : decode cX2_front 7 = .ok (.invokevirtual 48, 3) := by decide +kernel
theorem dX2_front_10 : decode cX2_front 10 = .ok (.astore 5, 2) := by decide +kernel
theorem dX2_front_12 : decode cX2_front 12 = .ok (.aload 5, 2) := by decide +kernel
theorem dX2_front_14 : decode cX2_front 14 = .ok (.ifnonnull 5, 3) := by decide +kernel
theorem dX2_front_17 : decode cX2_front 17 = .ok (.iconst (-1), 1) := by decide +kernel
theorem dX2_front_18 : decode cX2_front 18 = .ok (.ireturn, 1) := by decide +kernel
theorem dX2_front_19 : decode cX2_front 19 = .ok (.iload_n 2, 1) := by decide +kernel
theorem dX2_front_20 : decode cX2_front 20 = .ok (.invokestatic 52, 3) := by decide +kernel
theorem dX2_front_23 : decode cX2_front 23 = .ok (.ifCond .ne 6, 3) := by decide +kernel
theorem dX2_front_26 : decode cX2_front 26 = .ok (.bipush (-2), 2) := by decide +kernel
theorem dX2_front_28 : decode cX2_front 28 = .ok (.ireturn, 1) := by decide +kernel
theorem dX2_front_29 : decode cX2_front 29 = .ok (.aload 5, 2) := by decide +kernel
theorem dX2_front_31 : decode cX2_front 31 = .ok (.iload_n 2, 1) := by decide +kernel
theorem dX2_front_32 : decode cX2_front 32 = .ok (.invokevirtual 56, 3) := by decide +kernel
theorem dX2_front_35 : decode cX2_front 35 = .ok (.istore 6, 2) := by decide +kernel
theorem dX2_front_37 : decode cX2_front 37 = .ok (.iload 6, 2) := by decide +kernel
theorem dX2_front_39 : decode cX2_front 39 = .ok (.ifCond .eq 10, 3) := by decide +kernel
theorem dX2_front_42 : decode cX2_front 42 = .ok (.aload_n 0, 1) := by decide +kernel
theorem dX2_front_43 : decode cX2_front 43 = .ok (.iload 6, 2) := by decide +kernel
theorem dX2_front_45 : decode cX2_front 45 = .ok (.invokevirtual 60, 3) := by decide +kernel
theorem dX2_front_48 : decode cX2_front 48 = .ok (.ireturn, 1) := by decide +kernel
theorem dX2_front_49 : decode cX2_front 49 = .ok (.iload 4, 2) := by decide +kernel
theorem dX2_front_51 : decode cX2_front 51 = .ok (.ifCond .ge 9, 3) := by decide +kernel
theorem dX2_front_54 : decode cX2_front 54 = .ok (.aload_n 0, 1) := by decide +kernel
theorem dX2_front_55 : decode cX2_front 55 = .ok (.iconst 4, 1) := by decide +kernel
theorem dX2_front_56 : decode cX2_front 56 = .ok (.invokevirtual 60, 3) := by decide +kernel
theorem dX2_front_59 : decode cX2_front 59 = .ok (.ireturn, 1) := by decide +kernel
theorem dX2_front_60 : decode cX2_front 60 = .ok (.aload 5, 2) := by decide +kernel
theorem dX2_front_62 : decode cX2_front 62 = .ok (.iload_n 3, 1) := by decide +kernel
theorem dX2_front_63 : decode cX2_front 63 = .ok (.iload 4, 2) := by decide +kernel
theorem dX2_front_65 : decode cX2_front 65 = .ok (.invokevirtual 63, 3) := by decide +kernel
theorem dX2_front_68 : decode cX2_front 68 = .ok (.ifCond .ne 9, 3) := by decide +kernel
theorem dX2_front_71 : decode cX2_front 71 = .ok (.aload_n 0, 1) := by decide +kernel
theorem dX2_front_72 : decode cX2_front 72 = .ok (.iconst 3, 1) := by decide +kernel
theorem dX2_front_73 : decode cX2_front 73 = .ok (.invokevirtual 60, 3) := by decide +kernel
theorem dX2_front_76 : decode cX2_front 76 = .ok (.ireturn, 1) := by decide +kernel
theorem dX2_front_77 : decode cX2_front 77 = .ok (.aload 5, 2) := by decide +kernel
theorem dX2_front_79 : decode cX2_front 79 = .ok (.iload_n 3, 1) := by decide +kernel
theorem dX2_front_80 : decode cX2_front 80 = .ok (.iload 4, 2) := by decide +kernel
theorem dX2_front_82 : decode cX2_front 82 = .ok (.invokestatic 67, 3) := by decide +kernel
theorem dX2_front_85 : decode cX2_front 85 = .ok (.istore 7, 2) := by decide +kernel
theorem dX2_front_87 : decode cX2_front 87 = .ok (.iload 7, 2) := by decide +kernel
theorem dX2_front_89 : decode cX2_front 89 = .ok (.bipush (-9), 2) := by decide +kernel
theorem dX2_front_91 : decode cX2_front 91 = .ok (.if_icmp .eq 9, 3) := by decide +kernel
theorem dX2_front_94 : decode cX2_front 94 = .ok (.bipush (-100), 2) := by decide +kernel
theorem dX2_front_96 : decode cX2_front 96 = .ok (.iload 7, 2) := by decide +kernel
theorem dX2_front_98 : decode cX2_front 98 = .ok (.isub, 1) := by decide +kernel
theorem dX2_front_99 : decode cX2_front 99 = .ok (.ireturn, 1) := by decide +kernel
theorem dX2_front_100 : decode cX2_front 100 = .ok (.aload_n 0, 1) := by decide +kernel
theorem dX2_front_101 : decode cX2_front 101 = .ok (.aload 5, 2) := by decide +kernel
theorem dX2_front_103 : decode cX2_front 103 = .ok (.iload_n 3, 1) := by decide +kernel
theorem dX2_front_104 : decode cX2_front 104 = .ok (.iload 4, 2) := by decide +kernel
theorem dX2_front_106 : decode cX2_front 106 = .ok (.invokevirtual 71, 3) := by decide +kernel
theorem dX2_front_109 : decode cX2_front 109 = .ok (.aload_n 0, 1) := by decide +kernel
theorem dX2_front_110 : decode cX2_front 110 = .ok (.getfield 20, 3) := by decide +kernel
theorem dX2_front_113 : decode cX2_front 113 = .ok (.getfield 75, 3) := by decide +kernel
theorem dX2_front_116 : decode cX2_front 116 = .ok (.ireturn, 1) := by decide +kernel
set_option maxRecDepth 20000 in
theorem ggX2_ofChair_X0_has : GoodIn wsX2_ofChair wsX0_has := goodIn_r _ [10, 11, 51, 52, 53, 54, 55, 56] (by decide +kernel) (by decide +kernel)
set_option maxRecDepth 20000 in
theorem gX2_ofChair_X0_has : GoodIn wsX2_ofChair (wsV RX2 78 RX0 yX0_has wsX0_has) := goodIn_app (goodIn_of _ (by decide +kernel)) ggX2_ofChair_X0_has
set_option maxRecDepth 20000 in
theorem ggX2_ofChair_X0_isFolded : GoodIn wsX2_ofChair wsX0_isFolded := goodIn_r _ [15, 16, 51, 52, 53, 54, 55, 56] (by decide +kernel) (by decide +kernel)
set_option maxRecDepth 20000 in
theorem gX2_ofChair_X0_isFolded : GoodIn wsX2_ofChair (wsV RX2 93 RX0 yX0_isFolded wsX0_isFolded) := goodIn_app (goodIn_of _ (by decide +kernel)) ggX2_ofChair_X0_isFolded
set_option maxRecDepth 20000 in
theorem ggX2_ofChair_X0_votes : GoodIn wsX2_ofChair wsX0_votes := goodIn_r _ [20, 21, 13, 14, 9, 15, 16, 22, 23, 24, 25, 26, 27, 28, 7, 8, 10, 11, 29, 30, 31, 51, 52, 53, 54, 55, 56] (by decide +kernel) (by decide +kernel)
set_option maxRecDepth 20000 in
theorem gX2_ofChair_X0_votes : GoodIn wsX2_ofChair (wsV RX2 96 RX0 yX0_votes wsX0_votes) := goodIn_app (goodIn_of _ (by decide +kernel)) ggX2_ofChair_X0_votes
set_option maxRecDepth 20000 in
theorem ggX2_ofChair_X0_side : GoodIn wsX2_ofChair wsX0_side := goodIn_r _ [35, 36, 37, 28, 7, 8, 9, 10, 11, 21, 13, 14, 15, 16, 38, 39, 40, 41, 51, 52, 53, 54, 55, 56] (by decide +kernel) (by decide +kernel)
set_option maxRecDepth 20000 in
theorem gX2_ofChair_X0_side : GoodIn wsX2_ofChair (wsV RX2 99 RX0 yX0_side wsX0_side) := goodIn_app (goodIn_of _ (by decide +kernel)) ggX2_ofChair_X0_side
theorem dX2_ofChair_0 : decode cX2_ofChair 0 = .ok (.aload_n 0, 1) := by decide +kernel
theorem dX2_ofChair_1 : decode cX2_ofChair 1 = .ok (.getfield 20, 3) := by decide +kernel
theorem dX2_ofChair_4 : decode cX2_ofChair 4 = .ok (.iload_n 1, 1) := by decide +kernel
theorem dX2_ofChair_5 : decode cX2_ofChair 5 = .ok (.invokevirtual 78, 3) := by decide +kernel
theorem dX2_ofChair_8 : decode cX2_ofChair 8 = .ok (.ifCond .ne 5, 3) := by decide +kernel
theorem dX2_ofChair_11 : decode cX2_ofChair 11 = .ok (.iconst (-1), 1) := by decide +kernel
theorem dX2_ofChair_12 : decode cX2_ofChair 12 = .ok (.ireturn, 1) := by decide +kernel
theorem dX2_ofChair_13 : decode cX2_ofChair 13 = .ok (.iload_n 2, 1) := by decide +kernel
theorem dX2_ofChair_14 : decode cX2_ofChair 14 = .ok (.tableswitch 117 0 6 #[42, 52, 62, 72, 82, 99, 108], 42) := by decide +kernel
theorem dX2_ofChair_56 : decode cX2_ofChair 56 = .ok (.aload_n 0, 1) := by decide +kernel
theorem dX2_ofChair_57 : decode cX2_ofChair 57 = .ok (.getfield 20, 3) := by decide +kernel
theorem dX2_ofChair_60 : decode cX2_ofChair 60 = .ok (.getfield 81, 3) := by decide +kernel
theorem dX2_ofChair_63 : decode cX2_ofChair 63 = .ok (.iload_n 1, 1) := by decide +kernel
theorem dX2_ofChair_64 : decode cX2_ofChair 64 = .ok (.iaload, 1) := by decide +kernel
theorem dX2_ofChair_65 : decode cX2_ofChair 65 = .ok (.ireturn, 1) := by decide +kernel
theorem dX2_ofChair_66 : decode cX2_ofChair 66 = .ok (.aload_n 0, 1) := by decide +kernel
theorem dX2_ofChair_67 : decode cX2_ofChair 67 = .ok (.getfield 20, 3) := by decide +kernel
theorem dX2_ofChair_70 : decode cX2_ofChair 70 = .ok (.getfield 84, 3) := by decide +kernel
theorem dX2_ofChair_73 : decode cX2_ofChair 73 = .ok (.iload_n 1, 1) := by decide +kernel
theorem dX2_ofChair_74 : decode cX2_ofChair 74 = .ok (.iaload, 1) := by decide +kernel
theorem dX2_ofChair_75 : decode cX2_ofChair 75 = .ok (.ireturn, 1) := by decide +kernel
theorem dX2_ofChair_76 : decode cX2_ofChair 76 = .ok (.aload_n 0, 1) := by decide +kernel
theorem dX2_ofChair_77 : decode cX2_ofChair 77 = .ok (.getfield 20, 3) := by decide +kernel
theorem dX2_ofChair_80 : decode cX2_ofChair 80 = .ok (.getfield 87, 3) := by decide +kernel
theorem dX2_ofChair_83 : decode cX2_ofChair 83 = .ok (.iload_n 1, 1) := by decide +kernel
theorem dX2_ofChair_84 : decode cX2_ofChair 84 = .ok (.iaload, 1) := by decide +kernel
theorem dX2_ofChair_85 : decode cX2_ofChair 85 = .ok (.ireturn, 1) := by decide +kernel
theorem dX2_ofChair_86 : decode cX2_ofChair 86 = .ok (.aload_n 0, 1) := by decide +kernel
theorem dX2_ofChair_87 : decode cX2_ofChair 87 = .ok (.getfield 20, 3) := by decide +kernel
theorem dX2_ofChair_90 : decode cX2_ofChair 90 = .ok (.getfield 90, 3) := by decide +kernel
theorem dX2_ofChair_93 : decode cX2_ofChair 93 = .ok (.iload_n 1, 1) := by decide +kernel
theorem dX2_ofChair_94 : decode cX2_ofChair 94 = .ok (.iaload, 1) := by decide +kernel
theorem dX2_ofChair_95 : decode cX2_ofChair 95 = .ok (.ireturn, 1) := by decide +kernel
theorem dX2_ofChair_96 : decode cX2_ofChair 96 = .ok (.aload_n 0, 1) := by decide +kernel
theorem dX2_ofChair_97 : decode cX2_ofChair 97 = .ok (.getfield 20, 3) := by decide +kernel
theorem dX2_ofChair_100 : decode cX2_ofChair 100 = .ok (.iload_n 1, 1) := by decide +kernel
theorem dX2_ofChair_101 : decode cX2_ofChair 101 = .ok (.invokevirtual 93, 3) := by decide +kernel
theorem dX2_ofChair_104 : decode cX2_ofChair 104 = .ok (.ifCond .eq 7, 3) := by decide +kernel
theorem dX2_ofChair_107 : decode cX2_ofChair 107 = .ok (.iconst 1, 1) := by decide +kernel
theorem dX2_ofChair_108 : decode cX2_ofChair 108 = .ok (.goto 4, 3) := by decide +kernel
theorem dX2_ofChair_111 : decode cX2_ofChair 111 = .ok (.iconst 0, 1) := by decide +kernel
theorem dX2_ofChair_112 : decode cX2_ofChair 112 = .ok (.ireturn, 1) := by decide +kernel
theorem dX2_ofChair_113 : decode cX2_ofChair 113 = .ok (.aload_n 0, 1) := by decide +kernel
theorem dX2_ofChair_114 : decode cX2_ofChair 114 = .ok (.getfield 20, 3) := by decide +kernel
theorem dX2_ofChair_117 : decode cX2_ofChair 117 = .ok (.iload_n 1, 1) := by decide +kernel
theorem dX2_ofChair_118 : decode cX2_ofChair 118 = .ok (.invokevirtual 96, 3) := by decide +kernel
theorem dX2_ofChair_121 : decode cX2_ofChair 121 = .ok (.ireturn, 1) := by decide +kernel
theorem dX2_ofChair_122 : decode cX2_ofChair 122 = .ok (.aload_n 0, 1) := by decide +kernel
theorem dX2_ofChair_123 : decode cX2_ofChair 123 = .ok (.getfield 20, 3) := by decide +kernel
theorem dX2_ofChair_126 : decode cX2_ofChair 126 = .ok (.iload_n 1, 1) := by decide +kernel
theorem dX2_ofChair_127 : decode cX2_ofChair 127 = .ok (.invokevirtual 99, 3) := by decide +kernel
theorem dX2_ofChair_130 : decode cX2_ofChair 130 = .ok (.ireturn, 1) := by decide +kernel
theorem dX2_ofChair_131 : decode cX2_ofChair 131 = .ok (.bipush (-2), 2) := by decide +kernel
theorem dX2_ofChair_133 : decode cX2_ofChair 133 = .ok (.ireturn, 1) := by decide +kernel
set_option maxRecDepth 20000 in
theorem ggX2_paint_X0_has : GoodIn wsX2_paint wsX0_has := goodIn_r _ [7, 8, 22, 23, 24, 25, 26, 27] (by decide +kernel) (by decide +kernel)
set_option maxRecDepth 20000 in
theorem gX2_paint_X0_has : GoodIn wsX2_paint (wsV RX2 78 RX0 yX0_has wsX0_has) := goodIn_app (goodIn_of _ (by decide +kernel)) ggX2_paint_X0_has
set_option maxRecDepth 20000 in
theorem ggX2_paint_X2_isStripe : GoodIn wsX2_paint wsX2_isStripe := goodIn_r _ [12] (by decide +kernel) (by decide +kernel)
set_option maxRecDepth 20000 in
theorem gX2_paint_X2_isStripe : GoodIn wsX2_paint (va_wsS RX2 102 yX2_isStripe wsX2_isStripe) := goodIn_app (goodIn_of _ (by decide +kernel)) ggX2_paint_X2_isStripe
theorem dX2_paint_0 : decode cX2_paint 0 = .ok (.aload_n 0, 1) := by decide +kernel
theorem dX2_paint_1 : decode cX2_paint 1 = .ok (.getfield 20, 3) := by decide +kernel
theorem dX2_paint_4 : decode cX2_paint 4 = .ok (.iload_n 1, 1) := by decide +kernel
theorem dX2_paint_5 : decode cX2_paint 5 = .ok (.invokevirtual 78, 3) := by decide +kernel
theorem dX2_paint_8 : decode cX2_paint 8 = .ok (.ifCond .ne 5, 3) := by decide +kernel
theorem dX2_paint_11 : decode cX2_paint 11 = .ok (.iconst (-1), 1) := by decide +kernel
theorem dX2_paint_12 : decode cX2_paint 12 = .ok (.ireturn, 1) := by decide +kernel
theorem dX2_paint_13 : decode cX2_paint 13 = .ok (.iload_n 2, 1) := by decide +kernel
theorem dX2_paint_14 : decode cX2_paint 14 = .ok (.invokestatic 102, 3) := by decide +kernel
theorem dX2_paint_17 : decode cX2_paint 17 = .ok (.ifCond .ne 6, 3) := by decide +kernel
theorem dX2_paint_20 : decode cX2_paint 20 = .ok (.bipush (-2), 2) := by decide +kernel
theorem dX2_paint_22 : decode cX2_paint 22 = .ok (.ireturn, 1) := by decide +kernel
theorem dX2_paint_23 : decode cX2_paint 23 = .ok (.aload_n 0, 1) := by decide +kernel
theorem dX2_paint_24 : decode cX2_paint 24 = .ok (.getfield 20, 3) := by decide +kernel
theorem dX2_paint_27 : decode cX2_paint 27 = .ok (.getfield 84, 3) := by decide +kernel
theorem dX2_paint_30 : decode cX2_paint 30 = .ok (.iload_n 1, 1) := by decide +kernel
theorem dX2_paint_31 : decode cX2_paint 31 = .ok (.iaload, 1) := by decide +kernel
theorem dX2_paint_32 : decode cX2_paint 32 = .ok (.istore_n 3, 1) := by decide +kernel
theorem dX2_paint_33 : decode cX2_paint 33 = .ok (.aload_n 0, 1) := by decide +kernel
theorem dX2_paint_34 : decode cX2_paint 34 = .ok (.getfield 20, 3) := by decide +kernel
theorem dX2_paint_37 : decode cX2_paint 37 = .ok (.getfield 84, 3) := by decide +kernel
theorem dX2_paint_40 : decode cX2_paint 40 = .ok (.iload_n 1, 1) := by decide +kernel
theorem dX2_paint_41 : decode cX2_paint 41 = .ok (.iload_n 2, 1) := by decide +kernel
theorem dX2_paint_42 : decode cX2_paint 42 = .ok (.iastore, 1) := by decide +kernel
theorem dX2_paint_43 : decode cX2_paint 43 = .ok (.iload_n 3, 1) := by decide +kernel
theorem dX2_paint_44 : decode cX2_paint 44 = .ok (.ireturn, 1) := by decide +kernel
set_option maxRecDepth 20000 in
theorem ggX2_load_X0_has : GoodIn wsX2_load wsX0_has := goodIn_r _ [7, 8, 18, 19, 20, 21, 22, 23] (by decide +kernel) (by decide +kernel)
set_option maxRecDepth 20000 in
theorem gX2_load_X0_has : GoodIn wsX2_load (wsV RX2 78 RX0 yX0_has wsX0_has) := goodIn_app (goodIn_of _ (by decide +kernel)) ggX2_load_X0_has
theorem dX2_load_0 : decode cX2_load 0 = .ok (.aload_n 0, 1) := by decide +kernel
theorem dX2_load_1 : decode cX2_load 1 = .ok (.getfield 20, 3) := by decide +kernel
theorem dX2_load_4 : decode cX2_load 4 = .ok (.iload_n 1, 1) := by decide +kernel
theorem dX2_load_5 : decode cX2_load 5 = .ok (.invokevirtual 78, 3) := by decide +kernel
theorem dX2_load_8 : decode cX2_load 8 = .ok (.ifCond .ne 5, 3) := by decide +kernel
theorem dX2_load_11 : decode cX2_load 11 = .ok (.iconst (-1), 1) := by decide +kernel
theorem dX2_load_12 : decode cX2_load 12 = .ok (.ireturn, 1) := by decide +kernel
theorem dX2_load_13 : decode cX2_load 13 = .ok (.iload_n 2, 1) := by decide +kernel
theorem dX2_load_14 : decode cX2_load 14 = .ok (.iconst 1, 1) := by decide +kernel
theorem dX2_load_15 : decode cX2_load 15 = .ok (.if_icmp .lt 9, 3) := by decide +kernel
theorem dX2_load_18 : decode cX2_load 18 = .ok (.iload_n 2, 1) := by decide +kernel
theorem dX2_load_19 : decode cX2_load 19 = .ok (.bipush 9, 2) := by decide +kernel
theorem dX2_load_21 : decode cX2_load 21 = .ok (.if_icmp .le 6, 3) := by decide +kernel
theorem dX2_load_24 : decode cX2_load 24 = .ok (.bipush (-2), 2) := by decide +kernel
theorem dX2_load_26 : decode cX2_load 26 = .ok (.ireturn, 1) := by decide +kernel
theorem dX2_load_27 : decode cX2_load 27 = .ok (.aload_n 0, 1) := by decide +kernel
theorem dX2_load_28 : decode cX2_load 28 = .ok (.getfield 20, 3) := by decide +kernel
theorem dX2_load_31 : decode cX2_load 31 = .ok (.getfield 87, 3) := by decide +kernel
theorem dX2_load_34 : decode cX2_load 34 = .ok (.iload_n 1, 1) := by decide +kernel
theorem dX2_load_35 : decode cX2_load 35 = .ok (.iaload, 1) := by decide +kernel
theorem dX2_load_36 : decode cX2_load 36 = .ok (.istore_n 3, 1) := by decide +kernel
theorem dX2_load_37 : decode cX2_load 37 = .ok (.aload_n 0, 1) := by decide +kernel
theorem dX2_load_38 : decode cX2_load 38 = .ok (.getfield 20, 3) := by decide +kernel
theorem dX2_load_41 : decode cX2_load 41 = .ok (.getfield 87, 3) := by decide +kernel
theorem dX2_load_44 : decode cX2_load 44 = .ok (.iload_n 1, 1) := by decide +kernel
theorem dX2_load_45 : decode cX2_load 45 = .ok (.iload_n 2, 1) := by decide +kernel
theorem dX2_load_46 : decode cX2_load 46 = .ok (.iastore, 1) := by decide +kernel
theorem dX2_load_47 : decode cX2_load 47 = .ok (.iload_n 3, 1) := by decide +kernel
theorem dX2_load_48 : decode cX2_load 48 = .ok (.ireturn, 1) := by decide +kernel
set_option maxRecDepth 20000 in
theorem ggX2_poll_X2_hasFront : GoodIn wsX2_poll wsX2_hasFront := goodIn_r _ [6, 1, 7, 64, 65, 66, 67, 68, 69, 70, 71, 72, 73, 74, 75, 76, 77, 78] (by decide +kernel) (by decide +kernel)
set_option maxRecDepth 20000 in
theorem gX2_poll_X2_hasFront : GoodIn wsX2_poll (wsV RX2 105 RX2 yX2_hasFront wsX2_hasFront) := goodIn_app (goodIn_of _ (by decide +kernel)) ggX2_poll_X2_hasFront
set_option maxRecDepth 20000 in
theorem ggX2_poll_X0_votesOf : GoodIn wsX2_poll wsX0_votesOf := goodIn_r _ [12, 13, 14, 15, 11, 16, 17, 18, 19, 20, 21, 22, 23, 24, 25, 26, 27, 28, 29, 30, 31, 32, 33, 34, 35, 36, 37, 38, 39, 40, 41, 5, 42, 43, 44, 45, 46, 47, 48, 49, 50, 51, 52, 53, 54, 73, 74, 75, 76, 77, 78] (by decide +kernel) (by decide +kernel)
set_option maxRecDepth 20000 in
theorem gX2_poll_X0_votesOf : GoodIn wsX2_poll (wsV RX2 109 RX0 yX0_votesOf wsX0_votesOf) := goodIn_app (goodIn_of _ (by decide +kernel)) ggX2_poll_X0_votesOf
set_option maxRecDepth 20000 in
theorem ggX2_poll_X0_isCarried : GoodIn wsX2_poll wsX0_isCarried := goodIn_r _ [58, 17, 59, 60, 61, 11, 62, 18, 19, 20, 21, 22, 23, 24, 25, 26, 27, 28, 29, 30, 31, 32, 33, 34, 35, 36, 43, 44, 45, 46, 47, 48, 49, 50, 51, 52, 53, 5, 54, 73, 74, 75, 76, 77, 78] (by decide +kernel) (by decide +kernel)
set_option maxRecDepth 20000 in
theorem gX2_poll_X0_isCarried : GoodIn wsX2_poll (wsV RX2 112 RX0 yX0_isCarried wsX0_isCarried) := goodIn_app (goodIn_of _ (by decide +kernel)) ggX2_poll_X0_isCarried
set_option maxRecDepth 20000 in
theorem ggX2_poll_X0_chairsOf : GoodIn wsX2_poll wsX0_chairsOf := goodIn_r _ [16, 17, 18, 19, 20, 11, 21, 22, 23, 24, 25, 26, 27, 28, 29, 30, 31, 32, 33, 34, 35, 36, 73, 74, 75, 76, 77, 78] (by decide +kernel) (by decide +kernel)
set_option maxRecDepth 20000 in
theorem gX2_poll_X0_chairsOf : GoodIn wsX2_poll (wsV RX2 115 RX0 yX0_chairsOf wsX0_chairsOf) := goodIn_app (goodIn_of _ (by decide +kernel)) ggX2_poll_X0_chairsOf
theorem dX2_poll_0 : decode cX2_poll 0 = .ok (.aload_n 0, 1) := by decide +kernel
theorem dX2_poll_1 : decode cX2_poll 1 = .ok (.invokevirtual 105, 3) := by decide +kernel
theorem dX2_poll_4 : decode cX2_poll 4 = .ok (.ifCond .ne 6, 3) := by decide +kernel
theorem dX2_poll_7 : decode cX2_poll 7 = .ok (.bipush (-3), 2) := by decide +kernel
theorem dX2_poll_9 : decode cX2_poll 9 = .ok (.ireturn, 1) := by decide +kernel
theorem dX2_poll_10 : decode cX2_poll 10 = .ok (.iload_n 1, 1) := by decide +kernel
theorem dX2_poll_11 : decode cX2_poll 11 = .ok (.tableswitch 85 0 4 #[33, 42, 51, 67, 76], 33) := by decide +kernel
theorem dX2_poll_44 : decode cX2_poll 44 = .ok (.aload_n 0, 1) := by decide +kernel
theorem dX2_poll_45 : decode cX2_poll 45 = .ok (.getfield 20, 3) := by decide +kernel
theorem dX2_poll_48 : decode cX2_poll 48 = .ok (.iconst 1, 1) := by decide +kernel
theorem dX2_poll_49 : decode cX2_poll 49 = .ok (.invokevirtual 109, 3) := by decide +kernel
theorem dX2_poll_52 : decode cX2_poll 52 = .ok (.ireturn, 1) := by decide +kernel
theorem dX2_poll_53 : decode cX2_poll 53 = .ok (.aload_n 0, 1) := by decide +kernel
theorem dX2_poll_54 : decode cX2_poll 54 = .ok (.getfield 20, 3) := by decide +kernel
theorem dX2_poll_57 : decode cX2_poll 57 = .ok (.iconst 2, 1) := by decide +kernel
theorem dX2_poll_58 : decode cX2_poll 58 = .ok (.invokevirtual 109, 3) := by decide +kernel
theorem dX2_poll_61 : decode cX2_poll 61 = .ok (.ireturn, 1) := by decide +kernel
theorem dX2_poll_62 : decode cX2_poll 62 = .ok (.aload_n 0, 1) := by decide +kernel
theorem dX2_poll_63 : decode cX2_poll 63 = .ok (.getfield 20, 3) := by decide +kernel
theorem dX2_poll_66 : decode cX2_poll 66 = .ok (.invokevirtual 112, 3) := by decide +kernel
theorem dX2_poll_69 : decode cX2_poll 69 = .ok (.ifCond .eq 7, 3) := by decide +kernel
theorem dX2_poll_72 : decode cX2_poll 72 = .ok (.iconst 1, 1) := by decide +kernel
theorem dX2_poll_73 : decode cX2_poll 73 = .ok (.goto 4, 3) := by decide +kernel
theorem dX2_poll_76 : decode cX2_poll 76 = .ok (.iconst 0, 1) := by decide +kernel
theorem dX2_poll_77 : decode cX2_poll 77 = .ok (.ireturn, 1) := by decide +kernel
theorem dX2_poll_78 : decode cX2_poll 78 = .ok (.aload_n 0, 1) := by decide +kernel
theorem dX2_poll_79 : decode cX2_poll 79 = .ok (.getfield 20, 3) := by decide +kernel
theorem dX2_poll_82 : decode cX2_poll 82 = .ok (.iconst 1, 1) := by decide +kernel
theorem dX2_poll_83 : decode cX2_poll 83 = .ok (.invokevirtual 115, 3) := by decide +kernel
theorem dX2_poll_86 : decode cX2_poll 86 = .ok (.ireturn, 1) := by decide +kernel
theorem dX2_poll_87 : decode cX2_poll 87 = .ok (.aload_n 0, 1) := by decide +kernel
theorem dX2_poll_88 : decode cX2_poll 88 = .ok (.getfield 20, 3) := by decide +kernel
theorem dX2_poll_91 : decode cX2_poll 91 = .ok (.iconst 2, 1) := by decide +kernel
theorem dX2_poll_92 : decode cX2_poll 92 = .ok (.invokevirtual 115, 3) := by decide +kernel
theorem dX2_poll_95 : decode cX2_poll 95 = .ok (.ireturn, 1) := by decide +kernel
theorem dX2_poll_96 : decode cX2_poll 96 = .ok (.bipush (-2), 2) := by decide +kernel
theorem dX2_poll_98 : decode cX2_poll 98 = .ok (.ireturn, 1) := by decide +kernel
set_option maxRecDepth 20000 in
theorem ggX2_firstFaultOfText_X1_at : GoodIn wsX2_firstFaultOfText wsX1_at := goodIn_r _ [5, 6, 7, 8, 9, 4, 10, 11, 25, 26, 27, 28] (by decide +kernel) (by decide +kernel)
set_option maxRecDepth 20000 in
theorem gX2_firstFaultOfText_X1_at : GoodIn wsX2_firstFaultOfText (wsV RX2 118 RX1 yX1_at wsX1_at) := goodIn_app (goodIn_of _ (by decide +kernel)) ggX2_firstFaultOfText_X1_at
set_option maxRecDepth 20000 in
theorem ggX2_firstFaultOfText_X2_goesOn : GoodIn wsX2_firstFaultOfText wsX2_goesOn := goodIn_r _ [15, 16, 17, 14, 18, 19, 20, 21, 22, 23, 24] (by decide +kernel) (by decide +kernel)
set_option maxRecDepth 20000 in
theorem gX2_firstFaultOfText_X2_goesOn : GoodIn wsX2_firstFaultOfText (va_wsS RX2 121 yX2_goesOn wsX2_goesOn) := goodIn_app (goodIn_of _ (by decide +kernel)) ggX2_firstFaultOfText_X2_goesOn
theorem dX2_firstFaultOfText_0 : decode cX2_firstFaultOfText 0 = .ok (.iconst 0, 1) := by decide +kernel
theorem dX2_firstFaultOfText_1 : decode cX2_firstFaultOfText 1 = .ok (.istore_n 3, 1) := by decide +kernel
theorem dX2_firstFaultOfText_2 : decode cX2_firstFaultOfText 2 = .ok (.iload_n 3, 1) := by decide +kernel
theorem dX2_firstFaultOfText_3 : decode cX2_firstFaultOfText 3 = .ok (.iload_n 2, 1) := by decide +kernel
theorem dX2_firstFaultOfText_4 : decode cX2_firstFaultOfText 4 = .ok (.if_icmp .ge 25, 3) := by decide +kernel
theorem dX2_firstFaultOfText_7 : decode cX2_firstFaultOfText 7 = .ok (.iload_n 3, 1) := by decide +kernel
theorem dX2_firstFaultOfText_8 : decode cX2_firstFaultOfText 8 = .ok (.aload_n 0, 1) := by decide +kernel
theorem dX2_firstFaultOfText_9 : decode cX2_firstFaultOfText 9 = .ok (.iload_n 1, 1) := by decide +kernel
theorem dX2_firstFaultOfText_10 : decode cX2_firstFaultOfText 10 = .ok (.iload_n 3, 1) := by decide +kernel
theorem dX2_firstFaultOfText_11 : decode cX2_firstFaultOfText 11 = .ok (.iadd, 1) := by decide +kernel
theorem dX2_firstFaultOfText_12 : decode cX2_firstFaultOfText 12 = .ok (.invokevirtual 118, 3) := by decide +kernel
theorem dX2_firstFaultOfText_15 : decode cX2_firstFaultOfText 15 = .ok (.invokestatic 121, 3) := by decide +kernel
theorem dX2_firstFaultOfText_18 : decode cX2_firstFaultOfText 18 = .ok (.ifCond .ne 5, 3) := by decide +kernel
theorem dX2_firstFaultOfText_21 : decode cX2_firstFaultOfText 21 = .ok (.iload_n 3, 1) := by decide +kernel
theorem dX2_firstFaultOfText_22 : decode cX2_firstFaultOfText 22 = .ok (.ireturn, 1) := by decide +kernel
theorem dX2_firstFaultOfText_23 : decode cX2_firstFaultOfText 23 = .ok (.iinc 3 1, 3) := by decide +kernel
theorem dX2_firstFaultOfText_26 : decode cX2_firstFaultOfText 26 = .ok (.goto (-24), 3) := by decide +kernel
theorem dX2_firstFaultOfText_29 : decode cX2_firstFaultOfText 29 = .ok (.iload_n 2, 1) := by decide +kernel
theorem dX2_firstFaultOfText_30 : decode cX2_firstFaultOfText 30 = .ok (.bipush 10, 2) := by decide +kernel
theorem dX2_firstFaultOfText_32 : decode cX2_firstFaultOfText 32 = .ok (.if_icmp .le 15, 3) := by decide +kernel
theorem dX2_firstFaultOfText_35 : decode cX2_firstFaultOfText 35 = .ok (.iload_n 2, 1) := by decide +kernel
theorem dX2_firstFaultOfText_36 : decode cX2_firstFaultOfText 36 = .ok (.iconst 1, 1) := by decide +kernel
theorem dX2_firstFaultOfText_37 : decode cX2_firstFaultOfText 37 = .ok (.isub, 1) := by decide +kernel
theorem dX2_firstFaultOfText_38 : decode cX2_firstFaultOfText 38 = .ok (.iconst 5, 1) := by decide +kernel
theorem dX2_firstFaultOfText_39 : decode cX2_firstFaultOfText 39 = .ok (.irem, 1) := by decide +kernel
theorem dX2_firstFaultOfText_40 : decode cX2_firstFaultOfText 40 = .ok (.ifCond .ne 7, 3) := by decide +kernel
theorem dX2_firstFaultOfText_43 : decode cX2_firstFaultOfText 43 = .ok (.iconst 1, 1) := by decide +kernel
theorem dX2_firstFaultOfText_44 : decode cX2_firstFaultOfText 44 = .ok (.goto 4, 3) := by decide +kernel
theorem dX2_firstFaultOfText_47 : decode cX2_firstFaultOfText 47 = .ok (.iconst 0, 1) := by decide +kernel
theorem dX2_firstFaultOfText_48 : decode cX2_firstFaultOfText 48 = .ok (.istore_n 3, 1) := by decide +kernel
theorem dX2_firstFaultOfText_49 : decode cX2_firstFaultOfText 49 = .ok (.iload_n 3, 1) := by decide +kernel
theorem dX2_firstFaultOfText_50 : decode cX2_firstFaultOfText 50 = .ok (.ifCond .eq 8, 3) := by decide +kernel
theorem dX2_firstFaultOfText_53 : decode cX2_firstFaultOfText 53 = .ok (.bipush (-9), 2) := by decide +kernel
theorem dX2_firstFaultOfText_55 : decode cX2_firstFaultOfText 55 = .ok (.goto 4, 3) := by decide +kernel
theorem dX2_firstFaultOfText_58 : decode cX2_firstFaultOfText 58 = .ok (.iload_n 2, 1) := by decide +kernel
theorem dX2_firstFaultOfText_59 : decode cX2_firstFaultOfText 59 = .ok (.ireturn, 1) := by decide +kernel
set_option maxRecDepth 20000 in
theorem ggX2_goesOn_X2_kindOf : GoodIn wsX2_goesOn wsX2_kindOf := goodIn_r _ [4] (by decide +kernel) (by decide +kernel)
set_option maxRecDepth 20000 in
theorem gX2_goesOn_X2_kindOf : GoodIn wsX2_goesOn (va_wsS RX2 124 yX2_kindOf wsX2_kindOf) := goodIn_app (goodIn_of _ (by decide +kernel)) ggX2_goesOn_X2_kindOf
set_option maxRecDepth 20000 in
theorem ggX2_goesOn_X2_isStripe : GoodIn wsX2_goesOn wsX2_isStripe := goodIn_r _ [7] (by decide +kernel) (by decide +kernel)
set_option maxRecDepth 20000 in
theorem gX2_goesOn_X2_isStripe : GoodIn wsX2_goesOn (va_wsS RX2 102 yX2_isStripe wsX2_isStripe) := goodIn_app (goodIn_of _ (by decide +kernel)) ggX2_goesOn_X2_isStripe
set_option maxRecDepth 20000 in
theorem ggX2_goesOn_X2_isWay : GoodIn wsX2_goesOn wsX2_isWay := goodIn_r _ [10] (by decide +kernel) (by decide +kernel)
set_option maxRecDepth 20000 in
theorem gX2_goesOn_X2_isWay : GoodIn wsX2_goesOn (va_wsS RX2 127 yX2_isWay wsX2_isWay) := goodIn_app (goodIn_of _ (by decide +kernel)) ggX2_goesOn_X2_isWay
theorem dX2_goesOn_0 : decode cX2_goesOn 0 = .ok (.iload_n 0, 1) := by decide +kernel
theorem dX2_goesOn_1 : decode cX2_goesOn 1 = .ok (.ifCond .ne 15, 3) := by decide +kernel
theorem dX2_goesOn_4 : decode cX2_goesOn 4 = .ok (.iload_n 1, 1) := by decide +kernel
theorem dX2_goesOn_5 : decode cX2_goesOn 5 = .ok (.bipush 102, 2) := by decide +kernel
theorem dX2_goesOn_7 : decode cX2_goesOn 7 = .ok (.if_icmp .ne 7, 3) := by decide +kernel
theorem dX2_goesOn_10 : decode cX2_goesOn 10 = .ok (.iconst 1, 1) := by decide +kernel
theorem dX2_goesOn_11 : decode cX2_goesOn 11 = .ok (.goto 4, 3) := by decide +kernel
theorem dX2_goesOn_14 : decode cX2_goesOn 14 = .ok (.iconst 0, 1) := by decide +kernel
theorem dX2_goesOn_15 : decode cX2_goesOn 15 = .ok (.ireturn, 1) := by decide +kernel
theorem dX2_goesOn_16 : decode cX2_goesOn 16 = .ok (.iload_n 0, 1) := by decide +kernel
theorem dX2_goesOn_17 : decode cX2_goesOn 17 = .ok (.bipush 40, 2) := by decide +kernel
theorem dX2_goesOn_19 : decode cX2_goesOn 19 = .ok (.if_icmp .le 5, 3) := by decide +kernel
theorem dX2_goesOn_22 : decode cX2_goesOn 22 = .ok (.iconst 0, 1) := by decide +kernel
theorem dX2_goesOn_23 : decode cX2_goesOn 23 = .ok (.ireturn, 1) := by decide +kernel
theorem dX2_goesOn_24 : decode cX2_goesOn 24 = .ok (.iload_n 0, 1) := by decide +kernel
theorem dX2_goesOn_25 : decode cX2_goesOn 25 = .ok (.iconst 1, 1) := by decide +kernel
theorem dX2_goesOn_26 : decode cX2_goesOn 26 = .ok (.isub, 1) := by decide +kernel
theorem dX2_goesOn_27 : decode cX2_goesOn 27 = .ok (.iconst 5, 1) := by decide +kernel
theorem dX2_goesOn_28 : decode cX2_goesOn 28 = .ok (.irem, 1) := by decide +kernel
theorem dX2_goesOn_29 : decode cX2_goesOn 29 = .ok (.tableswitch 84 0 3 #[31, 43, 58, 66], 31) := by decide +kernel
theorem dX2_goesOn_60 : decode cX2_goesOn 60 = .ok (.iload_n 1, 1) := by decide +kernel
theorem dX2_goesOn_61 : decode cX2_goesOn 61 = .ok (.bipush 59, 2) := by decide +kernel
theorem dX2_goesOn_63 : decode cX2_goesOn 63 = .ok (.if_icmp .ne 7, 3) := by decide +kernel
theorem dX2_goesOn_66 : decode cX2_goesOn 66 = .ok (.iconst 1, 1) := by decide +kernel
theorem dX2_goesOn_67 : decode cX2_goesOn 67 = .ok (.goto 4, 3) := by decide +kernel
theorem dX2_goesOn_70 : decode cX2_goesOn 70 = .ok (.iconst 0, 1) := by decide +kernel
theorem dX2_goesOn_71 : decode cX2_goesOn 71 = .ok (.ireturn, 1) := by decide +kernel
theorem dX2_goesOn_72 : decode cX2_goesOn 72 = .ok (.iload_n 1, 1) := by decide +kernel
theorem dX2_goesOn_73 : decode cX2_goesOn 73 = .ok (.invokestatic 124, 3) := by decide +kernel
theorem dX2_goesOn_76 : decode cX2_goesOn 76 = .ok (.bipush (-9), 2) := by decide +kernel
theorem dX2_goesOn_78 : decode cX2_goesOn 78 = .ok (.if_icmp .eq 7, 3) := by decide +kernel
theorem dX2_goesOn_81 : decode cX2_goesOn 81 = .ok (.iconst 1, 1) := by decide +kernel
theorem dX2_goesOn_82 : decode cX2_goesOn 82 = .ok (.goto 4, 3) := by decide +kernel
theorem dX2_goesOn_85 : decode cX2_goesOn 85 = .ok (.iconst 0, 1) := by decide +kernel
theorem dX2_goesOn_86 : decode cX2_goesOn 86 = .ok (.ireturn, 1) := by decide +kernel
theorem dX2_goesOn_87 : decode cX2_goesOn 87 = .ok (.iload_n 1, 1) := by decide +kernel
theorem dX2_goesOn_88 : decode cX2_goesOn 88 = .ok (.bipush 48, 2) := by decide +kernel
theorem dX2_goesOn_90 : decode cX2_goesOn 90 = .ok (.isub, 1) := by decide +kernel
theorem dX2_goesOn_91 : decode cX2_goesOn 91 = .ok (.invokestatic 102, 3) := by decide +kernel
theorem dX2_goesOn_94 : decode cX2_goesOn 94 = .ok (.ireturn, 1) := by decide +kernel
theorem dX2_goesOn_95 : decode cX2_goesOn 95 = .ok (.iload_n 1, 1) := by decide +kernel
theorem dX2_goesOn_96 : decode cX2_goesOn 96 = .ok (.bipush 49, 2) := by decide +kernel
theorem dX2_goesOn_98 : decode cX2_goesOn 98 = .ok (.if_icmp .lt 13, 3) := by decide +kernel
theorem dX2_goesOn_101 : decode cX2_goesOn 101 = .ok (.iload_n 1, 1) := by decide +kernel
theorem dX2_goesOn_102 : decode cX2_goesOn 102 = .ok (.bipush 57, 2) := by decide +kernel
theorem dX2_goesOn_104 : decode cX2_goesOn 104 = .ok (.if_icmp .gt 7, 3) := by decide +kernel
theorem dX2_goesOn_107 : decode cX2_goesOn 107 = .ok (.iconst 1, 1) := by decide +kernel
theorem dX2_goesOn_108 : decode cX2_goesOn 108 = .ok (.goto 4, 3) := by decide +kernel
theorem dX2_goesOn_111 : decode cX2_goesOn 111 = .ok (.iconst 0, 1) := by decide +kernel
theorem dX2_goesOn_112 : decode cX2_goesOn 112 = .ok (.ireturn, 1) := by decide +kernel
theorem dX2_goesOn_113 : decode cX2_goesOn 113 = .ok (.iload_n 1, 1) := by decide +kernel
theorem dX2_goesOn_114 : decode cX2_goesOn 114 = .ok (.bipush 48, 2) := by decide +kernel
theorem dX2_goesOn_116 : decode cX2_goesOn 116 = .ok (.isub, 1) := by decide +kernel
theorem dX2_goesOn_117 : decode cX2_goesOn 117 = .ok (.invokestatic 127, 3) := by decide +kernel
theorem dX2_goesOn_120 : decode cX2_goesOn 120 = .ok (.ireturn, 1) := by decide +kernel
theorem dX2_kindOf_0 : decode cX2_kindOf 0 = .ok (.iload_n 0, 1) := by decide +kernel
theorem dX2_kindOf_1 : decode cX2_kindOf 1 = .ok (.lookupswitch 41 #[(98, 39), (112, 35), (115, 37)], 35) := by decide +kernel
theorem dX2_kindOf_36 : decode cX2_kindOf 36 = .ok (.iconst 0, 1) := by decide +kernel
theorem dX2_kindOf_37 : decode cX2_kindOf 37 = .ok (.ireturn, 1) := by decide +kernel
theorem dX2_kindOf_38 : decode cX2_kindOf 38 = .ok (.iconst 1, 1) := by decide +kernel
theorem dX2_kindOf_39 : decode cX2_kindOf 39 = .ok (.ireturn, 1) := by decide +kernel
theorem dX2_kindOf_40 : decode cX2_kindOf 40 = .ok (.iconst 2, 1) := by decide +kernel
theorem dX2_kindOf_41 : decode cX2_kindOf 41 = .ok (.ireturn, 1) := by decide +kernel
theorem dX2_kindOf_42 : decode cX2_kindOf 42 = .ok (.bipush (-9), 2) := by decide +kernel
theorem dX2_kindOf_44 : decode cX2_kindOf 44 = .ok (.ireturn, 1) := by decide +kernel
set_option maxRecDepth 20000 in
theorem ggX2_takeText_X1_at : GoodIn wsX2_takeText wsX1_at := goodIn_r _ [17, 18, 19, 20, 21, 16, 22, 23, 43, 44, 45, 46] (by decide +kernel) (by decide +kernel)
set_option maxRecDepth 20000 in
theorem gX2_takeText_X1_at : GoodIn wsX2_takeText (wsV RX2 118 RX1 yX1_at wsX1_at) := goodIn_app (goodIn_of _ (by decide +kernel)) ggX2_takeText_X1_at
set_option maxRecDepth 20000 in
theorem ggX2_takeText_X2_kindOf : GoodIn wsX2_takeText wsX2_kindOf := goodIn_r _ [27] (by decide +kernel) (by decide +kernel)
set_option maxRecDepth 20000 in
theorem gX2_takeText_X2_kindOf : GoodIn wsX2_takeText (va_wsS RX2 124 yX2_kindOf wsX2_kindOf) := goodIn_app (goodIn_of _ (by decide +kernel)) ggX2_takeText_X2_kindOf
theorem dX2_takeText_0 : decode cX2_takeText 0 = .ok (.aload_n 0, 1) := by decide +kernel
theorem dX2_takeText_1 : decode cX2_takeText 1 = .ok (.getfield 20, 3) := by decide +kernel
theorem dX2_takeText_4 : decode cX2_takeText 4 = .ok (.iload_n 3, 1) := by decide +kernel
theorem dX2_takeText_5 : decode cX2_takeText 5 = .ok (.iconst 1, 1) := by decide +kernel
theorem dX2_takeText_6 : decode cX2_takeText 6 = .ok (.isub, 1) := by decide +kernel
theorem dX2_takeText_7 : decode cX2_takeText 7 = .ok (.iconst 5, 1) := by decide +kernel
theorem dX2_takeText_8 : decode cX2_takeText 8 = .ok (.idiv, 1) := by decide +kernel
theorem dX2_takeText_9 : decode cX2_takeText 9 = .ok (.bipush 8, 2) := by decide +kernel
theorem dX2_takeText_11 : decode cX2_takeText 11 = .ok (.invokestatic 130, 3) := by decide +kernel
theorem dX2_takeText_14 : decode cX2_takeText 14 = .ok (.putfield 75, 3) := by decide +kernel
theorem dX2_takeText_17 : decode cX2_takeText 17 = .ok (.aload_n 0, 1) := by decide +kernel
theorem dX2_takeText_18 : decode cX2_takeText 18 = .ok (.getfield 20, 3) := by decide +kernel
theorem dX2_takeText_21 : decode cX2_takeText 21 = .ok (.iconst 0, 1) := by decide +kernel
theorem dX2_takeText_22 : decode cX2_takeText 22 = .ok (.putfield 136, 3) := by decide +kernel
theorem dX2_takeText_25 : decode cX2_takeText 25 = .ok (.aload_n 0, 1) := by decide +kernel
theorem dX2_takeText_26 : decode cX2_takeText 26 = .ok (.iconst 0, 1) := by decide +kernel
theorem dX2_takeText_27 : decode cX2_takeText 27 = .ok (.putfield 37, 3) := by decide +kernel
theorem dX2_takeText_30 : decode cX2_takeText 30 = .ok (.iconst 0, 1) := by decide +kernel
theorem dX2_takeText_31 : decode cX2_takeText 31 = .ok (.istore 4, 2) := by decide +kernel
theorem dX2_takeText_33 : decode cX2_takeText 33 = .ok (.iload 4, 2) := by decide +kernel
theorem dX2_takeText_35 : decode cX2_takeText 35 = .ok (.aload_n 0, 1) := by decide +kernel
theorem dX2_takeText_36 : decode cX2_takeText 36 = .ok (.getfield 20, 3) := by decide +kernel
theorem dX2_takeText_39 : decode cX2_takeText 39 = .ok (.getfield 75, 3) := by decide +kernel
theorem dX2_takeText_42 : decode cX2_takeText 42 = .ok (.if_icmp .ge 101, 3) := by decide +kernel
theorem dX2_takeText_45 : decode cX2_takeText 45 = .ok (.iload_n 2, 1) := by decide +kernel
theorem dX2_takeText_46 : decode cX2_takeText 46 = .ok (.iconst 2, 1) := by decide +kernel
theorem dX2_takeText_47 : decode cX2_takeText 47 = .ok (.iadd, 1) := by decide +kernel
theorem dX2_takeText_48 : decode cX2_takeText 48 = .ok (.iload 4, 2) := by decide +kernel
theorem dX2_takeText_50 : decode cX2_takeText 50 = .ok (.iconst 5, 1) := by decide +kernel
theorem dX2_takeText_51 : decode cX2_takeText 51 = .ok (.imul, 1) := by decide +kernel
theorem dX2_takeText_52 : decode cX2_takeText 52 = .ok (.iadd, 1) := by decide +kernel
theorem dX2_takeText_53 : decode cX2_takeText 53 = .ok (.istore 5, 2) := by decide +kernel
theorem dX2_takeText_55 : decode cX2_takeText 55 = .ok (.aload_n 0, 1) := by decide +kernel
theorem dX2_takeText_56 : decode cX2_takeText 56 = .ok (.getfield 20, 3) := by decide +kernel
theorem dX2_takeText_59 : decode cX2_takeText 59 = .ok (.getfield 81, 3) := by decide +kernel
theorem dX2_takeText_62 : decode cX2_takeText 62 = .ok (.iload 4, 2) := by decide +kernel
theorem dX2_takeText_64 : decode cX2_takeText 64 = .ok (.aload_n 1, 1) := by decide +kernel
theorem dX2_takeText_65 : decode cX2_takeText 65 = .ok (.iload 5, 2) := by decide +kernel
theorem dX2_takeText_67 : decode cX2_takeText 67 = .ok (.invokevirtual 118, 3) := by decide +kernel
theorem dX2_takeText_70 : decode cX2_takeText 70 = .ok (.invokestatic 124, 3) := by decide +kernel
theorem dX2_takeText_73 : decode cX2_takeText 73 = .ok (.iastore, 1) := by decide +kernel
theorem dX2_takeText_74 : decode cX2_takeText 74 = .ok (.aload_n 0, 1) := by decide +kernel
theorem dX2_takeText_75 : decode cX2_takeText 75 = .ok (.getfield 20, 3) := by decide +kernel
theorem dX2_takeText_78 : decode cX2_takeText 78 = .ok (.getfield 84, 3) := by decide +kernel
theorem dX2_takeText_81 : decode cX2_takeText 81 = .ok (.iload 4, 2) := by decide +kernel
theorem dX2_takeText_83 : decode cX2_takeText 83 = .ok (.aload_n 1, 1) := by decide +kernel
theorem dX2_takeText_84 : decode cX2_takeText 84 = .ok (.iload 5, 2) := by decide +kernel
theorem dX2_takeText_86 : decode cX2_takeText 86 = .ok (.iconst 1, 1) := by decide +kernel
theorem dX2_takeText_87 : decode cX2_takeText 87 = .ok (.iadd, 1) := by decide +kernel
theorem dX2_takeText_88 : decode cX2_takeText 88 = .ok (.invokevirtual 118, 3) := by decide +kernel
theorem dX2_takeText_91 : decode cX2_takeText 91 = .ok (.bipush 48, 2) := by decide +kernel
theorem dX2_takeText_93 : decode cX2_takeText 93 = .ok (.isub, 1) := by decide +kernel
