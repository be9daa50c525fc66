theorem dX0_takeOver_135 : decode cX0_takeOver 135 = .ok (.iconst 0, 1) := by decide +kernel
theorem dX0_takeOver_136 : decode cX0_takeOver 136 = .ok (.bipush 8, 2) := by decide +kernel
theorem dX0_takeOver_138 : decode cX0_takeOver 138 = .ok (.invokestatic 56, 3) := by decide +kernel
theorem dX0_takeOver_141 : decode cX0_takeOver 141 = .ok (.aload_n 1, 1) := by decide +kernel
theorem dX0_takeOver_142 : decode cX0_takeOver 142 = .ok (.getfield 50, 3) := by decide +kernel
theorem dX0_takeOver_145 : decode cX0_takeOver 145 = .ok (.iconst 0, 1) := by decide +kernel
theorem dX0_takeOver_146 : decode cX0_takeOver 146 = .ok (.aload_n 0, 1) := by decide +kernel
theorem dX0_takeOver_147 : decode cX0_takeOver 147 = .ok (.getfield 50, 3) := by decide +kernel
theorem dX0_takeOver_150 : decode cX0_takeOver 150 = .ok (.iconst 0, 1) := by decide +kernel
theorem dX0_takeOver_151 : decode cX0_takeOver 151 = .ok (.bipush 8, 2) := by decide +kernel
theorem dX0_takeOver_153 : decode cX0_takeOver 153 = .ok (.invokestatic 56, 3) := by decide +kernel
theorem dX0_takeOver_156 : decode cX0_takeOver 156 = .ok (.return_, 1) := by decide +kernel
theorem dX0_beginRun_0 : decode cX0_beginRun 0 = .ok (.aload_n 0, 1) := by decide +kernel
theorem dX0_beginRun_1 : decode cX0_beginRun 1 = .ok (.iconst 0, 1) := by decide +kernel
theorem dX0_beginRun_2 : decode cX0_beginRun 2 = .ok (.putfield 31, 3) := by decide +kernel
theorem dX0_beginRun_5 : decode cX0_beginRun 5 = .ok (.aload_n 0, 1) := by decide +kernel
theorem dX0_beginRun_6 : decode cX0_beginRun 6 = .ok (.iconst 0, 1) := by decide +kernel
theorem dX0_beginRun_7 : decode cX0_beginRun 7 = .ok (.putfield 41, 3) := by decide +kernel
theorem dX0_beginRun_10 : decode cX0_beginRun 10 = .ok (.iconst 0, 1) := by decide +kernel
theorem dX0_beginRun_11 : decode cX0_beginRun 11 = .ok (.istore_n 1, 1) := by decide +kernel
theorem dX0_beginRun_12 : decode cX0_beginRun 12 = .ok (.iload_n 1, 1) := by decide +kernel
theorem dX0_beginRun_13 : decode cX0_beginRun 13 = .ok (.bipush 64, 2) := by decide +kernel
theorem dX0_beginRun_15 : decode cX0_beginRun 15 = .ok (.if_icmp .ge 16, 3) := by decide +kernel
theorem dX0_beginRun_18 : decode cX0_beginRun 18 = .ok (.aload_n 0, 1) := by decide +kernel
theorem dX0_beginRun_19 : decode cX0_beginRun 19 = .ok (.getfield 34, 3) := by decide +kernel
theorem dX0_beginRun_22 : decode cX0_beginRun 22 = .ok (.iload_n 1, 1) := by decide +kernel
theorem dX0_beginRun_23 : decode cX0_beginRun 23 = .ok (.fconst 0, 1) := by decide +kernel
theorem dX0_beginRun_24 : decode cX0_beginRun 24 = .ok (.fastore, 1) := by decide +kernel
theorem dX0_beginRun_25 : decode cX0_beginRun 25 = .ok (.iinc 1 1, 3) := by decide +kernel
theorem dX0_beginRun_28 : decode cX0_beginRun 28 = .ok (.goto (-16), 3) := by decide +kernel
theorem dX0_beginRun_31 : decode cX0_beginRun 31 = .ok (.return_, 1) := by decide +kernel
set_option maxRecDepth 20000 in
theorem ggX0_change_X0_beginRun : GoodIn wsX0_change wsX0_beginRun := goodIn_r _ [6, 7, 8, 9, 10, 11, 12, 13, 14, 15, 16, 17, 18, 19, 20, 21, 22] (by decide +kernel) (by decide +kernel)
set_option maxRecDepth 20000 in
theorem gX0_change_X0_beginRun : GoodIn wsX0_change (wsV RX0 68 RX0 yX0_beginRun wsX0_beginRun) := goodIn_app (goodIn_of _ (by decide +kernel)) ggX0_change_X0_beginRun
theorem dX0_change_0 : decode cX0_change 0 = .ok (.iload_n 1, 1) := by decide +kernel
theorem dX0_change_1 : decode cX0_change 1 = .ok (.ifCond .lt 8, 3) := by decide +kernel
theorem dX0_change_4 : decode cX0_change 4 = .ok (.iload_n 1, 1) := by decide +kernel
theorem dX0_change_5 : decode cX0_change 5 = .ok (.iconst 4, 1) := by decide +kernel
theorem dX0_change_6 : decode cX0_change 6 = .ok (.if_icmp .lt 6, 3) := by decide +kernel
theorem dX0_change_9 : decode cX0_change 9 = .ok (.bipush (-2), 2) := by decide +kernel
theorem dX0_change_11 : decode cX0_change 11 = .ok (.ireturn, 1) := by decide +kernel
theorem dX0_change_12 : decode cX0_change 12 = .ok (.iload_n 2, 1) := by decide +kernel
theorem dX0_change_13 : decode cX0_change 13 = .ok (.getstatic 62, 3) := by decide +kernel
theorem dX0_change_16 : decode cX0_change 16 = .ok (.iload_n 1, 1) := by decide +kernel
theorem dX0_change_17 : decode cX0_change 17 = .ok (.iaload, 1) := by decide +kernel
theorem dX0_change_18 : decode cX0_change 18 = .ok (.if_icmp .lt 12, 3) := by decide +kernel
theorem dX0_change_21 : decode cX0_change 21 = .ok (.iload_n 2, 1) := by decide +kernel
theorem dX0_change_22 : decode cX0_change 22 = .ok (.getstatic 65, 3) := by decide +kernel
theorem dX0_change_25 : decode cX0_change 25 = .ok (.iload_n 1, 1) := by decide +kernel
theorem dX0_change_26 : decode cX0_change 26 = .ok (.iaload, 1) := by decide +kernel
theorem dX0_change_27 : decode cX0_change 27 = .ok (.if_icmp .le 6, 3) := by decide +kernel
theorem dX0_change_30 : decode cX0_change 30 = .ok (.bipush (-2), 2) := by decide +kernel
theorem dX0_change_32 : decode cX0_change 32 = .ok (.ireturn, 1) := by decide +kernel
theorem dX0_change_33 : decode cX0_change 33 = .ok (.aload_n 0, 1) := by decide +kernel
theorem dX0_change_34 : decode cX0_change 34 = .ok (.getfield 9, 3) := by decide +kernel
theorem dX0_change_37 : decode cX0_change 37 = .ok (.iload_n 1, 1) := by decide +kernel
theorem dX0_change_38 : decode cX0_change 38 = .ok (.iaload, 1) := by decide +kernel
theorem dX0_change_39 : decode cX0_change 39 = .ok (.istore_n 3, 1) := by decide +kernel
theorem dX0_change_40 : decode cX0_change 40 = .ok (.aload_n 0, 1) := by decide +kernel
theorem dX0_change_41 : decode cX0_change 41 = .ok (.getfield 9, 3) := by decide +kernel
theorem dX0_change_44 : decode cX0_change 44 = .ok (.iload_n 1, 1) := by decide +kernel
theorem dX0_change_45 : decode cX0_change 45 = .ok (.iload_n 2, 1) := by decide +kernel
theorem dX0_change_46 : decode cX0_change 46 = .ok (.iastore, 1) := by decide +kernel
theorem dX0_change_47 : decode cX0_change 47 = .ok (.iload_n 1, 1) := by decide +kernel
theorem dX0_change_48 : decode cX0_change 48 = .ok (.iconst 3, 1) := by decide +kernel
theorem dX0_change_49 : decode cX0_change 49 = .ok (.if_icmp .eq 7, 3) := by decide +kernel
theorem dX0_change_52 : decode cX0_change 52 = .ok (.aload_n 0, 1) := by decide +kernel
theorem dX0_change_53 : decode cX0_change 53 = .ok (.invokevirtual 68, 3) := by decide +kernel
theorem dX0_change_56 : decode cX0_change 56 = .ok (.iload_n 3, 1) := by decide +kernel
theorem dX0_change_57 : decode cX0_change 57 = .ok (.ireturn, 1) := by decide +kernel
set_option maxRecDepth 20000 in
theorem ggX0_lay_X5_placeOf : GoodIn wsX0_lay wsX5_placeOf := goodIn_r _ [4] (by decide +kernel) (by decide +kernel)
set_option maxRecDepth 20000 in
theorem gX0_lay_X5_placeOf_n71 : GoodIn wsX0_lay (wsX5_placeOf) := ggX0_lay_X5_placeOf
set_option maxRecDepth 20000 in
theorem ggX0_lay_X5_isNet : GoodIn wsX0_lay wsX5_isNet := goodIn_r _ [6] (by decide +kernel) (by decide +kernel)
set_option maxRecDepth 20000 in
theorem gX0_lay_X5_isNet_n75 : GoodIn wsX0_lay (wsX5_isNet) := ggX0_lay_X5_isNet
set_option maxRecDepth 20000 in
theorem ggX0_lay_X0_isNeededByTouch : GoodIn wsX0_lay wsX0_isNeededByTouch := goodIn_r _ [11, 12, 13, 14, 1, 15, 3, 16, 17, 18, 19, 27, 28, 29, 30, 31, 32, 33, 34, 35, 36, 37, 38, 39] (by decide +kernel) (by decide +kernel)
set_option maxRecDepth 20000 in
theorem gX0_lay_X0_isNeededByTouch : GoodIn wsX0_lay (wsV RX0 79 RX0 yX0_isNeededByTouch wsX0_isNeededByTouch) := goodIn_app (goodIn_of _ (by decide +kernel)) ggX0_lay_X0_isNeededByTouch
set_option maxRecDepth 20000 in
theorem ggX0_lay_X0_beginRun : GoodIn wsX0_lay wsX0_beginRun := goodIn_r _ [23, 24, 25, 26, 27, 28, 29, 30, 31, 32, 33, 34, 35, 36, 37, 38, 39] (by decide +kernel) (by decide +kernel)
set_option maxRecDepth 20000 in
theorem gX0_lay_X0_beginRun : GoodIn wsX0_lay (wsV RX0 68 RX0 yX0_beginRun wsX0_beginRun) := goodIn_app (goodIn_of _ (by decide +kernel)) ggX0_lay_X0_beginRun
theorem dX0_lay_0 : decode cX0_lay 0 = .ok (.iload_n 1, 1) := by decide +kernel
theorem dX0_lay_1 : decode cX0_lay 1 = .ok (.iload_n 2, 1) := by decide +kernel
theorem dX0_lay_2 : decode cX0_lay 2 = .ok (.invokestatic 71, 3) := by decide +kernel
theorem dX0_lay_5 : decode cX0_lay 5 = .ok (.istore 4, 2) := by decide +kernel
theorem dX0_lay_7 : decode cX0_lay 7 = .ok (.iload 4, 2) := by decide +kernel
theorem dX0_lay_9 : decode cX0_lay 9 = .ok (.ifCond .ge 5, 3) := by decide +kernel
theorem dX0_lay_12 : decode cX0_lay 12 = .ok (.iconst (-1), 1) := by decide +kernel
theorem dX0_lay_13 : decode cX0_lay 13 = .ok (.ireturn, 1) := by decide +kernel
theorem dX0_lay_14 : decode cX0_lay 14 = .ok (.iload_n 3, 1) := by decide +kernel
theorem dX0_lay_15 : decode cX0_lay 15 = .ok (.ifCond .eq 13, 3) := by decide +kernel
theorem dX0_lay_18 : decode cX0_lay 18 = .ok (.iload_n 3, 1) := by decide +kernel
theorem dX0_lay_19 : decode cX0_lay 19 = .ok (.invokestatic 75, 3) := by decide +kernel
theorem dX0_lay_22 : decode cX0_lay 22 = .ok (.ifCond .ne 6, 3) := by decide +kernel
theorem dX0_lay_25 : decode cX0_lay 25 = .ok (.bipush (-2), 2) := by decide +kernel
theorem dX0_lay_27 : decode cX0_lay 27 = .ok (.ireturn, 1) := by decide +kernel
theorem dX0_lay_28 : decode cX0_lay 28 = .ok (.aload_n 0, 1) := by decide +kernel
theorem dX0_lay_29 : decode cX0_lay 29 = .ok (.iload 4, 2) := by decide +kernel
theorem dX0_lay_31 : decode cX0_lay 31 = .ok (.invokevirtual 79, 3) := by decide +kernel
theorem dX0_lay_34 : decode cX0_lay 34 = .ok (.ifCond .eq 6, 3) := by decide +kernel
theorem dX0_lay_37 : decode cX0_lay 37 = .ok (.bipush (-5), 2) := by decide +kernel
theorem dX0_lay_39 : decode cX0_lay 39 = .ok (.ireturn, 1) := by decide +kernel
theorem dX0_lay_40 : decode cX0_lay 40 = .ok (.aload_n 0, 1) := by decide +kernel
theorem dX0_lay_41 : decode cX0_lay 41 = .ok (.getfield 15, 3) := by decide +kernel
theorem dX0_lay_44 : decode cX0_lay 44 = .ok (.iload 4, 2) := by decide +kernel
theorem dX0_lay_46 : decode cX0_lay 46 = .ok (.iaload, 1) := by decide +kernel
theorem dX0_lay_47 : decode cX0_lay 47 = .ok (.istore 5, 2) := by decide +kernel
theorem dX0_lay_49 : decode cX0_lay 49 = .ok (.aload_n 0, 1) := by decide +kernel
theorem dX0_lay_50 : decode cX0_lay 50 = .ok (.getfield 15, 3) := by decide +kernel
theorem dX0_lay_53 : decode cX0_lay 53 = .ok (.iload 4, 2) := by decide +kernel
theorem dX0_lay_55 : decode cX0_lay 55 = .ok (.iload_n 3, 1) := by decide +kernel
theorem dX0_lay_56 : decode cX0_lay 56 = .ok (.iastore, 1) := by decide +kernel
theorem dX0_lay_57 : decode cX0_lay 57 = .ok (.aload_n 0, 1) := by decide +kernel
theorem dX0_lay_58 : decode cX0_lay 58 = .ok (.invokevirtual 68, 3) := by decide +kernel
theorem dX0_lay_61 : decode cX0_lay 61 = .ok (.iload 5, 2) := by decide +kernel
theorem dX0_lay_63 : decode cX0_lay 63 = .ok (.ireturn, 1) := by decide +kernel
set_option maxRecDepth 20000 in
theorem ggX0_isNeededByTouch_X5_areNeighbours : GoodIn wsX0_isNeededByTouch wsX5_areNeighbours := goodIn_r _ [7, 8, 9, 6, 10] (by decide +kernel) (by decide +kernel)
set_option maxRecDepth 20000 in
theorem gX0_isNeededByTouch_X5_areNeighbours_n82 : GoodIn wsX0_isNeededByTouch (wsX5_areNeighbours) := ggX0_isNeededByTouch_X5_areNeighbours
theorem dX0_isNeededByTouch_0 : decode cX0_isNeededByTouch 0 = .ok (.iconst 0, 1) := by decide +kernel
theorem dX0_isNeededByTouch_1 : decode cX0_isNeededByTouch 1 = .ok (.istore_n 2, 1) := by decide +kernel
theorem dX0_isNeededByTouch_2 : decode cX0_isNeededByTouch 2 = .ok (.iload_n 2, 1) := by decide +kernel
theorem dX0_isNeededByTouch_3 : decode cX0_isNeededByTouch 3 = .ok (.aload_n 0, 1) := by decide +kernel
theorem dX0_isNeededByTouch_4 : decode cX0_isNeededByTouch 4 = .ok (.getfield 21, 3) := by decide +kernel
theorem dX0_isNeededByTouch_7 : decode cX0_isNeededByTouch 7 = .ok (.if_icmp .ge 51, 3) := by decide +kernel
theorem dX0_isNeededByTouch_10 : decode cX0_isNeededByTouch 10 = .ok (.aload_n 0, 1) := by decide +kernel
theorem dX0_isNeededByTouch_11 : decode cX0_isNeededByTouch 11 = .ok (.getfield 25, 3) := by decide +kernel
theorem dX0_isNeededByTouch_14 : decode cX0_isNeededByTouch 14 = .ok (.iload_n 2, 1) := by decide +kernel
theorem dX0_isNeededByTouch_15 : decode cX0_isNeededByTouch 15 = .ok (.iaload, 1) := by decide +kernel
theorem dX0_isNeededByTouch_16 : decode cX0_isNeededByTouch 16 = .ok (.iload_n 1, 1) := by decide +kernel
theorem dX0_isNeededByTouch_17 : decode cX0_isNeededByTouch 17 = .ok (.if_icmp .ne 5, 3) := by decide +kernel
theorem dX0_isNeededByTouch_20 : decode cX0_isNeededByTouch 20 = .ok (.iconst 1, 1) := by decide +kernel
theorem dX0_isNeededByTouch_21 : decode cX0_isNeededByTouch 21 = .ok (.ireturn, 1) := by decide +kernel
theorem dX0_isNeededByTouch_22 : decode cX0_isNeededByTouch 22 = .ok (.aload_n 0, 1) := by decide +kernel
theorem dX0_isNeededByTouch_23 : decode cX0_isNeededByTouch 23 = .ok (.getfield 25, 3) := by decide +kernel
theorem dX0_isNeededByTouch_26 : decode cX0_isNeededByTouch 26 = .ok (.iload_n 2, 1) := by decide +kernel
theorem dX0_isNeededByTouch_27 : decode cX0_isNeededByTouch 27 = .ok (.iaload, 1) := by decide +kernel
theorem dX0_isNeededByTouch_28 : decode cX0_isNeededByTouch 28 = .ok (.iload_n 1, 1) := by decide +kernel
theorem dX0_isNeededByTouch_29 : decode cX0_isNeededByTouch 29 = .ok (.invokestatic 82, 3) := by decide +kernel
theorem dX0_isNeededByTouch_32 : decode cX0_isNeededByTouch 32 = .ok (.ifCond .eq 20, 3) := by decide +kernel
theorem dX0_isNeededByTouch_35 : decode cX0_isNeededByTouch 35 = .ok (.aload_n 0, 1) := by decide +kernel
theorem dX0_isNeededByTouch_36 : decode cX0_isNeededByTouch 36 = .ok (.getfield 28, 3) := by decide +kernel
theorem dX0_isNeededByTouch_39 : decode cX0_isNeededByTouch 39 = .ok (.iload_n 2, 1) := by decide +kernel
theorem dX0_isNeededByTouch_40 : decode cX0_isNeededByTouch 40 = .ok (.iaload, 1) := by decide +kernel
theorem dX0_isNeededByTouch_41 : decode cX0_isNeededByTouch 41 = .ok (.aload_n 0, 1) := by decide +kernel
theorem dX0_isNeededByTouch_42 : decode cX0_isNeededByTouch 42 = .ok (.getfield 15, 3) := by decide +kernel
theorem dX0_isNeededByTouch_45 : decode cX0_isNeededByTouch 45 = .ok (.iload_n 1, 1) := by decide +kernel
theorem dX0_isNeededByTouch_46 : decode cX0_isNeededByTouch 46 = .ok (.iaload, 1) := by decide +kernel
theorem dX0_isNeededByTouch_47 : decode cX0_isNeededByTouch 47 = .ok (.if_icmp .ne 5, 3) := by decide +kernel
theorem dX0_isNeededByTouch_50 : decode cX0_isNeededByTouch 50 = .ok (.iconst 1, 1) := by decide +kernel
theorem dX0_isNeededByTouch_51 : decode cX0_isNeededByTouch 51 = .ok (.ireturn, 1) := by decide +kernel
theorem dX0_isNeededByTouch_52 : decode cX0_isNeededByTouch 52 = .ok (.iinc 2 1, 3) := by decide +kernel
theorem dX0_isNeededByTouch_55 : decode cX0_isNeededByTouch 55 = .ok (.goto (-53), 3) := by decide +kernel
theorem dX0_isNeededByTouch_58 : decode cX0_isNeededByTouch 58 = .ok (.iconst 0, 1) := by decide +kernel
theorem dX0_isNeededByTouch_59 : decode cX0_isNeededByTouch 59 = .ok (.ireturn, 1) := by decide +kernel
set_option maxRecDepth 20000 in
theorem ggX0_join_X5_placeOf : GoodIn wsX0_join wsX5_placeOf := goodIn_r _ [7] (by decide +kernel) (by decide +kernel)
set_option maxRecDepth 20000 in
theorem gX0_join_X5_placeOf_n71 : GoodIn wsX0_join (wsX5_placeOf) := ggX0_join_X5_placeOf
set_option maxRecDepth 20000 in
theorem ggX0_join_X5_isNet : GoodIn wsX0_join wsX5_isNet := goodIn_r _ [9] (by decide +kernel) (by decide +kernel)
set_option maxRecDepth 20000 in
theorem gX0_join_X5_isNet_n75 : GoodIn wsX0_join (wsX5_isNet) := ggX0_join_X5_isNet
set_option maxRecDepth 20000 in
theorem ggX0_join_X0_touchAt : GoodIn wsX0_join wsX0_touchAt := goodIn_r _ [14, 2, 3, 28, 29, 30, 31, 32, 33, 34, 35, 36, 37, 38, 39, 40] (by decide +kernel) (by decide +kernel)
set_option maxRecDepth 20000 in
theorem gX0_join_X0_touchAt : GoodIn wsX0_join (wsV RX0 86 RX0 yX0_touchAt wsX0_touchAt) := goodIn_app (goodIn_of _ (by decide +kernel)) ggX0_join_X0_touchAt
set_option maxRecDepth 20000 in
theorem ggX0_join_X0_hasNeighbourOf : GoodIn wsX0_join wsX0_hasNeighbourOf := goodIn_r _ [18, 1, 19, 6, 20, 28, 29, 30, 31, 32, 33, 34, 35, 36, 37, 38, 39, 40] (by decide +kernel) (by decide +kernel)
set_option maxRecDepth 20000 in
theorem gX0_join_X0_hasNeighbourOf : GoodIn wsX0_join (wsV RX0 90 RX0 yX0_hasNeighbourOf wsX0_hasNeighbourOf) := goodIn_app (goodIn_of _ (by decide +kernel)) ggX0_join_X0_hasNeighbourOf
set_option maxRecDepth 20000 in
theorem ggX0_join_X0_beginRun : GoodIn wsX0_join wsX0_beginRun := goodIn_r _ [24, 25, 26, 27, 28, 29, 30, 31, 32, 33, 34, 35, 36, 37, 38, 39, 40] (by decide +kernel) (by decide +kernel)
set_option maxRecDepth 20000 in
theorem gX0_join_X0_beginRun : GoodIn wsX0_join (wsV RX0 68 RX0 yX0_beginRun wsX0_beginRun) := goodIn_app (goodIn_of _ (by decide +kernel)) ggX0_join_X0_beginRun
theorem dX0_join_0 : decode cX0_join 0 = .ok (.iload_n 1, 1) := by decide +kernel
theorem dX0_join_1 : decode cX0_join 1 = .ok (.iload_n 2, 1) := by decide +kernel
theorem dX0_join_2 : decode cX0_join 2 = .ok (.invokestatic 71, 3) := by decide +kernel
theorem dX0_join_5 : decode cX0_join 5 = .ok (.istore 4, 2) := by decide +kernel
theorem dX0_join_7 : decode cX0_join 7 = .ok (.iload 4, 2) := by decide +kernel
theorem dX0_join_9 : decode cX0_join 9 = .ok (.ifCond .ge 5, 3) := by decide +kernel
theorem dX0_join_12 : decode cX0_join 12 = .ok (.iconst (-1), 1) := by decide +kernel
theorem dX0_join_13 : decode cX0_join 13 = .ok (.ireturn, 1) := by decide +kernel
theorem dX0_join_14 : decode cX0_join 14 = .ok (.iload_n 3, 1) := by decide +kernel
theorem dX0_join_15 : decode cX0_join 15 = .ok (.invokestatic 75, 3) := by decide +kernel
theorem dX0_join_18 : decode cX0_join 18 = .ok (.ifCond .ne 6, 3) := by decide +kernel
theorem dX0_join_21 : decode cX0_join 21 = .ok (.bipush (-2), 2) := by decide +kernel
theorem dX0_join_23 : decode cX0_join 23 = .ok (.ireturn, 1) := by decide +kernel
theorem dX0_join_24 : decode cX0_join 24 = .ok (.aload_n 0, 1) := by decide +kernel
theorem dX0_join_25 : decode cX0_join 25 = .ok (.getfield 15, 3) := by decide +kernel
theorem dX0_join_28 : decode cX0_join 28 = .ok (.iload 4, 2) := by decide +kernel
theorem dX0_join_30 : decode cX0_join 30 = .ok (.iaload, 1) := by decide +kernel
theorem dX0_join_31 : decode cX0_join 31 = .ok (.ifCond .eq 35, 3) := by decide +kernel
theorem dX0_join_34 : decode cX0_join 34 = .ok (.aload_n 0, 1) := by decide +kernel
theorem dX0_join_35 : decode cX0_join 35 = .ok (.getfield 15, 3) := by decide +kernel
theorem dX0_join_38 : decode cX0_join 38 = .ok (.iload 4, 2) := by decide +kernel
theorem dX0_join_40 : decode cX0_join 40 = .ok (.iaload, 1) := by decide +kernel
theorem dX0_join_41 : decode cX0_join 41 = .ok (.iload_n 3, 1) := by decide +kernel
theorem dX0_join_42 : decode cX0_join 42 = .ok (.if_icmp .eq 24, 3) := by decide +kernel
theorem dX0_join_45 : decode cX0_join 45 = .ok (.aload_n 0, 1) := by decide +kernel
theorem dX0_join_46 : decode cX0_join 46 = .ok (.iload 4, 2) := by decide +kernel
theorem dX0_join_48 : decode cX0_join 48 = .ok (.invokevirtual 86, 3) := by decide +kernel
theorem dX0_join_51 : decode cX0_join 51 = .ok (.bipush (-6), 2) := by decide +kernel
theorem dX0_join_53 : decode cX0_join 53 = .ok (.if_icmp .ne 13, 3) := by decide +kernel
theorem dX0_join_56 : decode cX0_join 56 = .ok (.aload_n 0, 1) := by decide +kernel
theorem dX0_join_57 : decode cX0_join 57 = .ok (.iload 4, 2) := by decide +kernel
theorem dX0_join_59 : decode cX0_join 59 = .ok (.iload_n 3, 1) := by decide +kernel
theorem dX0_join_60 : decode cX0_join 60 = .ok (.invokevirtual 90, 3) := by decide +kernel
theorem dX0_join_63 : decode cX0_join 63 = .ok (.ifCond .ne 6, 3) := by decide +kernel
theorem dX0_join_66 : decode cX0_join 66 = .ok (.bipush (-5), 2) := by decide +kernel
theorem dX0_join_68 : decode cX0_join 68 = .ok (.ireturn, 1) := by decide +kernel
theorem dX0_join_69 : decode cX0_join 69 = .ok (.aload_n 0, 1) := by decide +kernel
theorem dX0_join_70 : decode cX0_join 70 = .ok (.getfield 21, 3) := by decide +kernel
theorem dX0_join_73 : decode cX0_join 73 = .ok (.iconst 3, 1) := by decide +kernel
theorem dX0_join_74 : decode cX0_join 74 = .ok (.if_icmp .lt 6, 3) := by decide +kernel
theorem dX0_join_77 : decode cX0_join 77 = .ok (.bipush (-4), 2) := by decide +kernel
theorem dX0_join_79 : decode cX0_join 79 = .ok (.ireturn, 1) := by decide +kernel
theorem dX0_join_80 : decode cX0_join 80 = .ok (.aload_n 0, 1) := by decide +kernel
theorem dX0_join_81 : decode cX0_join 81 = .ok (.getfield 25, 3) := by decide +kernel
theorem dX0_join_84 : decode cX0_join 84 = .ok (.aload_n 0, 1) := by decide +kernel
theorem dX0_join_85 : decode cX0_join 85 = .ok (.getfield 21, 3) := by decide +kernel
theorem dX0_join_88 : decode cX0_join 88 = .ok (.iload 4, 2) := by decide +kernel
theorem dX0_join_90 : decode cX0_join 90 = .ok (.iastore, 1) := by decide +kernel
theorem dX0_join_91 : decode cX0_join 91 = .ok (.aload_n 0, 1) := by decide +kernel
theorem dX0_join_92 : decode cX0_join 92 = .ok (.getfield 28, 3) := by decide +kernel
theorem dX0_join_95 : decode cX0_join 95 = .ok (.aload_n 0, 1) := by decide +kernel
theorem dX0_join_96 : decode cX0_join 96 = .ok (.getfield 21, 3) := by decide +kernel
theorem dX0_join_99 : decode cX0_join 99 = .ok (.iload_n 3, 1) := by decide +kernel
theorem dX0_join_100 : decode cX0_join 100 = .ok (.iastore, 1) := by decide +kernel
theorem dX0_join_101 : decode cX0_join 101 = .ok (.aload_n 0, 1) := by decide +kernel
theorem dX0_join_102 : decode cX0_join 102 = .ok (.dup, 1) := by decide +kernel
theorem dX0_join_103 : decode cX0_join 103 = .ok (.getfield 21, 3) := by decide +kernel
theorem dX0_join_106 : decode cX0_join 106 = .ok (.iconst 1, 1) := by decide +kernel
theorem dX0_join_107 : decode cX0_join 107 = .ok (.iadd, 1) := by decide +kernel
theorem dX0_join_108 : decode cX0_join 108 = .ok (.putfield 21, 3) := by decide +kernel
theorem dX0_join_111 : decode cX0_join 111 = .ok (.aload_n 0, 1) := by decide +kernel
theorem dX0_join_112 : decode cX0_join 112 = .ok (.invokevirtual 68, 3) := by decide +kernel
theorem dX0_join_115 : decode cX0_join 115 = .ok (.aload_n 0, 1) := by decide +kernel
theorem dX0_join_116 : decode cX0_join 116 = .ok (.getfield 21, 3) := by decide +kernel
theorem dX0_join_119 : decode cX0_join 119 = .ok (.iconst 1, 1) := by decide +kernel
theorem dX0_join_120 : decode cX0_join 120 = .ok (.isub, 1) := by decide +kernel
theorem dX0_join_121 : decode cX0_join 121 = .ok (.ireturn, 1) := by decide +kernel
set_option maxRecDepth 20000 in
theorem ggX0_hasNeighbourOf_X5_neighbourOf : GoodIn wsX0_hasNeighbourOf wsX5_neighbourOf := goodIn_r _ [4] (by decide +kernel) (by decide +kernel)
set_option maxRecDepth 20000 in
theorem gX0_hasNeighbourOf_X5_neighbourOf_n93 : GoodIn wsX0_hasNeighbourOf (wsX5_neighbourOf) := ggX0_hasNeighbourOf_X5_neighbourOf
theorem dX0_hasNeighbourOf_0 : decode cX0_hasNeighbourOf 0 = .ok (.iconst 0, 1) := by decide +kernel
theorem dX0_hasNeighbourOf_1 : decode cX0_hasNeighbourOf 1 = .ok (.istore_n 3, 1) := by decide +kernel
theorem dX0_hasNeighbourOf_2 : decode cX0_hasNeighbourOf 2 = .ok (.iload_n 3, 1) := by decide +kernel
theorem dX0_hasNeighbourOf_3 : decode cX0_hasNeighbourOf 3 = .ok (.iconst 4, 1) := by decide +kernel
theorem dX0_hasNeighbourOf_4 : decode cX0_hasNeighbourOf 4 = .ok (.if_icmp .ge 34, 3) := by decide +kernel
theorem dX0_hasNeighbourOf_7 : decode cX0_hasNeighbourOf 7 = .ok (.iload_n 1, 1) := by decide +kernel
theorem dX0_hasNeighbourOf_8 : decode cX0_hasNeighbourOf 8 = .ok (.iload_n 3, 1) := by decide +kernel
theorem dX0_hasNeighbourOf_9 : decode cX0_hasNeighbourOf 9 = .ok (.invokestatic 93, 3) := by decide +kernel
theorem dX0_hasNeighbourOf_12 : decode cX0_hasNeighbourOf 12 = .ok (.istore 4, 2) := by decide +kernel
theorem dX0_hasNeighbourOf_14 : decode cX0_hasNeighbourOf 14 = .ok (.iload 4, 2) := by decide +kernel
theorem dX0_hasNeighbourOf_16 : decode cX0_hasNeighbourOf 16 = .ok (.ifCond .lt 16, 3) := by decide +kernel
theorem dX0_hasNeighbourOf_19 : decode cX0_hasNeighbourOf 19 = .ok (.aload_n 0, 1) := by decide +kernel
theorem dX0_hasNeighbourOf_20 : decode cX0_hasNeighbourOf 20 = .ok (.getfield 15, 3) := by decide +kernel
theorem dX0_hasNeighbourOf_23 : decode cX0_hasNeighbourOf 23 = .ok (.iload 4, 2) := by decide +kernel
theorem dX0_hasNeighbourOf_25 : decode cX0_hasNeighbourOf 25 = .ok (.iaload, 1) := by decide +kernel
theorem dX0_hasNeighbourOf_26 : decode cX0_hasNeighbourOf 26 = .ok (.iload_n 2, 1) := by decide +kernel
theorem dX0_hasNeighbourOf_27 : decode cX0_hasNeighbourOf 27 = .ok (.if_icmp .ne 5, 3) := by decide +kernel
theorem dX0_hasNeighbourOf_30 : decode cX0_hasNeighbourOf 30 = .ok (.iconst 1, 1) := by decide +kernel
theorem dX0_hasNeighbourOf_31 : decode cX0_hasNeighbourOf 31 = .ok (.ireturn, 1) := by decide +kernel
theorem dX0_hasNeighbourOf_32 : decode cX0_hasNeighbourOf 32 = .ok (.iinc 3 1, 3) := by decide +kernel
theorem dX0_hasNeighbourOf_35 : decode cX0_hasNeighbourOf 35 = .ok (.goto (-33), 3) := by decide +kernel
theorem dX0_hasNeighbourOf_38 : decode cX0_hasNeighbourOf 38 = .ok (.iconst 0, 1) := by decide +kernel
theorem dX0_hasNeighbourOf_39 : decode cX0_hasNeighbourOf 39 = .ok (.ireturn, 1) := by decide +kernel
set_option maxRecDepth 20000 in
theorem ggX0_part_X0_beginRun : GoodIn wsX0_part wsX0_beginRun := goodIn_r _ [8, 9, 10, 11, 12, 13, 14, 15, 16, 17, 18, 19, 20, 21, 22, 23, 24] (by decide +kernel) (by decide +kernel)
set_option maxRecDepth 20000 in
theorem gX0_part_X0_beginRun : GoodIn wsX0_part (wsV RX0 68 RX0 yX0_beginRun wsX0_beginRun) := goodIn_app (goodIn_of _ (by decide +kernel)) ggX0_part_X0_beginRun
theorem dX0_part_0 : decode cX0_part 0 = .ok (.iload_n 1, 1) := by decide +kernel
theorem dX0_part_1 : decode cX0_part 1 = .ok (.ifCond .lt 11, 3) := by decide +kernel
theorem dX0_part_4 : decode cX0_part 4 = .ok (.iload_n 1, 1) := by decide +kernel
theorem dX0_part_5 : decode cX0_part 5 = .ok (.aload_n 0, 1) := by decide +kernel
theorem dX0_part_6 : decode cX0_part 6 = .ok (.getfield 21, 3) := by decide +kernel
theorem dX0_part_9 : decode cX0_part 9 = .ok (.if_icmp .lt 5, 3) := by decide +kernel
theorem dX0_part_12 : decode cX0_part 12 = .ok (.iconst (-1), 1) := by decide +kernel
theorem dX0_part_13 : decode cX0_part 13 = .ok (.ireturn, 1) := by decide +kernel
theorem dX0_part_14 : decode cX0_part 14 = .ok (.iload_n 1, 1) := by decide +kernel
theorem dX0_part_15 : decode cX0_part 15 = .ok (.istore_n 2, 1) := by decide +kernel
theorem dX0_part_16 : decode cX0_part 16 = .ok (.iload_n 2, 1) := by decide +kernel
theorem dX0_part_17 : decode cX0_part 17 = .ok (.aload_n 0, 1) := by decide +kernel
theorem dX0_part_18 : decode cX0_part 18 = .ok (.getfield 21, 3) := by decide +kernel
theorem dX0_part_21 : decode cX0_part 21 = .ok (.iconst 1, 1) := by decide +kernel
theorem dX0_part_22 : decode cX0_part 22 = .ok (.isub, 1) := by decide +kernel
theorem dX0_part_23 : decode cX0_part 23 = .ok (.if_icmp .ge 37, 3) := by decide +kernel
theorem dX0_part_26 : decode cX0_part 26 = .ok (.aload_n 0, 1) := by decide +kernel
theorem dX0_part_27 : decode cX0_part 27 = .ok (.getfield 25, 3) := by decide +kernel
theorem dX0_part_30 : decode cX0_part 30 = .ok (.iload_n 2, 1) := by decide +kernel
theorem dX0_part_31 : decode cX0_part 31 = .ok (.aload_n 0, 1) := by decide +kernel
theorem dX0_part_32 : decode cX0_part 32 = .ok (.getfield 25, 3) := by decide +kernel
theorem dX0_part_35 : decode cX0_part 35 = .ok (.iload_n 2, 1) := by decide +kernel
theorem dX0_part_36 : decode cX0_part 36 = .ok (.iconst 1, 1) := by decide +kernel
theorem dX0_part_37 : decode cX0_part 37 = .ok (.iadd, 1) := by decide +kernel
theorem dX0_part_38 : decode cX0_part 38 = .ok (.iaload, 1) := by decide +kernel
theorem dX0_part_39 : decode cX0_part 39 = .ok (.iastore, 1) := by decide +kernel
theorem dX0_part_40 : decode cX0_part 40 = .ok (.aload_n 0, 1) := by decide +kernel
theorem dX0_part_41 : decode cX0_part 41 = .ok (.getfield 28, 3) := by decide +kernel
theorem dX0_part_44 : decode cX0_part 44 = .ok (.iload_n 2, 1) := by decide +kernel
theorem dX0_part_45 : decode cX0_part 45 = .ok (.aload_n 0, 1) := by decide +kernel
theorem dX0_part_46 : decode cX0_part 46 = .ok (.getfield 28, 3) := by decide +kernel
theorem dX0_part_49 : decode cX0_part 49 = .ok (.iload_n 2, 1) := by decide +kernel
theorem dX0_part_50 : decode cX0_part 50 = .ok (.iconst 1, 1) := by decide +kernel
theorem dX0_part_51 : decode cX0_part 51 = .ok (.iadd, 1) := by decide +kernel
theorem dX0_part_52 : decode cX0_part 52 = .ok (.iaload, 1) := by decide +kernel
theorem dX0_part_53 : decode cX0_part 53 = .ok (.iastore, 1) := by decide +kernel
theorem dX0_part_54 : decode cX0_part 54 = .ok (.iinc 2 1, 3) := by decide +kernel
theorem dX0_part_57 : decode cX0_part 57 = .ok (.goto (-41), 3) := by decide +kernel
theorem dX0_part_60 : decode cX0_part 60 = .ok (.aload_n 0, 1) := by decide +kernel
theorem dX0_part_61 : decode cX0_part 61 = .ok (.dup, 1) := by decide +kernel
theorem dX0_part_62 : decode cX0_part 62 = .ok (.getfield 21, 3) := by decide +kernel
theorem dX0_part_65 : decode cX0_part 65 = .ok (.iconst 1, 1) := by decide +kernel
theorem dX0_part_66 : decode cX0_part 66 = .ok (.isub, 1) := by decide +kernel
theorem dX0_part_67 : decode cX0_part 67 = .ok (.putfield 21, 3) := by decide +kernel
theorem dX0_part_70 : decode cX0_part 70 = .ok (.aload_n 0, 1) := by decide +kernel
theorem dX0_part_71 : decode cX0_part 71 = .ok (.invokevirtual 68, 3) := by decide +kernel
theorem dX0_part_74 : decode cX0_part 74 = .ok (.aload_n 0, 1) := by decide +kernel
theorem dX0_part_75 : decode cX0_part 75 = .ok (.getfield 21, 3) := by decide +kernel
theorem dX0_part_78 : decode cX0_part 78 = .ok (.ireturn, 1) := by decide +kernel
set_option maxRecDepth 20000 in
theorem ggX0_turnPair_X5_isNet : GoodIn wsX0_turnPair wsX5_isNet := goodIn_r _ [4] (by decide +kernel) (by decide +kernel)
set_option maxRecDepth 20000 in
theorem gX0_turnPair_X5_isNet_n75 : GoodIn wsX0_turnPair (wsX5_isNet) := ggX0_turnPair_X5_isNet
set_option maxRecDepth 20000 in
theorem ggX0_turnPair_X0_beginRun : GoodIn wsX0_turnPair wsX0_beginRun := goodIn_r _ [9, 10, 11, 12, 17, 18, 19, 20, 21, 22, 23, 24, 25, 26, 27, 28, 29] (by decide +kernel) (by decide +kernel)
set_option maxRecDepth 20000 in
theorem gX0_turnPair_X0_beginRun : GoodIn wsX0_turnPair (wsV RX0 68 RX0 yX0_beginRun wsX0_beginRun) := goodIn_app (goodIn_of _ (by decide +kernel)) ggX0_turnPair_X0_beginRun
set_option maxRecDepth 20000 in
theorem ggX0_turnPair_X0_isFed : GoodIn wsX0_turnPair wsX0_isFed := goodIn_r _ [16, 1, 17, 18, 19, 20, 21, 22, 23, 24, 25, 26, 27, 28, 29] (by decide +kernel) (by decide +kernel)
set_option maxRecDepth 20000 in
theorem gX0_turnPair_X0_isFed : GoodIn wsX0_turnPair (wsV RX0 96 RX0 yX0_isFed wsX0_isFed) := goodIn_app (goodIn_of _ (by decide +kernel)) ggX0_turnPair_X0_isFed
theorem dX0_turnPair_0 : decode cX0_turnPair 0 = .ok (.iload_n 1, 1) := by decide +kernel
theorem dX0_turnPair_1 : decode cX0_turnPair 1 = .ok (.invokestatic 75, 3) := by decide +kernel
theorem dX0_turnPair_4 : decode cX0_turnPair 4 = .ok (.ifCond .eq 10, 3) := by decide +kernel
theorem dX0_turnPair_7 : decode cX0_turnPair 7 = .ok (.iload_n 2, 1) := by decide +kernel
theorem dX0_turnPair_8 : decode cX0_turnPair 8 = .ok (.invokestatic 75, 3) := by decide +kernel
theorem dX0_turnPair_11 : decode cX0_turnPair 11 = .ok (.ifCond .ne 5, 3) := by decide +kernel
theorem dX0_turnPair_14 : decode cX0_turnPair 14 = .ok (.iconst (-1), 1) := by decide +kernel
theorem dX0_turnPair_15 : decode cX0_turnPair 15 = .ok (.ireturn, 1) := by decide +kernel
theorem dX0_turnPair_16 : decode cX0_turnPair 16 = .ok (.iload_n 1, 1) := by decide +kernel
theorem dX0_turnPair_17 : decode cX0_turnPair 17 = .ok (.iload_n 2, 1) := by decide +kernel
theorem dX0_turnPair_18 : decode cX0_turnPair 18 = .ok (.if_icmp .ne 6, 3) := by decide +kernel
theorem dX0_turnPair_21 : decode cX0_turnPair 21 = .ok (.bipush (-2), 2) := by decide +kernel
theorem dX0_turnPair_23 : decode cX0_turnPair 23 = .ok (.ireturn, 1) := by decide +kernel
theorem dX0_turnPair_24 : decode cX0_turnPair 24 = .ok (.aload_n 0, 1) := by decide +kernel
theorem dX0_turnPair_25 : decode cX0_turnPair 25 = .ok (.getfield 18, 3) := by decide +kernel
theorem dX0_turnPair_28 : decode cX0_turnPair 28 = .ok (.iload_n 1, 1) := by decide +kernel
theorem dX0_turnPair_29 : decode cX0_turnPair 29 = .ok (.aload_n 0, 1) := by decide +kernel
theorem dX0_turnPair_30 : decode cX0_turnPair 30 = .ok (.getfield 18, 3) := by decide +kernel
theorem dX0_turnPair_33 : decode cX0_turnPair 33 = .ok (.iload_n 1, 1) := by decide +kernel
theorem dX0_turnPair_34 : decode cX0_turnPair 34 = .ok (.iaload, 1) := by decide +kernel
theorem dX0_turnPair_35 : decode cX0_turnPair 35 = .ok (.iconst 1, 1) := by decide +kernel
theorem dX0_turnPair_36 : decode cX0_turnPair 36 = .ok (.iload_n 2, 1) := by decide +kernel
theorem dX0_turnPair_37 : decode cX0_turnPair 37 = .ok (.ishl, 1) := by decide +kernel
theorem dX0_turnPair_38 : decode cX0_turnPair 38 = .ok (.ixor, 1) := by decide +kernel
theorem dX0_turnPair_39 : decode cX0_turnPair 39 = .ok (.iastore, 1) := by decide +kernel
theorem dX0_turnPair_40 : decode cX0_turnPair 40 = .ok (.aload_n 0, 1) := by decide +kernel
theorem dX0_turnPair_41 : decode cX0_turnPair 41 = .ok (.getfield 18, 3) := by decide +kernel
theorem dX0_turnPair_44 : decode cX0_turnPair 44 = .ok (.iload_n 2, 1) := by decide +kernel
theorem dX0_turnPair_45 : decode cX0_turnPair 45 = .ok (.aload_n 0, 1) := by decide +kernel
theorem dX0_turnPair_46 : decode cX0_turnPair 46 = .ok (.getfield 18, 3) := by decide +kernel
theorem dX0_turnPair_49 : decode cX0_turnPair 49 = .ok (.iload_n 2, 1) := by decide +kernel
theorem dX0_turnPair_50 : decode cX0_turnPair 50 = .ok (.iaload, 1) := by decide +kernel
theorem dX0_turnPair_51 : decode cX0_turnPair 51 = .ok (.iconst 1, 1) := by decide +kernel
theorem dX0_turnPair_52 : decode cX0_turnPair 52 = .ok (.iload_n 1, 1) := by decide +kernel
theorem dX0_turnPair_53 : decode cX0_turnPair 53 = .ok (.ishl, 1) := by decide +kernel
theorem dX0_turnPair_54 : decode cX0_turnPair 54 = .ok (.ixor, 1) := by decide +kernel
theorem dX0_turnPair_55 : decode cX0_turnPair 55 = .ok (.iastore, 1) := by decide +kernel
theorem dX0_turnPair_56 : decode cX0_turnPair 56 = .ok (.aload_n 0, 1) := by decide +kernel
theorem dX0_turnPair_57 : decode cX0_turnPair 57 = .ok (.invokevirtual 68, 3) := by decide +kernel
theorem dX0_turnPair_60 : decode cX0_turnPair 60 = .ok (.aload_n 0, 1) := by decide +kernel
theorem dX0_turnPair_61 : decode cX0_turnPair 61 = .ok (.iload_n 1, 1) := by decide +kernel
theorem dX0_turnPair_62 : decode cX0_turnPair 62 = .ok (.iload_n 2, 1) := by decide +kernel
theorem dX0_turnPair_63 : decode cX0_turnPair 63 = .ok (.invokevirtual 96, 3) := by decide +kernel
theorem dX0_turnPair_66 : decode cX0_turnPair 66 = .ok (.ifCond .eq 7, 3) := by decide +kernel
theorem dX0_turnPair_69 : decode cX0_turnPair 69 = .ok (.iconst 1, 1) := by decide +kernel
theorem dX0_turnPair_70 : decode cX0_turnPair 70 = .ok (.goto 4, 3) := by decide +kernel
theorem dX0_turnPair_73 : decode cX0_turnPair 73 = .ok (.iconst 0, 1) := by decide +kernel
theorem dX0_turnPair_74 : decode cX0_turnPair 74 = .ok (.ireturn, 1) := by decide +kernel
theorem dX0_isFed_0 : decode cX0_isFed 0 = .ok (.aload_n 0, 1) := by decide +kernel
theorem dX0_isFed_1 : decode cX0_isFed 1 = .ok (.getfield 18, 3) := by decide +kernel
theorem dX0_isFed_4 : decode cX0_isFed 4 = .ok (.iload_n 1, 1) := by decide +kernel
theorem dX0_isFed_5 : decode cX0_isFed 5 = .ok (.iaload, 1) := by decide +kernel
theorem dX0_isFed_6 : decode cX0_isFed 6 = .ok (.iload_n 2, 1) := by decide +kernel
theorem dX0_isFed_7 : decode cX0_isFed 7 = .ok (.iushr, 1) := by decide +kernel
theorem dX0_isFed_8 : decode cX0_isFed 8 = .ok (.iconst 1, 1) := by decide +kernel
theorem dX0_isFed_9 : decode cX0_isFed 9 = .ok (.iand, 1) := by decide +kernel
theorem dX0_isFed_10 : decode cX0_isFed 10 = .ok (.ifCond .eq 7, 3) := by decide +kernel
theorem dX0_isFed_13 : decode cX0_isFed 13 = .ok (.iconst 1, 1) := by decide +kernel
theorem dX0_isFed_14 : decode cX0_isFed 14 = .ok (.goto 4, 3) := by decide +kernel
theorem dX0_isFed_17 : decode cX0_isFed 17 = .ok (.iconst 0, 1) := by decide +kernel
theorem dX0_isFed_18 : decode cX0_isFed 18 = .ok (.ireturn, 1) := by decide +kernel
set_option maxRecDepth 20000 in
theorem ggX0_letPass_X0_heated : GoodIn wsX0_letPass wsX0_heated := goodIn_r _ [6, 7, 8, 9, 10, 11, 5, 12, 13, 14, 15, 16, 17, 18, 19, 38, 39, 40, 41, 42, 43, 44, 45, 46, 47, 48, 49, 50] (by decide +kernel) (by decide +kernel)
set_option maxRecDepth 20000 in
theorem gX0_letPass_X0_heated : GoodIn wsX0_letPass (wsV RX0 99 RX0 yX0_heated wsX0_heated) := goodIn_app (goodIn_of _ (by decide +kernel)) ggX0_letPass_X0_heated
set_option maxRecDepth 20000 in
theorem ggX0_letPass_X0_passOne : GoodIn wsX0_letPass wsX0_passOne := goodIn_r _ [23, 24, 25, 26, 27, 28, 29, 30, 31, 32, 33, 34, 35, 36, 37, 38, 39, 40, 41, 42, 43, 44, 45, 46, 47, 48, 49, 50] (by decide +kernel) (by decide +kernel)
set_option maxRecDepth 20000 in
theorem gX0_letPass_X0_passOne : GoodIn wsX0_letPass (wsV RX0 103 RX0 yX0_passOne wsX0_passOne) := goodIn_app (goodIn_of _ (by decide +kernel)) ggX0_letPass_X0_passOne
theorem dX0_letPass_0 : decode cX0_letPass 0 = .ok (.iload_n 1, 1) := by decide +kernel
theorem dX0_letPass_1 : decode cX0_letPass 1 = .ok (.iconst 1, 1) := by decide +kernel
theorem dX0_letPass_2 : decode cX0_letPass 2 = .ok (.if_icmp .lt 9, 3) := by decide +kernel
theorem dX0_letPass_5 : decode cX0_letPass 5 = .ok (.iload_n 1, 1) := by decide +kernel
theorem dX0_letPass_6 : decode cX0_letPass 6 = .ok (.bipush 50, 2) := by decide +kernel
theorem dX0_letPass_8 : decode cX0_letPass 8 = .ok (.if_icmp .le 6, 3) := by decide +kernel
theorem dX0_letPass_11 : decode cX0_letPass 11 = .ok (.bipush (-2), 2) := by decide +kernel
theorem dX0_letPass_13 : decode cX0_letPass 13 = .ok (.ireturn, 1) := by decide +kernel
theorem dX0_letPass_14 : decode cX0_letPass 14 = .ok (.aload_n 0, 1) := by decide +kernel
theorem dX0_letPass_15 : decode cX0_letPass 15 = .ok (.getfield 31, 3) := by decide +kernel
theorem dX0_letPass_18 : decode cX0_letPass 18 = .ok (.iload_n 1, 1) := by decide +kernel
theorem dX0_letPass_19 : decode cX0_letPass 19 = .ok (.iadd, 1) := by decide +kernel
theorem dX0_letPass_20 : decode cX0_letPass 20 = .ok (.bipush 100, 2) := by decide +kernel
theorem dX0_letPass_22 : decode cX0_letPass 22 = .ok (.if_icmp .le 6, 3) := by decide +kernel
theorem dX0_letPass_25 : decode cX0_letPass 25 = .ok (.bipush (-5), 2) := by decide +kernel
theorem dX0_letPass_27 : decode cX0_letPass 27 = .ok (.ireturn, 1) := by decide +kernel
theorem dX0_letPass_28 : decode cX0_letPass 28 = .ok (.aload_n 0, 1) := by decide +kernel
theorem dX0_letPass_29 : decode cX0_letPass 29 = .ok (.invokevirtual 99, 3) := by decide +kernel
theorem dX0_letPass_32 : decode cX0_letPass 32 = .ok (.lstore_n 2, 1) := by decide +kernel
theorem dX0_letPass_33 : decode cX0_letPass 33 = .ok (.iconst 0, 1) := by decide +kernel
theorem dX0_letPass_34 : decode cX0_letPass 34 = .ok (.istore 4, 2) := by decide +kernel
theorem dX0_letPass_36 : decode cX0_letPass 36 = .ok (.iload 4, 2) := by decide +kernel
theorem dX0_letPass_38 : decode cX0_letPass 38 = .ok (.iload_n 1, 1) := by decide +kernel
theorem dX0_letPass_39 : decode cX0_letPass 39 = .ok (.if_icmp .ge 14, 3) := by decide +kernel
theorem dX0_letPass_42 : decode cX0_letPass 42 = .ok (.aload_n 0, 1) := by decide +kernel
theorem dX0_letPass_43 : decode cX0_letPass 43 = .ok (.lload_n 2, 1) := by decide +kernel
theorem dX0_letPass_44 : decode cX0_letPass 44 = .ok (.invokevirtual 103, 3) := by decide +kernel
theorem dX0_letPass_47 : decode cX0_letPass 47 = .ok (.iinc 4 1, 3) := by decide +kernel
theorem dX0_letPass_50 : decode cX0_letPass 50 = .ok (.goto (-14), 3) := by decide +kernel
theorem dX0_letPass_53 : decode cX0_letPass 53 = .ok (.aload_n 0, 1) := by decide +kernel
theorem dX0_letPass_54 : decode cX0_letPass 54 = .ok (.aload_n 0, 1) := by decide +kernel
theorem dX0_letPass_55 : decode cX0_letPass 55 = .ok (.getfield 31, 3) := by decide +kernel
theorem dX0_letPass_58 : decode cX0_letPass 58 = .ok (.iload_n 1, 1) := by decide +kernel
theorem dX0_letPass_59 : decode cX0_letPass 59 = .ok (.iadd, 1) := by decide +kernel
theorem dX0_letPass_60 : decode cX0_letPass 60 = .ok (.putfield 31, 3) := by decide +kernel
theorem dX0_letPass_63 : decode cX0_letPass 63 = .ok (.aload_n 0, 1) := by decide +kernel
theorem dX0_letPass_64 : decode cX0_letPass 64 = .ok (.getfield 31, 3) := by decide +kernel
theorem dX0_letPass_67 : decode cX0_letPass 67 = .ok (.ireturn, 1) := by decide +kernel
set_option maxRecDepth 20000 in
theorem ggX0_passOne_X5_step : GoodIn wsX0_passOne wsX5_step := goodIn_r _ [10, 11, 12, 13, 9, 14] (by decide +kernel) (by decide +kernel)
set_option maxRecDepth 20000 in
theorem gX0_passOne_X5_step_n107 : GoodIn wsX0_passOne (wsX5_step) := ggX0_passOne_X5_step
theorem dX0_passOne_0 : decode cX0_passOne 0 = .ok (.aload_n 0, 1) := by decide +kernel
theorem dX0_passOne_1 : decode cX0_passOne 1 = .ok (.getfield 34, 3) := by decide +kernel
theorem dX0_passOne_4 : decode cX0_passOne 4 = .ok (.iconst 0, 1) := by decide +kernel
theorem dX0_passOne_5 : decode cX0_passOne 5 = .ok (.aload_n 0, 1) := by decide +kernel
theorem dX0_passOne_6 : decode cX0_passOne 6 = .ok (.getfield 38, 3) := by decide +kernel
theorem dX0_passOne_9 : decode cX0_passOne 9 = .ok (.iconst 0, 1) := by decide +kernel
theorem dX0_passOne_10 : decode cX0_passOne 10 = .ok (.lload_n 1, 1) := by decide +kernel
theorem dX0_passOne_11 : decode cX0_passOne 11 = .ok (.aload_n 0, 1) := by decide +kernel
theorem dX0_passOne_12 : decode cX0_passOne 12 = .ok (.getfield 9, 3) := by decide +kernel
theorem dX0_passOne_15 : decode cX0_passOne 15 = .ok (.invokestatic 107, 3) := by decide +kernel
theorem dX0_passOne_18 : decode cX0_passOne 18 = .ok (.aload_n 0, 1) := by decide +kernel
theorem dX0_passOne_19 : decode cX0_passOne 19 = .ok (.getfield 38, 3) := by decide +kernel
theorem dX0_passOne_22 : decode cX0_passOne 22 = .ok (.iconst 0, 1) := by decide +kernel
theorem dX0_passOne_23 : decode cX0_passOne 23 = .ok (.aload_n 0, 1) := by decide +kernel
theorem dX0_passOne_24 : decode cX0_passOne 24 = .ok (.getfield 34, 3) := by decide +kernel
theorem dX0_passOne_27 : decode cX0_passOne 27 = .ok (.iconst 0, 1) := by decide +kernel
theorem dX0_passOne_28 : decode cX0_passOne 28 = .ok (.bipush 64, 2) := by decide +kernel
theorem dX0_passOne_30 : decode cX0_passOne 30 = .ok (.invokestatic 56, 3) := by decide +kernel
theorem dX0_passOne_33 : decode cX0_passOne 33 = .ok (.return_, 1) := by decide +kernel
set_option maxRecDepth 20000 in
theorem ggX0_measure_X5_placeOf : GoodIn wsX0_measure wsX5_placeOf := goodIn_r _ [9] (by decide +kernel) (by decide +kernel)
set_option maxRecDepth 20000 in
theorem gX0_measure_X5_placeOf_n71 : GoodIn wsX0_measure (wsX5_placeOf) := ggX0_measure_X5_placeOf
set_option maxRecDepth 20000 in
theorem ggX0_measure_X5_readOf : GoodIn wsX0_measure wsX5_readOf := goodIn_r _ [11, 12] (by decide +kernel) (by decide +kernel)
set_option maxRecDepth 20000 in
theorem gX0_measure_X5_readOf_n111 : GoodIn wsX0_measure (wsX5_readOf) := ggX0_measure_X5_readOf
theorem dX0_measure_0 : decode cX0_measure 0 = .ok (.iload_n 1, 1) := by decide +kernel
theorem dX0_measure_1 : decode cX0_measure 1 = .ok (.iload_n 2, 1) := by decide +kernel
theorem dX0_measure_2 : decode cX0_measure 2 = .ok (.invokestatic 71, 3) := by decide +kernel
theorem dX0_measure_5 : decode cX0_measure 5 = .ok (.istore_n 3, 1) := by decide +kernel
theorem dX0_measure_6 : decode cX0_measure 6 = .ok (.iload_n 3, 1) := by decide +kernel
theorem dX0_measure_7 : decode cX0_measure 7 = .ok (.ifCond .ge 5, 3) := by decide +kernel
theorem dX0_measure_10 : decode cX0_measure 10 = .ok (.iconst (-1), 1) := by decide +kernel
theorem dX0_measure_11 : decode cX0_measure 11 = .ok (.ireturn, 1) := by decide +kernel
theorem dX0_measure_12 : decode cX0_measure 12 = .ok (.aload_n 0, 1) := by decide +kernel
theorem dX0_measure_13 : decode cX0_measure 13 = .ok (.getfield 41, 3) := by decide +kernel
theorem dX0_measure_16 : decode cX0_measure 16 = .ok (.bipush 8, 2) := by decide +kernel
theorem dX0_measure_18 : decode cX0_measure 18 = .ok (.if_icmp .lt 6, 3) := by decide +kernel
theorem dX0_measure_21 : decode cX0_measure 21 = .ok (.bipush (-4), 2) := by decide +kernel
theorem dX0_measure_23 : decode cX0_measure 23 = .ok (.ireturn, 1) := by decide +kernel
theorem dX0_measure_24 : decode cX0_measure 24 = .ok (.aload_n 0, 1) := by decide +kernel
theorem dX0_measure_25 : decode cX0_measure 25 = .ok (.getfield 34, 3) := by decide +kernel
theorem dX0_measure_28 : decode cX0_measure 28 = .ok (.iload_n 3, 1) := by decide +kernel
theorem dX0_measure_29 : decode cX0_measure 29 = .ok (.faload, 1) := by decide +kernel
theorem dX0_measure_30 : decode cX0_measure 30 = .ok (.invokestatic 111, 3) := by decide +kernel
theorem dX0_measure_33 : decode cX0_measure 33 = .ok (.istore 4, 2) := by decide +kernel
theorem dX0_measure_35 : decode cX0_measure 35 = .ok (.aload_n 0, 1) := by decide +kernel
theorem dX0_measure_36 : decode cX0_measure 36 = .ok (.getfield 44, 3) := by decide +kernel
theorem dX0_measure_39 : decode cX0_measure 39 = .ok (.aload_n 0, 1) := by decide +kernel
theorem dX0_measure_40 : decode cX0_measure 40 = .ok (.getfield 41, 3) := by decide +kernel
theorem dX0_measure_43 : decode cX0_measure 43 = .ok (.iload_n 3, 1) := by decide +kernel
theorem dX0_measure_44 : decode cX0_measure 44 = .ok (.iastore, 1) := by decide +kernel
theorem dX0_measure_45 : decode cX0_measure 45 = .ok (.aload_n 0, 1) := by decide +kernel
theorem dX0_measure_46 : decode cX0_measure 46 = .ok (.getfield 47, 3) := by decide +kernel
theorem dX0_measure_49 : decode cX0_measure 49 = .ok (.aload_n 0, 1) := by decide +kernel
theorem dX0_measure_50 : decode cX0_measure 50 = .ok (.getfield 41, 3) := by decide +kernel
theorem dX0_measure_53 : decode cX0_measure 53 = .ok (.iload 4, 2) := by decide +kernel
theorem dX0_measure_55 : decode cX0_measure 55 = .ok (.iastore, 1) := by decide +kernel
theorem dX0_measure_56 : decode cX0_measure 56 = .ok (.aload_n 0, 1) := by decide +kernel
theorem dX0_measure_57 : decode cX0_measure 57 = .ok (.getfield 50, 3) := by decide +kernel
theorem dX0_measure_60 : decode cX0_measure 60 = .ok (.aload_n 0, 1) := by decide +kernel
theorem dX0_measure_61 : decode cX0_measure 61 = .ok (.getfield 41, 3) := by decide +kernel
theorem dX0_measure_64 : decode cX0_measure 64 = .ok (.aload_n 0, 1) := by decide +kernel
theorem dX0_measure_65 : decode cX0_measure 65 = .ok (.getfield 31, 3) := by decide +kernel
theorem dX0_measure_68 : decode cX0_measure 68 = .ok (.iastore, 1) := by decide +kernel
theorem dX0_measure_69 : decode cX0_measure 69 = .ok (.aload_n 0, 1) := by decide +kernel
theorem dX0_measure_70 : decode cX0_measure 70 = .ok (.dup, 1) := by decide +kernel
theorem dX0_measure_71 : decode cX0_measure 71 = .ok (.getfield 41, 3) := by decide +kernel
theorem dX0_measure_74 : decode cX0_measure 74 = .ok (.iconst 1, 1) := by decide +kernel
theorem dX0_measure_75 : decode cX0_measure 75 = .ok (.iadd, 1) := by decide +kernel
theorem dX0_measure_76 : decode cX0_measure 76 = .ok (.putfield 41, 3) := by decide +kernel
theorem dX0_measure_79 : decode cX0_measure 79 = .ok (.iload 4, 2) := by decide +kernel
theorem dX0_measure_81 : decode cX0_measure 81 = .ok (.ireturn, 1) := by decide +kernel
theorem dX0_touchAt_0 : decode cX0_touchAt 0 = .ok (.iconst 0, 1) := by decide +kernel
theorem dX0_touchAt_1 : decode cX0_touchAt 1 = .ok (.istore_n 2, 1) := by decide +kernel
theorem dX0_touchAt_2 : decode cX0_touchAt 2 = .ok (.iload_n 2, 1) := by decide +kernel
theorem dX0_touchAt_3 : decode cX0_touchAt 3 = .ok (.aload_n 0, 1) := by decide +kernel
theorem dX0_touchAt_4 : decode cX0_touchAt 4 = .ok (.getfield 21, 3) := by decide +kernel
theorem dX0_touchAt_7 : decode cX0_touchAt 7 = .ok (.if_icmp .ge 21, 3) := by decide +kernel
theorem dX0_touchAt_10 : decode cX0_touchAt 10 = .ok (.aload_n 0, 1) := by decide +kernel
theorem dX0_touchAt_11 : decode cX0_touchAt 11 = .ok (.getfield 25, 3) := by decide +kernel
theorem dX0_touchAt_14 : decode cX0_touchAt 14 = .ok (.iload_n 2, 1) := by decide +kernel
theorem dX0_touchAt_15 : decode cX0_touchAt 15 = .ok (.iaload, 1) := by decide +kernel
theorem dX0_touchAt_16 : decode cX0_touchAt 16 = .ok (.iload_n 1, 1) := by decide +kernel
theorem dX0_touchAt_17 : decode cX0_touchAt 17 = .ok (.if_icmp .ne 5, 3) := by decide +kernel
theorem dX0_touchAt_20 : decode cX0_touchAt 20 = .ok (.iload_n 2, 1) := by decide +kernel
theorem dX0_touchAt_21 : decode cX0_touchAt 21 = .ok (.ireturn, 1) := by decide +kernel
theorem dX0_touchAt_22 : decode cX0_touchAt 22 = .ok (.iinc 2 1, 3) := by decide +kernel
theorem dX0_touchAt_25 : decode cX0_touchAt 25 = .ok (.goto (-23), 3) := by decide +kernel
theorem dX0_touchAt_28 : decode cX0_touchAt 28 = .ok (.bipush (-6), 2) := by decide +kernel
theorem dX0_touchAt_30 : decode cX0_touchAt 30 = .ok (.ireturn, 1) := by decide +kernel
set_option maxRecDepth 20000 in
theorem ggX0_isLive_X0_isFed : GoodIn wsX0_isLive wsX0_isFed := goodIn_r _ [8, 9, 10, 11, 12, 13, 14, 15, 16, 17, 18, 19, 20, 21, 22] (by decide +kernel) (by decide +kernel)
set_option maxRecDepth 20000 in
theorem gX0_isLive_X0_isFed : GoodIn wsX0_isLive (wsV RX0 96 RX0 yX0_isFed wsX0_isFed) := goodIn_app (goodIn_of _ (by decide +kernel)) ggX0_isLive_X0_isFed
theorem dX0_isLive_0 : decode cX0_isLive 0 = .ok (.aload_n 0, 1) := by decide +kernel
theorem dX0_isLive_1 : decode cX0_isLive 1 = .ok (.aload_n 0, 1) := by decide +kernel
theorem dX0_isLive_2 : decode cX0_isLive 2 = .ok (.getfield 15, 3) := by decide +kernel
theorem dX0_isLive_5 : decode cX0_isLive 5 = .ok (.aload_n 0, 1) := by decide +kernel
theorem dX0_isLive_6 : decode cX0_isLive 6 = .ok (.getfield 25, 3) := by decide +kernel
theorem dX0_isLive_9 : decode cX0_isLive 9 = .ok (.iload_n 1, 1) := by decide +kernel
theorem dX0_isLive_10 : decode cX0_isLive 10 = .ok (.iaload, 1) := by decide +kernel
theorem dX0_isLive_11 : decode cX0_isLive 11 = .ok (.iaload, 1) := by decide +kernel
theorem dX0_isLive_12 : decode cX0_isLive 12 = .ok (.aload_n 0, 1) := by decide +kernel
theorem dX0_isLive_13 : decode cX0_isLive 13 = .ok (.getfield 28, 3) := by decide +kernel
theorem dX0_isLive_16 : decode cX0_isLive 16 = .ok (.iload_n 1, 1) := by decide +kernel
theorem dX0_isLive_17 : decode cX0_isLive 17 = .ok (.iaload, 1) := by decide +kernel
theorem dX0_isLive_18 : decode cX0_isLive 18 = .ok (.invokevirtual 96, 3) := by decide +kernel
theorem dX0_isLive_21 : decode cX0_isLive 21 = .ok (.ireturn, 1) := by decide +kernel
set_option maxRecDepth 20000 in
theorem ggX0_heated_X0_isLive : GoodIn wsX0_heated wsX0_isLive := goodIn_r _ [7, 8, 2, 9, 10, 11, 12, 6, 13, 14, 15, 16, 17, 18, 19, 20, 21, 22, 23, 24, 25, 26, 27] (by decide +kernel) (by decide +kernel)
set_option maxRecDepth 20000 in
theorem gX0_heated_X0_isLive : GoodIn wsX0_heated (wsV RX0 115 RX0 yX0_isLive wsX0_isLive) := goodIn_app (goodIn_of _ (by decide +kernel)) ggX0_heated_X0_isLive
theorem dX0_heated_0 : decode cX0_heated 0 = .ok (.lconst 0, 1) := by decide +kernel
theorem dX0_heated_1 : decode cX0_heated 1 = .ok (.lstore_n 1, 1) := by decide +kernel
theorem dX0_heated_2 : decode cX0_heated 2 = .ok (.iconst 0, 1) := by decide +kernel
theorem dX0_heated_3 : decode cX0_heated 3 = .ok (.istore_n 3, 1) := by decide +kernel
theorem dX0_heated_4 : decode cX0_heated 4 = .ok (.iload_n 3, 1) := by decide +kernel
theorem dX0_heated_5 : decode cX0_heated 5 = .ok (.aload_n 0, 1) := by decide +kernel
theorem dX0_heated_6 : decode cX0_heated 6 = .ok (.getfield 21, 3) := by decide +kernel
theorem dX0_heated_9 : decode cX0_heated 9 = .ok (.if_icmp .ge 28, 3) := by decide +kernel
theorem dX0_heated_12 : decode cX0_heated 12 = .ok (.aload_n 0, 1) := by decide +kernel
theorem dX0_heated_13 : decode cX0_heated 13 = .ok (.iload_n 3, 1) := by decide +kernel
theorem dX0_heated_14 : decode cX0_heated 14 = .ok (.invokevirtual 115, 3) := by decide +kernel
theorem dX0_heated_17 : decode cX0_heated 17 = .ok (.ifCond .eq 14, 3) := by decide +kernel
theorem dX0_heated_20 : decode cX0_heated 20 = .ok (.lload_n 1, 1) := by decide +kernel
theorem dX0_heated_21 : decode cX0_heated 21 = .ok (.lconst 1, 1) := by decide +kernel
theorem dX0_heated_22 : decode cX0_heated 22 = .ok (.aload_n 0, 1) := by decide +kernel
theorem dX0_heated_23 : decode cX0_heated 23 = .ok (.getfield 25, 3) := by decide +kernel
theorem dX0_heated_26 : decode cX0_heated 26 = .ok (.iload_n 3, 1) := by decide +kernel
theorem dX0_heated_27 : decode cX0_heated 27 = .ok (.iaload, 1) := by decide +kernel
theorem dX0_heated_28 : decode cX0_heated 28 = .ok (.lshl, 1) := by decide +kernel
theorem dX0_heated_29 : decode cX0_heated 29 = .ok (.lor, 1) := by decide +kernel
theorem dX0_heated_30 : decode cX0_heated 30 = .ok (.lstore_n 1, 1) := by decide +kernel
theorem dX0_heated_31 : decode cX0_heated 31 = .ok (.iinc 3 1, 3) := by decide +kernel
theorem dX0_heated_34 : decode cX0_heated 34 = .ok (.goto (-30), 3) := by decide +kernel
theorem dX0_heated_37 : decode cX0_heated 37 = .ok (.lload_n 1, 1) := by decide +kernel
theorem dX0_heated_38 : decode cX0_heated 38 = .ok (.lreturn, 1) := by decide +kernel
theorem dX0_tracked_0 : decode cX0_tracked 0 = .ok (.lconst 0, 1) := by decide +kernel
theorem dX0_tracked_1 : decode cX0_tracked 1 = .ok (.lstore_n 1, 1) := by decide +kernel
theorem dX0_tracked_2 : decode cX0_tracked 2 = .ok (.iconst 0, 1) := by decide +kernel
theorem dX0_tracked_3 : decode cX0_tracked 3 = .ok (.istore_n 3, 1) := by decide +kernel
theorem dX0_tracked_4 : decode cX0_tracked 4 = .ok (.iload_n 3, 1) := by decide +kernel
theorem dX0_tracked_5 : decode cX0_tracked 5 = .ok (.bipush 64, 2) := by decide +kernel
theorem dX0_tracked_7 : decode cX0_tracked 7 = .ok (.if_icmp .ge 24, 3) := by decide +kernel
theorem dX0_tracked_10 : decode cX0_tracked 10 = .ok (.aload_n 0, 1) := by decide +kernel
theorem dX0_tracked_11 : decode cX0_tracked 11 = .ok (.getfield 15, 3) := by decide +kernel
theorem dX0_tracked_14 : decode cX0_tracked 14 = .ok (.iload_n 3, 1) := by decide +kernel
theorem dX0_tracked_15 : decode cX0_tracked 15 = .ok (.iaload, 1) := by decide +kernel
theorem dX0_tracked_16 : decode cX0_tracked 16 = .ok (.ifCond .eq 9, 3) := by decide +kernel
theorem dX0_tracked_19 : decode cX0_tracked 19 = .ok (.lload_n 1, 1) := by decide +kernel
theorem dX0_tracked_20 : decode cX0_tracked 20 = .ok (.lconst 1, 1) := by decide +kernel
theorem dX0_tracked_21 : decode cX0_tracked 21 = .ok (.iload_n 3, 1) := by decide +kernel
theorem dX0_tracked_22 : decode cX0_tracked 22 = .ok (.lshl, 1) := by decide +kernel
theorem dX0_tracked_23 : decode cX0_tracked 23 = .ok (.lor, 1) := by decide +kernel
theorem dX0_tracked_24 : decode cX0_tracked 24 = .ok (.lstore_n 1, 1) := by decide +kernel
theorem dX0_tracked_25 : decode cX0_tracked 25 = .ok (.iinc 3 1, 3) := by decide +kernel
theorem dX0_tracked_28 : decode cX0_tracked 28 = .ok (.goto (-24), 3) := by decide +kernel
theorem dX0_tracked_31 : decode cX0_tracked 31 = .ok (.lload_n 1, 1) := by decide +kernel
theorem dX0_tracked_32 : decode cX0_tracked 32 = .ok (.lreturn, 1) := by decide +kernel
set_option maxRecDepth 20000 in
theorem ggX0_suspects_X0_isSuspect : GoodIn wsX0_suspects wsX0_isSuspect := goodIn_r _ [5, 6, 7, 8, 9, 10, 11, 12, 4, 13, 14, 15, 16, 17, 18, 19, 20, 21, 22, 23, 24, 25, 26, 27] (by decide +kernel) (by decide +kernel)
set_option maxRecDepth 20000 in
theorem gX0_suspects_X0_isSuspect : GoodIn wsX0_suspects (wsV RX0 118 RX0 yX0_isSuspect wsX0_isSuspect) := goodIn_app (goodIn_of _ (by decide +kernel)) ggX0_suspects_X0_isSuspect
theorem dX0_suspects_0 : decode cX0_suspects 0 = .ok (.lconst 0, 1) := by decide +kernel
theorem dX0_suspects_1 : decode cX0_suspects 1 = .ok (.lstore_n 1, 1) := by decide +kernel
theorem dX0_suspects_2 : decode cX0_suspects 2 = .ok (.iconst 0, 1) := by decide +kernel
theorem dX0_suspects_3 : decode cX0_suspects 3 = .ok (.istore_n 3, 1) := by decide +kernel
theorem dX0_suspects_4 : decode cX0_suspects 4 = .ok (.iload_n 3, 1) := by decide +kernel
theorem dX0_suspects_5 : decode cX0_suspects 5 = .ok (.bipush 64, 2) := by decide +kernel
theorem dX0_suspects_7 : decode cX0_suspects 7 = .ok (.if_icmp .ge 23, 3) := by decide +kernel
theorem dX0_suspects_10 : decode cX0_suspects 10 = .ok (.aload_n 0, 1) := by decide +kernel
theorem dX0_suspects_11 : decode cX0_suspects 11 = .ok (.iload_n 3, 1) := by decide +kernel
theorem dX0_suspects_12 : decode cX0_suspects 12 = .ok (.invokevirtual 118, 3) := by decide +kernel
theorem dX0_suspects_15 : decode cX0_suspects 15 = .ok (.ifCond .eq 9, 3) := by decide +kernel
theorem dX0_suspects_18 : decode cX0_suspects 18 = .ok (.lload_n 1, 1) := by decide +kernel
theorem dX0_suspects_19 : decode cX0_suspects 19 = .ok (.lconst 1, 1) := by decide +kernel
theorem dX0_suspects_20 : decode cX0_suspects 20 = .ok (.iload_n 3, 1) := by decide +kernel
theorem dX0_suspects_21 : decode cX0_suspects 21 = .ok (.lshl, 1) := by decide +kernel
theorem dX0_suspects_22 : decode cX0_suspects 22 = .ok (.lor, 1) := by decide +kernel
theorem dX0_suspects_23 : decode cX0_suspects 23 = .ok (.lstore_n 1, 1) := by decide +kernel
theorem dX0_suspects_24 : decode cX0_suspects 24 = .ok (.iinc 3 1, 3) := by decide +kernel
theorem dX0_suspects_27 : decode cX0_suspects 27 = .ok (.goto (-23), 3) := by decide +kernel
theorem dX0_suspects_30 : decode cX0_suspects 30 = .ok (.lload_n 1, 1) := by decide +kernel
theorem dX0_suspects_31 : decode cX0_suspects 31 = .ok (.lreturn, 1) := by decide +kernel
set_option maxRecDepth 20000 in
theorem ggX0_isSuspect_X5_neighbourOf : GoodIn wsX0_isSuspect wsX5_neighbourOf := goodIn_r _ [4] (by decide +kernel) (by decide +kernel)
set_option maxRecDepth 20000 in
theorem gX0_isSuspect_X5_neighbourOf_n93 : GoodIn wsX0_isSuspect (wsX5_neighbourOf) := ggX0_isSuspect_X5_neighbourOf
set_option maxRecDepth 20000 in
theorem ggX0_isSuspect_X0_isFed : GoodIn wsX0_isSuspect wsX0_isFed := goodIn_r _ [9, 10, 11, 12, 13, 14, 15, 16, 17, 18, 19, 20, 21, 22, 23] (by decide +kernel) (by decide +kernel)
set_option maxRecDepth 20000 in
theorem gX0_isSuspect_X0_isFed : GoodIn wsX0_isSuspect (wsV RX0 96 RX0 yX0_isFed wsX0_isFed) := goodIn_app (goodIn_of _ (by decide +kernel)) ggX0_isSuspect_X0_isFed
theorem dX0_isSuspect_0 : decode cX0_isSuspect 0 = .ok (.iconst 0, 1) := by decide +kernel
theorem dX0_isSuspect_1 : decode cX0_isSuspect 1 = .ok (.istore_n 2, 1) := by decide +kernel
theorem dX0_isSuspect_2 : decode cX0_isSuspect 2 = .ok (.iload_n 2, 1) := by decide +kernel
theorem dX0_isSuspect_3 : decode cX0_isSuspect 3 = .ok (.iconst 4, 1) := by decide +kernel
theorem dX0_isSuspect_4 : decode cX0_isSuspect 4 = .ok (.if_icmp .ge 40, 3) := by decide +kernel
theorem dX0_isSuspect_7 : decode cX0_isSuspect 7 = .ok (.iload_n 1, 1) := by decide +kernel
theorem dX0_isSuspect_8 : decode cX0_isSuspect 8 = .ok (.iload_n 2, 1) := by decide +kernel
theorem dX0_isSuspect_9 : decode cX0_isSuspect 9 = .ok (.invokestatic 93, 3) := by decide +kernel
theorem dX0_isSuspect_12 : decode cX0_isSuspect 12 = .ok (.istore_n 3, 1) := by decide +kernel
theorem dX0_isSuspect_13 : decode cX0_isSuspect 13 = .ok (.iload_n 3, 1) := by decide +kernel
theorem dX0_isSuspect_14 : decode cX0_isSuspect 14 = .ok (.ifCond .lt 24, 3) := by decide +kernel
theorem dX0_isSuspect_17 : decode cX0_isSuspect 17 = .ok (.aload_n 0, 1) := by decide +kernel
theorem dX0_isSuspect_18 : decode cX0_isSuspect 18 = .ok (.aload_n 0, 1) := by decide +kernel
theorem dX0_isSuspect_19 : decode cX0_isSuspect 19 = .ok (.getfield 15, 3) := by decide +kernel
theorem dX0_isSuspect_22 : decode cX0_isSuspect 22 = .ok (.iload_n 1, 1) := by decide +kernel
theorem dX0_isSuspect_23 : decode cX0_isSuspect 23 = .ok (.iaload, 1) := by decide +kernel
theorem dX0_isSuspect_24 : decode cX0_isSuspect 24 = .ok (.aload_n 0, 1) := by decide +kernel
theorem dX0_isSuspect_25 : decode cX0_isSuspect 25 = .ok (.getfield 15, 3) := by decide +kernel
theorem dX0_isSuspect_28 : decode cX0_isSuspect 28 = .ok (.iload_n 3, 1) := by decide +kernel
theorem dX0_isSuspect_29 : decode cX0_isSuspect 29 = .ok (.iaload, 1) := by decide +kernel
theorem dX0_isSuspect_30 : decode cX0_isSuspect 30 = .ok (.invokevirtual 96, 3) := by decide +kernel
theorem dX0_isSuspect_33 : decode cX0_isSuspect 33 = .ok (.ifCond .eq 5, 3) := by decide +kernel
theorem dX0_isSuspect_36 : decode cX0_isSuspect 36 = .ok (.iconst 1, 1) := by decide +kernel
theorem dX0_isSuspect_37 : decode cX0_isSuspect 37 = .ok (.ireturn, 1) := by decide +kernel
theorem dX0_isSuspect_38 : decode cX0_isSuspect 38 = .ok (.iinc 2 1, 3) := by decide +kernel
theorem dX0_isSuspect_41 : decode cX0_isSuspect 41 = .ok (.goto (-39), 3) := by decide +kernel
theorem dX0_isSuspect_44 : decode cX0_isSuspect 44 = .ok (.iconst 0, 1) := by decide +kernel
theorem dX0_isSuspect_45 : decode cX0_isSuspect 45 = .ok (.ireturn, 1) := by decide +kernel
theorem dX0_placesOf_0 : decode cX0_placesOf 0 = .ok (.iconst 0, 1) := by decide +kernel
theorem dX0_placesOf_1 : decode cX0_placesOf 1 = .ok (.istore_n 2, 1) := by decide +kernel
theorem dX0_placesOf_2 : decode cX0_placesOf 2 = .ok (.iconst 0, 1) := by decide +kernel
theorem dX0_placesOf_3 : decode cX0_placesOf 3 = .ok (.istore_n 3, 1) := by decide +kernel
theorem dX0_placesOf_4 : decode cX0_placesOf 4 = .ok (.iload_n 3, 1) := by decide +kernel
theorem dX0_placesOf_5 : decode cX0_placesOf 5 = .ok (.bipush 64, 2) := by decide +kernel
theorem dX0_placesOf_7 : decode cX0_placesOf 7 = .ok (.if_icmp .ge 22, 3) := by decide +kernel
theorem dX0_placesOf_10 : decode cX0_placesOf 10 = .ok (.aload_n 0, 1) := by decide +kernel
theorem dX0_placesOf_11 : decode cX0_placesOf 11 = .ok (.getfield 15, 3) := by decide +kernel
theorem dX0_placesOf_14 : decode cX0_placesOf 14 = .ok (.iload_n 3, 1) := by decide +kernel
theorem dX0_placesOf_15 : decode cX0_placesOf 15 = .ok (.iaload, 1) := by decide +kernel
theorem dX0_placesOf_16 : decode cX0_placesOf 16 = .ok (.iload_n 1, 1) := by decide +kernel
theorem dX0_placesOf_17 : decode cX0_placesOf 17 = .ok (.if_icmp .ne 6, 3) := by decide +kernel
theorem dX0_placesOf_20 : decode cX0_placesOf 20 = .ok (.iinc 2 1, 3) := by decide +kernel
theorem dX0_placesOf_23 : decode cX0_placesOf 23 = .ok (.iinc 3 1, 3) := by decide +kernel
theorem dX0_placesOf_26 : decode cX0_placesOf 26 = .ok (.goto (-22), 3) := by decide +kernel
theorem dX0_placesOf_29 : decode cX0_placesOf 29 = .ok (.iload_n 2, 1) := by decide +kernel
theorem dX0_placesOf_30 : decode cX0_placesOf 30 = .ok (.ireturn, 1) := by decide +kernel
theorem dX0_warmthOf_0 : decode cX0_warmthOf 0 = .ok (.fconst 0, 1) := by decide +kernel
theorem dX0_warmthOf_1 : decode cX0_warmthOf 1 = .ok (.fstore_n 2, 1) := by decide +kernel
theorem dX0_warmthOf_2 : decode cX0_warmthOf 2 = .ok (.iconst 0, 1) := by decide +kernel
theorem dX0_warmthOf_3 : decode cX0_warmthOf 3 = .ok (.istore_n 3, 1) := by decide +kernel
theorem dX0_warmthOf_4 : decode cX0_warmthOf 4 = .ok (.iload_n 3, 1) := by decide +kernel
theorem dX0_warmthOf_5 : decode cX0_warmthOf 5 = .ok (.bipush 64, 2) := by decide +kernel
theorem dX0_warmthOf_7 : decode cX0_warmthOf 7 = .ok (.if_icmp .ge 28, 3) := by decide +kernel
theorem dX0_warmthOf_10 : decode cX0_warmthOf 10 = .ok (.aload_n 0, 1) := by decide +kernel
theorem dX0_warmthOf_11 : decode cX0_warmthOf 11 = .ok (.getfield 15, 3) := by decide +kernel
theorem dX0_warmthOf_14 : decode cX0_warmthOf 14 = .ok (.iload_n 3, 1) := by decide +kernel
theorem dX0_warmthOf_15 : decode cX0_warmthOf 15 = .ok (.iaload, 1) := by decide +kernel
theorem dX0_warmthOf_16 : decode cX0_warmthOf 16 = .ok (.iload_n 1, 1) := by decide +kernel
theorem dX0_warmthOf_17 : decode cX0_warmthOf 17 = .ok (.if_icmp .ne 12, 3) := by decide +kernel
theorem dX0_warmthOf_20 : decode cX0_warmthOf 20 = .ok (.fload_n 2, 1) := by decide +kernel
theorem dX0_warmthOf_21 : decode cX0_warmthOf 21 = .ok (.aload_n 0, 1) := by decide +kernel
theorem dX0_warmthOf_22 : decode cX0_warmthOf 22 = .ok (.getfield 34, 3) := by decide +kernel
theorem dX0_warmthOf_25 : decode cX0_warmthOf 25 = .ok (.iload_n 3, 1) := by decide +kernel
theorem dX0_warmthOf_26 : decode cX0_warmthOf 26 = .ok (.faload, 1) := by decide +kernel
theorem dX0_warmthOf_27 : decode cX0_warmthOf 27 = .ok (.fadd, 1) := by decide +kernel
theorem dX0_warmthOf_28 : decode cX0_warmthOf 28 = .ok (.fstore_n 2, 1) := by decide +kernel
theorem dX0_warmthOf_29 : decode cX0_warmthOf 29 = .ok (.iinc 3 1, 3) := by decide +kernel
theorem dX0_warmthOf_32 : decode cX0_warmthOf 32 = .ok (.goto (-28), 3) := by decide +kernel
theorem dX0_warmthOf_35 : decode cX0_warmthOf 35 = .ok (.fload_n 2, 1) := by decide +kernel
theorem dX0_warmthOf_36 : decode cX0_warmthOf 36 = .ok (.freturn, 1) := by decide +kernel
theorem dX0_warmest_0 : decode cX0_warmest 0 = .ok (.iconst 0, 1) := by decide +kernel
theorem dX0_warmest_1 : decode cX0_warmest 1 = .ok (.istore_n 1, 1) := by decide +kernel
theorem dX0_warmest_2 : decode cX0_warmest 2 = .ok (.iconst 1, 1) := by decide +kernel
theorem dX0_warmest_3 : decode cX0_warmest 3 = .ok (.istore_n 2, 1) := by decide +kernel
theorem dX0_warmest_4 : decode cX0_warmest 4 = .ok (.iload_n 2, 1) := by decide +kernel
theorem dX0_warmest_5 : decode cX0_warmest 5 = .ok (.bipush 64, 2) := by decide +kernel
theorem dX0_warmest_7 : decode cX0_warmest 7 = .ok (.if_icmp .ge 27, 3) := by decide +kernel
theorem dX0_warmest_10 : decode cX0_warmest 10 = .ok (.aload_n 0, 1) := by decide +kernel
theorem dX0_warmest_11 : decode cX0_warmest 11 = .ok (.getfield 34, 3) := by decide +kernel
theorem dX0_warmest_14 : decode cX0_warmest 14 = .ok (.iload_n 2, 1) := by decide +kernel
theorem dX0_warmest_15 : decode cX0_warmest 15 = .ok (.faload, 1) := by decide +kernel
theorem dX0_warmest_16 : decode cX0_warmest 16 = .ok (.aload_n 0, 1) := by decide +kernel
theorem dX0_warmest_17 : decode cX0_warmest 17 = .ok (.getfield 34, 3) := by decide +kernel
theorem dX0_warmest_20 : decode cX0_warmest 20 = .ok (.iload_n 1, 1) := by decide +kernel
theorem dX0_warmest_21 : decode cX0_warmest 21 = .ok (.faload, 1) := by decide +kernel
theorem dX0_warmest_22 : decode cX0_warmest 22 = .ok (.fcmp .l, 1) := by decide +kernel
theorem dX0_warmest_23 : decode cX0_warmest 23 = .ok (.ifCond .le 5, 3) := by decide +kernel
theorem dX0_warmest_26 : decode cX0_warmest 26 = .ok (.iload_n 2, 1) := by decide +kernel
theorem dX0_warmest_27 : decode cX0_warmest 27 = .ok (.istore_n 1, 1) := by decide +kernel
theorem dX0_warmest_28 : decode cX0_warmest 28 = .ok (.iinc 2 1, 3) := by decide +kernel
theorem dX0_warmest_31 : decode cX0_warmest 31 = .ok (.goto (-27), 3) := by decide +kernel
theorem dX0_warmest_34 : decode cX0_warmest 34 = .ok (.iload_n 1, 1) := by decide +kernel
theorem dX0_warmest_35 : decode cX0_warmest 35 = .ok (.ireturn, 1) := by decide +kernel
theorem dX1_init_0 : decode cX1_init 0 = .ok (.aload_n 0, 1) := by decide +kernel
theorem dX1_init_1 : decode cX1_init 1 = .ok (.invokespecial 3, 3) := by decide +kernel
theorem dX1_init_4 : decode cX1_init 4 = .ok (.aload_n 0, 1) := by decide +kernel
theorem dX1_init_5 : decode cX1_init 5 = .ok (.iconst 4, 1) := by decide +kernel
theorem dX1_init_6 : decode cX1_init 6 = .ok (.newarray .int, 2) := by decide +kernel
theorem dX1_init_8 : decode cX1_init 8 = .ok (.putfield 9, 3) := by decide +kernel
theorem dX1_init_11 : decode cX1_init 11 = .ok (.aload_n 0, 1) := by decide +kernel
theorem dX1_init_12 : decode cX1_init 12 = .ok (.bipush 64, 2) := by decide +kernel
theorem dX1_init_14 : decode cX1_init 14 = .ok (.anewarray 15, 3) := by decide +kernel
theorem dX1_init_17 : decode cX1_init 17 = .ok (.putfield 17, 3) := by decide +kernel
theorem dX1_init_20 : decode cX1_init 20 = .ok (.aload_n 0, 1) := by decide +kernel
theorem dX1_init_21 : decode cX1_init 21 = .ok (.bipush 64, 2) := by decide +kernel
theorem dX1_init_23 : decode cX1_init 23 = .ok (.newarray .int, 2) := by decide +kernel
theorem dX1_init_25 : decode cX1_init 25 = .ok (.putfield 21, 3) := by decide +kernel
theorem dX1_init_28 : decode cX1_init 28 = .ok (.return_, 1) := by decide +kernel
theorem dX1_follow_0 : decode cX1_follow 0 = .ok (.aload_n 0, 1) := by decide +kernel
theorem dX1_follow_1 : decode cX1_follow 1 = .ok (.getfield 9, 3) := by decide +kernel
theorem dX1_follow_4 : decode cX1_follow 4 = .ok (.iconst 0, 1) := by decide +kernel
theorem dX1_follow_5 : decode cX1_follow 5 = .ok (.iaload, 1) := by decide +kernel
theorem dX1_follow_6 : decode cX1_follow 6 = .ok (.aload_n 1, 1) := by decide +kernel
theorem dX1_follow_7 : decode cX1_follow 7 = .ok (.iconst 0, 1) := by decide +kernel
theorem dX1_follow_8 : decode cX1_follow 8 = .ok (.iaload, 1) := by decide +kernel
theorem dX1_follow_9 : decode cX1_follow 9 = .ok (.if_icmp .ne 28, 3) := by decide +kernel
theorem dX1_follow_12 : decode cX1_follow 12 = .ok (.aload_n 0, 1) := by decide +kernel
theorem dX1_follow_13 : decode cX1_follow 13 = .ok (.getfield 9, 3) := by decide +kernel
theorem dX1_follow_16 : decode cX1_follow 16 = .ok (.iconst 1, 1) := by decide +kernel
theorem dX1_follow_17 : decode cX1_follow 17 = .ok (.iaload, 1) := by decide +kernel
theorem dX1_follow_18 : decode cX1_follow 18 = .ok (.aload_n 1, 1) := by decide +kernel
theorem dX1_follow_19 : decode cX1_follow 19 = .ok (.iconst 1, 1) := by decide +kernel
theorem dX1_follow_20 : decode cX1_follow 20 = .ok (.iaload, 1) := by decide +kernel
theorem dX1_follow_21 : decode cX1_follow 21 = .ok (.if_icmp .ne 16, 3) := by decide +kernel
theorem dX1_follow_24 : decode cX1_follow 24 = .ok (.aload_n 0, 1) := by decide +kernel
theorem dX1_follow_25 : decode cX1_follow 25 = .ok (.getfield 9, 3) := by decide +kernel
theorem dX1_follow_28 : decode cX1_follow 28 = .ok (.iconst 2, 1) := by decide +kernel
theorem dX1_follow_29 : decode cX1_follow 29 = .ok (.iaload, 1) := by decide +kernel
theorem dX1_follow_30 : decode cX1_follow 30 = .ok (.aload_n 1, 1) := by decide +kernel
theorem dX1_follow_31 : decode cX1_follow 31 = .ok (.iconst 2, 1) := by decide +kernel
theorem dX1_follow_32 : decode cX1_follow 32 = .ok (.iaload, 1) := by decide +kernel
theorem dX1_follow_33 : decode cX1_follow 33 = .ok (.if_icmp .ne 4, 3) := by decide +kernel
theorem dX1_follow_36 : decode cX1_follow 36 = .ok (.return_, 1) := by decide +kernel
theorem dX1_follow_37 : decode cX1_follow 37 = .ok (.aload_n 1, 1) := by decide +kernel
theorem dX1_follow_38 : decode cX1_follow 38 = .ok (.iconst 0, 1) := by decide +kernel
theorem dX1_follow_39 : decode cX1_follow 39 = .ok (.aload_n 0, 1) := by decide +kernel
theorem dX1_follow_40 : decode cX1_follow 40 = .ok (.getfield 9, 3) := by decide +kernel
theorem dX1_follow_43 : decode cX1_follow 43 = .ok (.iconst 0, 1) := by decide +kernel
theorem dX1_follow_44 : decode cX1_follow 44 = .ok (.iconst 4, 1) := by decide +kernel
theorem dX1_follow_45 : decode cX1_follow 45 = .ok (.invokestatic 24, 3) := by decide +kernel
theorem dX1_follow_48 : decode cX1_follow 48 = .ok (.iconst 0, 1) := by decide +kernel
theorem dX1_follow_49 : decode cX1_follow 49 = .ok (.istore_n 2, 1) := by decide +kernel
theorem dX1_follow_50 : decode cX1_follow 50 = .ok (.iload_n 2, 1) := by decide +kernel
theorem dX1_follow_51 : decode cX1_follow 51 = .ok (.bipush 64, 2) := by decide +kernel
theorem dX1_follow_53 : decode cX1_follow 53 = .ok (.if_icmp .ge 16, 3) := by decide +kernel
theorem dX1_follow_56 : decode cX1_follow 56 = .ok (.aload_n 0, 1) := by decide +kernel
theorem dX1_follow_57 : decode cX1_follow 57 = .ok (.getfield 21, 3) := by decide +kernel
theorem dX1_follow_60 : decode cX1_follow 60 = .ok (.iload_n 2, 1) := by decide +kernel
theorem dX1_follow_61 : decode cX1_follow 61 = .ok (.iconst 0, 1) := by decide +kernel
theorem dX1_follow_62 : decode cX1_follow 62 = .ok (.iastore, 1) := by decide +kernel
theorem dX1_follow_63 : decode cX1_follow 63 = .ok (.iinc 2 1, 3) := by decide +kernel
theorem dX1_follow_66 : decode cX1_follow 66 = .ok (.goto (-16), 3) := by decide +kernel
theorem dX1_follow_69 : decode cX1_follow 69 = .ok (.return_, 1) := by decide +kernel
set_option maxRecDepth 20000 in
theorem ggX1_warmthBy_X5_step : GoodIn wsX1_warmthBy wsX5_step := goodIn_r _ [7, 8, 9, 10, 6, 11] (by decide +kernel) (by decide +kernel)
set_option maxRecDepth 20000 in
theorem gX1_warmthBy_X5_step_n30 : GoodIn wsX1_warmthBy (wsX5_step) := ggX1_warmthBy_X5_step
theorem dX1_warmthBy_0 : decode cX1_warmthBy 0 = .ok (.aload_n 0, 1) := by decide +kernel
theorem dX1_warmthBy_1 : decode cX1_warmthBy 1 = .ok (.getfield 17, 3) := by decide +kernel
theorem dX1_warmthBy_4 : decode cX1_warmthBy 4 = .ok (.iload_n 1, 1) := by decide +kernel
theorem dX1_warmthBy_5 : decode cX1_warmthBy 5 = .ok (.aaload, 1) := by decide +kernel
theorem dX1_warmthBy_6 : decode cX1_warmthBy 6 = .ok (.ifnonnull 14, 3) := by decide +kernel
theorem dX1_warmthBy_9 : decode cX1_warmthBy 9 = .ok (.aload_n 0, 1) := by decide +kernel
theorem dX1_warmthBy_10 : decode cX1_warmthBy 10 = .ok (.getfield 17, 3) := by decide +kernel
theorem dX1_warmthBy_13 : decode cX1_warmthBy 13 = .ok (.iload_n 1, 1) := by decide +kernel
theorem dX1_warmthBy_14 : decode cX1_warmthBy 14 = .ok (.sipush 6464, 3) := by decide +kernel
theorem dX1_warmthBy_17 : decode cX1_warmthBy 17 = .ok (.newarray .float, 2) := by decide +kernel
theorem dX1_warmthBy_19 : decode cX1_warmthBy 19 = .ok (.aastore, 1) := by decide +kernel
theorem dX1_warmthBy_20 : decode cX1_warmthBy 20 = .ok (.aload_n 0, 1) := by decide +kernel
theorem dX1_warmthBy_21 : decode cX1_warmthBy 21 = .ok (.getfield 17, 3) := by decide +kernel
theorem dX1_warmthBy_24 : decode cX1_warmthBy 24 = .ok (.iload_n 1, 1) := by decide +kernel
theorem dX1_warmthBy_25 : decode cX1_warmthBy 25 = .ok (.aaload, 1) := by decide +kernel
theorem dX1_warmthBy_26 : decode cX1_warmthBy 26 = .ok (.astore 4, 2) := by decide +kernel
theorem dX1_warmthBy_28 : decode cX1_warmthBy 28 = .ok (.aload_n 0, 1) := by decide +kernel
theorem dX1_warmthBy_29 : decode cX1_warmthBy 29 = .ok (.getfield 21, 3) := by decide +kernel
theorem dX1_warmthBy_32 : decode cX1_warmthBy 32 = .ok (.iload_n 1, 1) := by decide +kernel
theorem dX1_warmthBy_33 : decode cX1_warmthBy 33 = .ok (.iaload, 1) := by decide +kernel
theorem dX1_warmthBy_34 : decode cX1_warmthBy 34 = .ok (.istore 5, 2) := by decide +kernel
theorem dX1_warmthBy_36 : decode cX1_warmthBy 36 = .ok (.iload 5, 2) := by decide +kernel
theorem dX1_warmthBy_38 : decode cX1_warmthBy 38 = .ok (.iload_n 2, 1) := by decide +kernel
theorem dX1_warmthBy_39 : decode cX1_warmthBy 39 = .ok (.if_icmp .ge 52, 3) := by decide +kernel
theorem dX1_warmthBy_42 : decode cX1_warmthBy 42 = .ok (.iload 5, 2) := by decide +kernel
theorem dX1_warmthBy_44 : decode cX1_warmthBy 44 = .ok (.bipush 100, 2) := by decide +kernel
theorem dX1_warmthBy_46 : decode cX1_warmthBy 46 = .ok (.if_icmp .ge 45, 3) := by decide +kernel
theorem dX1_warmthBy_49 : decode cX1_warmthBy 49 = .ok (.aload 4, 2) := by decide +kernel
theorem dX1_warmthBy_51 : decode cX1_warmthBy 51 = .ok (.iload 5, 2) := by decide +kernel
theorem dX1_warmthBy_53 : decode cX1_warmthBy 53 = .ok (.bipush 64, 2) := by decide +kernel
theorem dX1_warmthBy_55 : decode cX1_warmthBy 55 = .ok (.imul, 1) := by decide +kernel
theorem dX1_warmthBy_56 : decode cX1_warmthBy 56 = .ok (.aload 4, 2) := by decide +kernel
theorem dX1_warmthBy_58 : decode cX1_warmthBy 58 = .ok (.iload 5, 2) := by decide +kernel
theorem dX1_warmthBy_60 : decode cX1_warmthBy 60 = .ok (.iconst 1, 1) := by decide +kernel
theorem dX1_warmthBy_61 : decode cX1_warmthBy 61 = .ok (.iadd, 1) := by decide +kernel
theorem dX1_warmthBy_62 : decode cX1_warmthBy 62 = .ok (.bipush 64, 2) := by decide +kernel
theorem dX1_warmthBy_64 : decode cX1_warmthBy 64 = .ok (.imul, 1) := by decide +kernel
theorem dX1_warmthBy_65 : decode cX1_warmthBy 65 = .ok (.lconst 1, 1) := by decide +kernel
theorem dX1_warmthBy_66 : decode cX1_warmthBy 66 = .ok (.iload_n 1, 1) := by decide +kernel
theorem dX1_warmthBy_67 : decode cX1_warmthBy 67 = .ok (.lshl, 1) := by decide +kernel
theorem dX1_warmthBy_68 : decode cX1_warmthBy 68 = .ok (.aload_n 0, 1) := by decide +kernel
theorem dX1_warmthBy_69 : decode cX1_warmthBy 69 = .ok (.getfield 9, 3) := by decide +kernel
theorem dX1_warmthBy_72 : decode cX1_warmthBy 72 = .ok (.invokestatic 30, 3) := by decide +kernel
theorem dX1_warmthBy_75 : decode cX1_warmthBy 75 = .ok (.aload_n 0, 1) := by decide +kernel
theorem dX1_warmthBy_76 : decode cX1_warmthBy 76 = .ok (.getfield 21, 3) := by decide +kernel
theorem dX1_warmthBy_79 : decode cX1_warmthBy 79 = .ok (.iload_n 1, 1) := by decide +kernel
theorem dX1_warmthBy_80 : decode cX1_warmthBy 80 = .ok (.iload 5, 2) := by decide +kernel
theorem dX1_warmthBy_82 : decode cX1_warmthBy 82 = .ok (.iconst 1, 1) := by decide +kernel
theorem dX1_warmthBy_83 : decode cX1_warmthBy 83 = .ok (.iadd, 1) := by decide +kernel
theorem dX1_warmthBy_84 : decode cX1_warmthBy 84 = .ok (.iastore, 1) := by decide +kernel
theorem dX1_warmthBy_85 : decode cX1_warmthBy 85 = .ok (.iinc 5 1, 3) := by decide +kernel
theorem dX1_warmthBy_88 : decode cX1_warmthBy 88 = .ok (.goto (-52), 3) := by decide +kernel
theorem dX1_warmthBy_91 : decode cX1_warmthBy 91 = .ok (.aload 4, 2) := by decide +kernel
theorem dX1_warmthBy_93 : decode cX1_warmthBy 93 = .ok (.iload_n 2, 1) := by decide +kernel
theorem dX1_warmthBy_94 : decode cX1_warmthBy 94 = .ok (.bipush 64, 2) := by decide +kernel
theorem dX1_warmthBy_96 : decode cX1_warmthBy 96 = .ok (.imul, 1) := by decide +kernel
theorem dX1_warmthBy_97 : decode cX1_warmthBy 97 = .ok (.iload_n 3, 1) := by decide +kernel
theorem dX1_warmthBy_98 : decode cX1_warmthBy 98 = .ok (.iadd, 1) := by decide +kernel
theorem dX1_warmthBy_99 : decode cX1_warmthBy 99 = .ok (.faload, 1) := by decide +kernel
theorem dX1_warmthBy_100 : decode cX1_warmthBy 100 = .ok (.freturn, 1) := by decide +kernel
theorem dX2_init_0 : decode cX2_init 0 = .ok (.aload_n 0, 1) := by decide +kernel
theorem dX2_init_1 : decode cX2_init 1 = .ok (.invokespecial 3, 3) := by decide +kernel
theorem dX2_init_4 : decode cX2_init 4 = .ok (.aload_n 0, 1) := by decide +kernel
theorem dX2_init_5 : decode cX2_init 5 = .ok (.bipush 80, 2) := by decide +kernel
theorem dX2_init_7 : decode cX2_init 7 = .ok (.newarray .int, 2) := by decide +kernel
theorem dX2_init_9 : decode cX2_init 9 = .ok (.putfield 9, 3) := by decide +kernel
theorem dX2_init_12 : decode cX2_init 12 = .ok (.aload_n 0, 1) := by decide +kernel
theorem dX2_init_13 : decode cX2_init 13 = .ok (.iconst 0, 1) := by decide +kernel
theorem dX2_init_14 : decode cX2_init 14 = .ok (.putfield 15, 3) := by decide +kernel
theorem dX2_init_17 : decode cX2_init 17 = .ok (.return_, 1) := by decide +kernel
theorem dX2_append_0 : decode cX2_append 0 = .ok (.iconst 0, 1) := by decide +kernel
theorem dX2_append_1 : decode cX2_append 1 = .ok (.istore_n 3, 1) := by decide +kernel
theorem dX2_append_2 : decode cX2_append 2 = .ok (.lload_n 1, 1) := by decide +kernel
theorem dX2_append_3 : decode cX2_append 3 = .ok (.lstore 4, 2) := by decide +kernel
theorem dX2_append_5 : decode cX2_append 5 = .ok (.iload_n 3, 1) := by decide +kernel
theorem dX2_append_6 : decode cX2_append 6 = .ok (.bipush 8, 2) := by decide +kernel
theorem dX2_append_8 : decode cX2_append 8 = .ok (.if_icmp .ge 56, 3) := by decide +kernel
theorem dX2_append_11 : decode cX2_append 11 = .ok (.lload 4, 2) := by decide +kernel
theorem dX2_append_13 : decode cX2_append 13 = .ok (.ldc2_w 19, 3) := by decide +kernel
theorem dX2_append_16 : decode cX2_append 16 = .ok (.land, 1) := by decide +kernel
theorem dX2_append_17 : decode cX2_append 17 = .ok (.lconst 0, 1) := by decide +kernel
theorem dX2_append_18 : decode cX2_append 18 = .ok (.lcmp, 1) := by decide +kernel
theorem dX2_append_19 : decode cX2_append 19 = .ok (.ifCond .eq 45, 3) := by decide +kernel
theorem dX2_append_22 : decode cX2_append 22 = .ok (.lload 4, 2) := by decide +kernel
theorem dX2_append_24 : decode cX2_append 24 = .ok (.ldc2_w 19, 3) := by decide +kernel
theorem dX2_append_27 : decode cX2_append 27 = .ok (.land, 1) := by decide +kernel
theorem dX2_append_28 : decode cX2_append 28 = .ok (.ldc2_w 21, 3) := by decide +kernel
theorem dX2_append_31 : decode cX2_append 31 = .ok (.lcmp, 1) := by decide +kernel
theorem dX2_append_32 : decode cX2_append 32 = .ok (.ifCond .lt 16, 3) := by decide +kernel
theorem dX2_append_35 : decode cX2_append 35 = .ok (.lload 4, 2) := by decide +kernel
theorem dX2_append_37 : decode cX2_append 37 = .ok (.ldc2_w 19, 3) := by decide +kernel
theorem dX2_append_40 : decode cX2_append 40 = .ok (.land, 1) := by decide +kernel
theorem dX2_append_41 : decode cX2_append 41 = .ok (.ldc2_w 23, 3) := by decide +kernel
theorem dX2_append_44 : decode cX2_append 44 = .ok (.lcmp, 1) := by decide +kernel
theorem dX2_append_45 : decode cX2_append 45 = .ok (.ifCond .le 6, 3) := by decide +kernel
theorem dX2_append_48 : decode cX2_append 48 = .ok (.bipush (-2), 2) := by decide +kernel
theorem dX2_append_50 : decode cX2_append 50 = .ok (.ireturn, 1) := by decide +kernel
theorem dX2_append_51 : decode cX2_append 51 = .ok (.lload 4, 2) := by decide +kernel
theorem dX2_append_53 : decode cX2_append 53 = .ok (.bipush 8, 2) := by decide +kernel
theorem dX2_append_55 : decode cX2_append 55 = .ok (.lushr, 1) := by decide +kernel
theorem dX2_append_56 : decode cX2_append 56 = .ok (.lstore 4, 2) := by decide +kernel
theorem dX2_append_58 : decode cX2_append 58 = .ok (.iinc 3 1, 3) := by decide +kernel
theorem dX2_append_61 : decode cX2_append 61 = .ok (.goto (-56), 3) := by decide +kernel
theorem dX2_append_64 : decode cX2_append 64 = .ok (.iload_n 3, 1) := by decide +kernel
theorem dX2_append_65 : decode cX2_append 65 = .ok (.ifCond .eq 10, 3) := by decide +kernel
theorem dX2_append_68 : decode cX2_append 68 = .ok (.lload 4, 2) := by decide +kernel
theorem dX2_append_70 : decode cX2_append 70 = .ok (.lconst 0, 1) := by decide +kernel
theorem dX2_append_71 : decode cX2_append 71 = .ok (.lcmp, 1) := by decide +kernel
theorem dX2_append_72 : decode cX2_append 72 = .ok (.ifCond .eq 6, 3) := by decide +kernel
theorem dX2_append_75 : decode cX2_append 75 = .ok (.bipush (-2), 2) := by decide +kernel
theorem dX2_append_77 : decode cX2_append 77 = .ok (.ireturn, 1) := by decide +kernel
theorem dX2_append_78 : decode cX2_append 78 = .ok (.aload_n 0, 1) := by decide +kernel
theorem dX2_append_79 : decode cX2_append 79 = .ok (.getfield 15, 3) := by decide +kernel
theorem dX2_append_82 : decode cX2_append 82 = .ok (.iload_n 3, 1) := by decide +kernel
theorem dX2_append_83 : decode cX2_append 83 = .ok (.iadd, 1) := by decide +kernel
theorem dX2_append_84 : decode cX2_append 84 = .ok (.bipush 80, 2) := by decide +kernel
theorem dX2_append_86 : decode cX2_append 86 = .ok (.if_icmp .le 6, 3) := by decide +kernel
theorem dX2_append_89 : decode cX2_append 89 = .ok (.bipush (-4), 2) := by decide +kernel
theorem dX2_append_91 : decode cX2_append 91 = .ok (.ireturn, 1) := by decide +kernel
theorem dX2_append_92 : decode cX2_append 92 = .ok (.iconst 0, 1) := by decide +kernel
theorem dX2_append_93 : decode cX2_append 93 = .ok (.istore 6, 2) := by decide +kernel
theorem dX2_append_95 : decode cX2_append 95 = .ok (.iload 6, 2) := by decide +kernel
theorem dX2_append_97 : decode cX2_append 97 = .ok (.iload_n 3, 1) := by decide +kernel
theorem dX2_append_98 : decode cX2_append 98 = .ok (.if_icmp .ge 37, 3) := by decide +kernel
theorem dX2_append_101 : decode cX2_append 101 = .ok (.aload_n 0, 1) := by decide +kernel
theorem dX2_append_102 : decode cX2_append 102 = .ok (.getfield 9, 3) := by decide +kernel
theorem dX2_append_105 : decode cX2_append 105 = .ok (.aload_n 0, 1) := by decide +kernel
theorem dX2_append_106 : decode cX2_append 106 = .ok (.getfield 15, 3) := by decide +kernel
theorem dX2_append_109 : decode cX2_append 109 = .ok (.iload 6, 2) := by decide +kernel
theorem dX2_append_111 : decode cX2_append 111 = .ok (.iadd, 1) := by decide +kernel
theorem dX2_append_112 : decode cX2_append 112 = .ok (.lload_n 1, 1) := by decide +kernel
theorem dX2_append_113 : decode cX2_append 113 = .ok (.bipush 8, 2) := by decide +kernel
theorem dX2_append_115 : decode cX2_append 115 = .ok (.iload_n 3, 1) := by decide +kernel
theorem dX2_append_116 : decode cX2_append 116 = .ok (.iconst 1, 1) := by decide +kernel
theorem dX2_append_117 : decode cX2_append 117 = .ok (.isub, 1) := by decide +kernel
theorem dX2_append_118 : decode cX2_append 118 = .ok (.iload 6, 2) := by decide +kernel
theorem dX2_append_120 : decode cX2_append 120 = .ok (.isub, 1) := by decide +kernel
theorem dX2_append_121 : decode cX2_append 121 = .ok (.imul, 1) := by decide +kernel
theorem dX2_append_122 : decode cX2_append 122 = .ok (.lushr, 1) := by decide +kernel
theorem dX2_append_123 : decode cX2_append 123 = .ok (.ldc2_w 19, 3) := by decide +kernel
theorem dX2_append_126 : decode cX2_append 126 = .ok (.land, 1) := by decide +kernel
theorem dX2_append_127 : decode cX2_append 127 = .ok (.l2i, 1) := by decide +kernel
theorem dX2_append_128 : decode cX2_append 128 = .ok (.iastore, 1) := by decide +kernel
theorem dX2_append_129 : decode cX2_append 129 = .ok (.iinc 6 1, 3) := by decide +kernel
theorem dX2_append_132 : decode cX2_append 132 = .ok (.goto (-37), 3) := by decide +kernel
theorem dX2_append_135 : decode cX2_append 135 = .ok (.aload_n 0, 1) := by decide +kernel
theorem dX2_append_136 : decode cX2_append 136 = .ok (.aload_n 0, 1) := by decide +kernel
theorem dX2_append_137 : decode cX2_append 137 = .ok (.getfield 15, 3) := by decide +kernel
theorem dX2_append_140 : decode cX2_append 140 = .ok (.iload_n 3, 1) := by decide +kernel
theorem dX2_append_141 : decode cX2_append 141 = .ok (.iadd, 1) := by decide +kernel
theorem dX2_append_142 : decode cX2_append 142 = .ok (.putfield 15, 3) := by decide +kernel
theorem dX2_append_145 : decode cX2_append 145 = .ok (.aload_n 0, 1) := by decide +kernel
theorem dX2_append_146 : decode cX2_append 146 = .ok (.getfield 15, 3) := by decide +kernel
theorem dX2_append_149 : decode cX2_append 149 = .ok (.ireturn, 1) := by decide +kernel
theorem dX2_clear_0 : decode cX2_clear 0 = .ok (.aload_n 0, 1) := by decide +kernel
theorem dX2_clear_1 : decode cX2_clear 1 = .ok (.getfield 15, 3) := by decide +kernel
theorem dX2_clear_4 : decode cX2_clear 4 = .ok (.istore_n 1, 1) := by decide +kernel
theorem dX2_clear_5 : decode cX2_clear 5 = .ok (.aload_n 0, 1) := by decide +kernel
theorem dX2_clear_6 : decode cX2_clear 6 = .ok (.iconst 0, 1) := by decide +kernel
theorem dX2_clear_7 : decode cX2_clear 7 = .ok (.putfield 15, 3) := by decide +kernel
theorem dX2_clear_10 : decode cX2_clear 10 = .ok (.iload_n 1, 1) := by decide +kernel
theorem dX2_clear_11 : decode cX2_clear 11 = .ok (.ireturn, 1) := by decide +kernel
theorem dX2_codeAt_0 : decode cX2_codeAt 0 = .ok (.iload_n 1, 1) := by decide +kernel
theorem dX2_codeAt_1 : decode cX2_codeAt 1 = .ok (.ifCond .lt 20, 3) := by decide +kernel
theorem dX2_codeAt_4 : decode cX2_codeAt 4 = .ok (.iload_n 1, 1) := by decide +kernel
theorem dX2_codeAt_5 : decode cX2_codeAt 5 = .ok (.aload_n 0, 1) := by decide +kernel
theorem dX2_codeAt_6 : decode cX2_codeAt 6 = .ok (.getfield 15, 3) := by decide +kernel
theorem dX2_codeAt_9 : decode cX2_codeAt 9 = .ok (.if_icmp .ge 12, 3) := by decide +kernel
theorem dX2_codeAt_12 : decode cX2_codeAt 12 = .ok (.aload_n 0, 1) := by decide +kernel
theorem dX2_codeAt_13 : decode cX2_codeAt 13 = .ok (.getfield 9, 3) := by decide +kernel
theorem dX2_codeAt_16 : decode cX2_codeAt 16 = .ok (.iload_n 1, 1) := by decide +kernel
theorem dX2_codeAt_17 : decode cX2_codeAt 17 = .ok (.iaload, 1) := by decide +kernel
theorem dX2_codeAt_18 : decode cX2_codeAt 18 = .ok (.goto 4, 3) := by decide +kernel
theorem dX2_codeAt_21 : decode cX2_codeAt 21 = .ok (.iconst 0, 1) := by decide +kernel
theorem dX2_codeAt_22 : decode cX2_codeAt 22 = .ok (.ireturn, 1) := by decide +kernel
set_option maxRecDepth 20000 in
theorem ggX2_digitAt_X2_codeAt : GoodIn wsX2_digitAt wsX2_codeAt := goodIn_r _ [5, 6, 7, 8, 9] (by decide +kernel) (by decide +kernel)
set_option maxRecDepth 20000 in
theorem gX2_digitAt_X2_codeAt : GoodIn wsX2_digitAt (wsV RX2 25 RX2 yX2_codeAt wsX2_codeAt) := goodIn_app (goodIn_of _ (by decide +kernel)) ggX2_digitAt_X2_codeAt
theorem dX2_digitAt_0 : decode cX2_digitAt 0 = .ok (.aload_n 0, 1) := by decide +kernel
theorem dX2_digitAt_1 : decode cX2_digitAt 1 = .ok (.iload_n 1, 1) := by decide +kernel
theorem dX2_digitAt_2 : decode cX2_digitAt 2 = .ok (.invokevirtual 25, 3) := by decide +kernel
theorem dX2_digitAt_5 : decode cX2_digitAt 5 = .ok (.bipush 48, 2) := by decide +kernel
theorem dX2_digitAt_7 : decode cX2_digitAt 7 = .ok (.isub, 1) := by decide +kernel
theorem dX2_digitAt_8 : decode cX2_digitAt 8 = .ok (.ireturn, 1) := by decide +kernel
set_option maxRecDepth 20000 in
theorem ggX2_columnAt_X2_codeAt : GoodIn wsX2_columnAt wsX2_codeAt := goodIn_r _ [5, 6, 7, 8, 9] (by decide +kernel) (by decide +kernel)
set_option maxRecDepth 20000 in
theorem gX2_columnAt_X2_codeAt : GoodIn wsX2_columnAt (wsV RX2 25 RX2 yX2_codeAt wsX2_codeAt) := goodIn_app (goodIn_of _ (by decide +kernel)) ggX2_columnAt_X2_codeAt
theorem dX2_columnAt_0 : decode cX2_columnAt 0 = .ok (.aload_n 0, 1) := by decide +kernel
theorem dX2_columnAt_1 : decode cX2_columnAt 1 = .ok (.iload_n 1, 1) := by decide +kernel
theorem dX2_columnAt_2 : decode cX2_columnAt 2 = .ok (.invokevirtual 25, 3) := by decide +kernel
theorem dX2_columnAt_5 : decode cX2_columnAt 5 = .ok (.bipush 97, 2) := by decide +kernel
theorem dX2_columnAt_7 : decode cX2_columnAt 7 = .ok (.isub, 1) := by decide +kernel
theorem dX2_columnAt_8 : decode cX2_columnAt 8 = .ok (.ireturn, 1) := by decide +kernel
set_option maxRecDepth 20000 in
theorem ggX2_isDigit_X2_codeAt : GoodIn wsX2_isDigit wsX2_codeAt := goodIn_r _ [5, 6, 7, 8, 9] (by decide +kernel) (by decide +kernel)
set_option maxRecDepth 20000 in
theorem gX2_isDigit_X2_codeAt : GoodIn wsX2_isDigit (wsV RX2 25 RX2 yX2_codeAt wsX2_codeAt) := goodIn_app (goodIn_of _ (by decide +kernel)) ggX2_isDigit_X2_codeAt
theorem dX2_isDigit_0 : decode cX2_isDigit 0 = .ok (.aload_n 0, 1) := by decide +kernel
theorem dX2_isDigit_1 : decode cX2_isDigit 1 = .ok (.iload_n 1, 1) := by decide +kernel
theorem dX2_isDigit_2 : decode cX2_isDigit 2 = .ok (.invokevirtual 25, 3) := by decide +kernel
theorem dX2_isDigit_5 : decode cX2_isDigit 5 = .ok (.bipush 48, 2) := by decide +kernel
theorem dX2_isDigit_7 : decode cX2_isDigit 7 = .ok (.if_icmp .lt 17, 3) := by decide +kernel
theorem dX2_isDigit_10 : decode cX2_isDigit 10 = .ok (.aload_n 0, 1) := by decide +kernel
theorem dX2_isDigit_11 : decode cX2_isDigit 11 = .ok (.iload_n 1, 1) := by decide +kernel
theorem dX2_isDigit_12 : decode cX2_isDigit 12 = .ok (.invokevirtual 25, 3) := by decide +kernel
theorem dX2_isDigit_15 : decode cX2_isDigit 15 = .ok (.bipush 57, 2) := by decide +kernel
theorem dX2_isDigit_17 : decode cX2_isDigit 17 = .ok (.if_icmp .gt 7, 3) := by decide +kernel
theorem dX2_isDigit_20 : decode cX2_isDigit 20 = .ok (.iconst 1, 1) := by decide +kernel
theorem dX2_isDigit_21 : decode cX2_isDigit 21 = .ok (.goto 4, 3) := by decide +kernel
theorem dX2_isDigit_24 : decode cX2_isDigit 24 = .ok (.iconst 0, 1) := by decide +kernel
theorem dX2_isDigit_25 : decode cX2_isDigit 25 = .ok (.ireturn, 1) := by decide +kernel
set_option maxRecDepth 20000 in
theorem ggX2_isColumn_X2_codeAt : GoodIn wsX2_isColumn wsX2_codeAt := goodIn_r _ [5, 6, 7, 8, 9] (by decide +kernel) (by decide +kernel)
set_option maxRecDepth 20000 in
theorem gX2_isColumn_X2_codeAt : GoodIn wsX2_isColumn (wsV RX2 25 RX2 yX2_codeAt wsX2_codeAt) := goodIn_app (goodIn_of _ (by decide +kernel)) ggX2_isColumn_X2_codeAt
theorem dX2_isColumn_0 : decode cX2_isColumn 0 = .ok (.aload_n 0, 1) := by decide +kernel
theorem dX2_isColumn_1 : decode cX2_isColumn 1 = .ok (.iload_n 1, 1) := by decide +kernel
theorem dX2_isColumn_2 : decode cX2_isColumn 2 = .ok (.invokevirtual 25, 3) := by decide +kernel
theorem dX2_isColumn_5 : decode cX2_isColumn 5 = .ok (.bipush 97, 2) := by decide +kernel
theorem dX2_isColumn_7 : decode cX2_isColumn 7 = .ok (.if_icmp .lt 17, 3) := by decide +kernel
theorem dX2_isColumn_10 : decode cX2_isColumn 10 = .ok (.aload_n 0, 1) := by decide +kernel
theorem dX2_isColumn_11 : decode cX2_isColumn 11 = .ok (.iload_n 1, 1) := by decide +kernel
theorem dX2_isColumn_12 : decode cX2_isColumn 12 = .ok (.invokevirtual 25, 3) := by decide +kernel
theorem dX2_isColumn_15 : decode cX2_isColumn 15 = .ok (.bipush 104, 2) := by decide +kernel
theorem dX2_isColumn_17 : decode cX2_isColumn 17 = .ok (.if_icmp .gt 7, 3) := by decide +kernel
theorem dX2_isColumn_20 : decode cX2_isColumn 20 = .ok (.iconst 1, 1) := by decide +kernel
theorem dX2_isColumn_21 : decode cX2_isColumn 21 = .ok (.goto 4, 3) := by decide +kernel
theorem dX2_isColumn_24 : decode cX2_isColumn 24 = .ok (.iconst 0, 1) := by decide +kernel
theorem dX2_isColumn_25 : decode cX2_isColumn 25 = .ok (.ireturn, 1) := by decide +kernel
set_option maxRecDepth 20000 in
theorem ggX2_firstFault_X2_endOfOrder : GoodIn wsX2_firstFault wsX2_endOfOrder := goodIn_r _ [6, 7, 8, 9, 5, 10, 1, 11, 12, 13, 14, 15, 16, 17, 18, 19, 20, 21, 22, 23, 24, 25, 26, 27, 28, 29, 30, 31, 32, 33, 34, 35, 36, 37, 38, 39, 40, 41, 42, 43, 44, 45, 46, 47, 48, 49, 50, 51, 52, 53, 54, 55, 56, 57, 58, 59, 60, 61, 62, 63, 64, 65, 66, 67, 68, 69, 70, 71, 72, 73, 74, 75, 76, 77, 78, 79, 80, 81, 82] (by decide +kernel) (by decide +kernel)
set_option maxRecDepth 20000 in
theorem gX2_firstFault_X2_endOfOrder : GoodIn wsX2_firstFault (wsV RX2 29 RX2 yX2_endOfOrder wsX2_endOfOrder) := goodIn_app (goodIn_of _ (by decide +kernel)) ggX2_firstFault_X2_endOfOrder
set_option maxRecDepth 20000 in
theorem ggX2_firstFault_X2_codeAt : GoodIn wsX2_firstFault wsX2_codeAt := goodIn_r _ [10, 1, 11, 81, 82] (by decide +kernel) (by decide +kernel)
set_option maxRecDepth 20000 in
theorem gX2_firstFault_X2_codeAt : GoodIn wsX2_firstFault (wsV RX2 25 RX2 yX2_codeAt wsX2_codeAt) := goodIn_app (goodIn_of _ (by decide +kernel)) ggX2_firstFault_X2_codeAt
theorem dX2_firstFault_0 : decode cX2_firstFault 0 = .ok (.iconst 0, 1) := by decide +kernel
theorem dX2_firstFault_1 : decode cX2_firstFault 1 = .ok (.istore_n 1, 1) := by decide +kernel
theorem dX2_firstFault_2 : decode cX2_firstFault 2 = .ok (.iconst 0, 1) := by decide +kernel
theorem dX2_firstFault_3 : decode cX2_firstFault 3 = .ok (.istore_n 2, 1) := by decide +kernel
theorem dX2_firstFault_4 : decode cX2_firstFault 4 = .ok (.iload_n 2, 1) := by decide +kernel
theorem dX2_firstFault_5 : decode cX2_firstFault 5 = .ok (.bipush 80, 2) := by decide +kernel
theorem dX2_firstFault_7 : decode cX2_firstFault 7 = .ok (.if_icmp .ge 50, 3) := by decide +kernel
theorem dX2_firstFault_10 : decode cX2_firstFault 10 = .ok (.aload_n 0, 1) := by decide +kernel
theorem dX2_firstFault_11 : decode cX2_firstFault 11 = .ok (.iload_n 1, 1) := by decide +kernel
theorem dX2_firstFault_12 : decode cX2_firstFault 12 = .ok (.invokevirtual 29, 3) := by decide +kernel
theorem dX2_firstFault_15 : decode cX2_firstFault 15 = .ok (.istore_n 3, 1) := by decide +kernel
theorem dX2_firstFault_16 : decode cX2_firstFault 16 = .ok (.iload_n 3, 1) := by decide +kernel
theorem dX2_firstFault_17 : decode cX2_firstFault 17 = .ok (.ifCond .ge 7, 3) := by decide +kernel
theorem dX2_firstFault_20 : decode cX2_firstFault 20 = .ok (.iload_n 3, 1) := by decide +kernel
theorem dX2_firstFault_21 : decode cX2_firstFault 21 = .ok (.iconst (-1), 1) := by decide +kernel
theorem dX2_firstFault_22 : decode cX2_firstFault 22 = .ok (.ixor, 1) := by decide +kernel
theorem dX2_firstFault_23 : decode cX2_firstFault 23 = .ok (.ireturn, 1) := by decide +kernel
theorem dX2_firstFault_24 : decode cX2_firstFault 24 = .ok (.iload_n 3, 1) := by decide +kernel
theorem dX2_firstFault_25 : decode cX2_firstFault 25 = .ok (.aload_n 0, 1) := by decide +kernel
theorem dX2_firstFault_26 : decode cX2_firstFault 26 = .ok (.getfield 15, 3) := by decide +kernel
theorem dX2_firstFault_29 : decode cX2_firstFault 29 = .ok (.if_icmp .lt 6, 3) := by decide +kernel
theorem dX2_firstFault_32 : decode cX2_firstFault 32 = .ok (.bipush (-6), 2) := by decide +kernel
theorem dX2_firstFault_34 : decode cX2_firstFault 34 = .ok (.ireturn, 1) := by decide +kernel
theorem dX2_firstFault_35 : decode cX2_firstFault 35 = .ok (.aload_n 0, 1) := by decide +kernel
theorem dX2_firstFault_36 : decode cX2_firstFault 36 = .ok (.iload_n 3, 1) := by decide +kernel
theorem dX2_firstFault_37 : decode cX2_firstFault 37 = .ok (.invokevirtual 25, 3) := by decide +kernel
theorem dX2_firstFault_40 : decode cX2_firstFault 40 = .ok (.bipush 59, 2) := by decide +kernel
theorem dX2_firstFault_42 : decode cX2_firstFault 42 = .ok (.if_icmp .eq 5, 3) := by decide +kernel
theorem dX2_firstFault_45 : decode cX2_firstFault 45 = .ok (.iload_n 3, 1) := by decide +kernel
theorem dX2_firstFault_46 : decode cX2_firstFault 46 = .ok (.ireturn, 1) := by decide +kernel
theorem dX2_firstFault_47 : decode cX2_firstFault 47 = .ok (.iload_n 3, 1) := by decide +kernel
theorem dX2_firstFault_48 : decode cX2_firstFault 48 = .ok (.iconst 1, 1) := by decide +kernel
theorem dX2_firstFault_49 : decode cX2_firstFault 49 = .ok (.iadd, 1) := by decide +kernel
theorem dX2_firstFault_50 : decode cX2_firstFault 50 = .ok (.istore_n 1, 1) := by decide +kernel
theorem dX2_firstFault_51 : decode cX2_firstFault 51 = .ok (.iinc 2 1, 3) := by decide +kernel
theorem dX2_firstFault_54 : decode cX2_firstFault 54 = .ok (.goto (-50), 3) := by decide +kernel
theorem dX2_firstFault_57 : decode cX2_firstFault 57 = .ok (.aload_n 0, 1) := by decide +kernel
theorem dX2_firstFault_58 : decode cX2_firstFault 58 = .ok (.getfield 15, 3) := by decide +kernel
theorem dX2_firstFault_61 : decode cX2_firstFault 61 = .ok (.ireturn, 1) := by decide +kernel
set_option maxRecDepth 20000 in
theorem ggX2_endOfOrder_X2_codeAt : GoodIn wsX2_endOfOrder wsX2_codeAt := goodIn_r _ [5, 6, 7, 77, 78] (by decide +kernel) (by decide +kernel)
set_option maxRecDepth 20000 in
theorem gX2_endOfOrder_X2_codeAt : GoodIn wsX2_endOfOrder (wsV RX2 25 RX2 yX2_codeAt wsX2_codeAt) := goodIn_app (goodIn_of _ (by decide +kernel)) ggX2_endOfOrder_X2_codeAt
set_option maxRecDepth 20000 in
theorem ggX2_endOfOrder_X2_endOf : GoodIn wsX2_endOfOrder wsX2_endOf := goodIn_r _ [11, 12, 13, 14, 15, 16, 17, 18, 19, 20, 21, 22, 23, 24, 25, 26, 27, 28, 29, 30, 31, 32, 33, 34, 35, 36, 37, 38, 39, 40, 41, 42, 43, 44, 45, 46, 47, 48, 49, 50, 51, 52, 53, 54, 55, 56, 57, 58, 59, 60, 61, 62, 63, 4, 64, 1, 2, 3, 5, 6, 7, 65, 66, 67, 68, 77, 78] (by decide +kernel) (by decide +kernel)
set_option maxRecDepth 20000 in
theorem gX2_endOfOrder_X2_endOf : GoodIn wsX2_endOfOrder (wsV RX2 34 RX2 yX2_endOf wsX2_endOf) := goodIn_app (goodIn_of _ (by decide +kernel)) ggX2_endOfOrder_X2_endOf
set_option maxRecDepth 20000 in
theorem ggX2_endOfOrder_X2_endOfPlaces : GoodIn wsX2_endOfOrder wsX2_endOfPlaces := goodIn_r _ [72, 65, 66, 67, 4, 68, 1, 2, 3, 5, 6, 7, 8, 9, 10, 11, 12, 13, 14, 15, 16, 17, 18, 19, 20, 21, 22, 23, 24, 25, 26, 27, 28, 29, 30, 31, 32, 33, 34, 35, 36, 37, 38, 39, 40, 41, 42, 43, 44, 45, 46, 47, 48, 49, 50, 51, 52, 53, 54, 55, 56, 57, 58, 59, 60, 61, 62, 63, 64, 77, 78] (by decide +kernel) (by decide +kernel)
set_option maxRecDepth 20000 in
theorem gX2_endOfOrder_X2_endOfPlaces : GoodIn wsX2_endOfOrder (wsV RX2 38 RX2 yX2_endOfPlaces wsX2_endOfPlaces) := goodIn_app (goodIn_of _ (by decide +kernel)) ggX2_endOfOrder_X2_endOfPlaces
set_option maxRecDepth 20000 in
theorem ggX2_endOfOrder_X2_endOfNumber : GoodIn wsX2_endOfOrder wsX2_endOfNumber := goodIn_r _ [76, 61, 62, 63, 4, 64, 1, 2, 3, 5, 6, 7, 77, 78] (by decide +kernel) (by decide +kernel)
set_option maxRecDepth 20000 in
theorem gX2_endOfOrder_X2_endOfNumber : GoodIn wsX2_endOfOrder (wsV RX2 47 RX2 yX2_endOfNumber wsX2_endOfNumber) := goodIn_app (goodIn_of _ (by decide +kernel)) ggX2_endOfOrder_X2_endOfNumber
theorem dX2_endOfOrder_0 : decode cX2_endOfOrder 0 = .ok (.aload_n 0, 1) := by decide +kernel
theorem dX2_endOfOrder_1 : decode cX2_endOfOrder 1 = .ok (.iload_n 1, 1) := by decide +kernel
theorem dX2_endOfOrder_2 : decode cX2_endOfOrder 2 = .ok (.invokevirtual 25, 3) := by decide +kernel
theorem dX2_endOfOrder_5 : decode cX2_endOfOrder 5 = .ok (.tableswitch 149 102 119 #[101, 149, 149, 149, 149, 149, 149, 121, 149, 149, 139, 149, 149, 111, 87, 149, 149, 131], 87) := by decide +kernel
theorem dX2_endOfOrder_92 : decode cX2_endOfOrder 92 = .ok (.aload_n 0, 1) := by decide +kernel
theorem dX2_endOfOrder_93 : decode cX2_endOfOrder 93 = .ok (.aload_n 0, 1) := by decide +kernel
theorem dX2_endOfOrder_94 : decode cX2_endOfOrder 94 = .ok (.ldc 32, 2) := by decide +kernel
theorem dX2_endOfOrder_96 : decode cX2_endOfOrder 96 = .ok (.iload_n 1, 1) := by decide +kernel
theorem dX2_endOfOrder_97 : decode cX2_endOfOrder 97 = .ok (.iconst 1, 1) := by decide +kernel
theorem dX2_endOfOrder_98 : decode cX2_endOfOrder 98 = .ok (.iadd, 1) := by decide +kernel
theorem dX2_endOfOrder_99 : decode cX2_endOfOrder 99 = .ok (.invokevirtual 34, 3) := by decide +kernel
theorem dX2_endOfOrder_102 : decode cX2_endOfOrder 102 = .ok (.invokevirtual 38, 3) := by decide +kernel
theorem dX2_endOfOrder_105 : decode cX2_endOfOrder 105 = .ok (.ireturn, 1) := by decide +kernel
theorem dX2_endOfOrder_106 : decode cX2_endOfOrder 106 = .ok (.aload_n 0, 1) := by decide +kernel
theorem dX2_endOfOrder_107 : decode cX2_endOfOrder 107 = .ok (.ldc 41, 2) := by decide +kernel
theorem dX2_endOfOrder_109 : decode cX2_endOfOrder 109 = .ok (.iload_n 1, 1) := by decide +kernel
theorem dX2_endOfOrder_110 : decode cX2_endOfOrder 110 = .ok (.iconst 1, 1) := by decide +kernel
theorem dX2_endOfOrder_111 : decode cX2_endOfOrder 111 = .ok (.iadd, 1) := by decide +kernel
theorem dX2_endOfOrder_112 : decode cX2_endOfOrder 112 = .ok (.invokevirtual 34, 3) := by decide +kernel
theorem dX2_endOfOrder_115 : decode cX2_endOfOrder 115 = .ok (.ireturn, 1) := by decide +kernel
theorem dX2_endOfOrder_116 : decode cX2_endOfOrder 116 = .ok (.aload_n 0, 1) := by decide +kernel
theorem dX2_endOfOrder_117 : decode cX2_endOfOrder 117 = .ok (.ldc 43, 2) := by decide +kernel
theorem dX2_endOfOrder_119 : decode cX2_endOfOrder 119 = .ok (.iload_n 1, 1) := by decide +kernel
theorem dX2_endOfOrder_120 : decode cX2_endOfOrder 120 = .ok (.iconst 1, 1) := by decide +kernel
theorem dX2_endOfOrder_121 : decode cX2_endOfOrder 121 = .ok (.iadd, 1) := by decide +kernel
theorem dX2_endOfOrder_122 : decode cX2_endOfOrder 122 = .ok (.invokevirtual 34, 3) := by decide +kernel
theorem dX2_endOfOrder_125 : decode cX2_endOfOrder 125 = .ok (.ireturn, 1) := by decide +kernel
theorem dX2_endOfOrder_126 : decode cX2_endOfOrder 126 = .ok (.aload_n 0, 1) := by decide +kernel
theorem dX2_endOfOrder_127 : decode cX2_endOfOrder 127 = .ok (.ldc 45, 2) := by decide +kernel
theorem dX2_endOfOrder_129 : decode cX2_endOfOrder 129 = .ok (.iload_n 1, 1) := by decide +kernel
theorem dX2_endOfOrder_130 : decode cX2_endOfOrder 130 = .ok (.iconst 1, 1) := by decide +kernel
theorem dX2_endOfOrder_131 : decode cX2_endOfOrder 131 = .ok (.iadd, 1) := by decide +kernel
theorem dX2_endOfOrder_132 : decode cX2_endOfOrder 132 = .ok (.invokevirtual 34, 3) := by decide +kernel
theorem dX2_endOfOrder_135 : decode cX2_endOfOrder 135 = .ok (.ireturn, 1) := by decide +kernel
theorem dX2_endOfOrder_136 : decode cX2_endOfOrder 136 = .ok (.aload_n 0, 1) := by decide +kernel
theorem dX2_endOfOrder_137 : decode cX2_endOfOrder 137 = .ok (.iload_n 1, 1) := by decide +kernel
theorem dX2_endOfOrder_138 : decode cX2_endOfOrder 138 = .ok (.iconst 1, 1) := by decide +kernel
theorem dX2_endOfOrder_139 : decode cX2_endOfOrder 139 = .ok (.iadd, 1) := by decide +kernel
theorem dX2_endOfOrder_140 : decode cX2_endOfOrder 140 = .ok (.invokevirtual 47, 3) := by decide +kernel
theorem dX2_endOfOrder_143 : decode cX2_endOfOrder 143 = .ok (.ireturn, 1) := by decide +kernel
theorem dX2_endOfOrder_144 : decode cX2_endOfOrder 144 = .ok (.aload_n 0, 1) := by decide +kernel
theorem dX2_endOfOrder_145 : decode cX2_endOfOrder 145 = .ok (.ldc 50, 2) := by decide +kernel
theorem dX2_endOfOrder_147 : decode cX2_endOfOrder 147 = .ok (.iload_n 1, 1) := by decide +kernel
theorem dX2_endOfOrder_148 : decode cX2_endOfOrder 148 = .ok (.iconst 1, 1) := by decide +kernel
theorem dX2_endOfOrder_149 : decode cX2_endOfOrder 149 = .ok (.iadd, 1) := by decide +kernel
theorem dX2_endOfOrder_150 : decode cX2_endOfOrder 150 = .ok (.invokevirtual 34, 3) := by decide +kernel
theorem dX2_endOfOrder_153 : decode cX2_endOfOrder 153 = .ok (.ireturn, 1) := by decide +kernel
theorem dX2_endOfOrder_154 : decode cX2_endOfOrder 154 = .ok (.iload_n 1, 1) := by decide +kernel
theorem dX2_endOfOrder_155 : decode cX2_endOfOrder 155 = .ok (.iconst (-1), 1) := by decide +kernel
theorem dX2_endOfOrder_156 : decode cX2_endOfOrder 156 = .ok (.ixor, 1) := by decide +kernel
theorem dX2_endOfOrder_157 : decode cX2_endOfOrder 157 = .ok (.ireturn, 1) := by decide +kernel
set_option maxRecDepth 20000 in
theorem ggX2_endOf_J0_length_8abf5 : GoodIn wsX2_endOf wsJ0_length_8abf5 := goodIn_r _ [5, 6, 7, 8, 9, 4, 10, 11, 12] (by decide +kernel) (by decide +kernel)
set_option maxRecDepth 20000 in
theorem gX2_endOf_J0_length_8abf5 : GoodIn wsX2_endOf (wsV RX2 52 RJ0 yJ0_length_8abf5 wsJ0_length_8abf5) := goodIn_app (goodIn_of _ (by decide +kernel)) ggX2_endOf_J0_length_8abf5
set_option maxRecDepth 20000 in
theorem ggX2_endOf_J0_charAt_5068e : GoodIn wsX2_endOf wsJ0_charAt_5068e := goodIn_r _ [16, 6, 17, 18, 19, 4, 20, 11, 12, 21, 22, 23, 24, 25, 26, 27, 28, 29, 30, 31, 32, 33, 34, 35, 36, 37, 38, 39, 40, 41, 42, 43, 44, 45, 46, 47, 48, 49] (by decide +kernel) (by decide +kernel)
set_option maxRecDepth 20000 in
theorem gX2_endOf_J0_charAt_5068e : GoodIn wsX2_endOf (wsV RX2 57 RJ0 yJ0_charAt_5068e wsJ0_charAt_5068e) := goodIn_app (goodIn_of _ (by decide +kernel)) ggX2_endOf_J0_charAt_5068e
set_option maxRecDepth 20000 in
theorem ggX2_endOf_X2_isDigit : GoodIn wsX2_endOf wsX2_isDigit := goodIn_r _ [54, 55, 56, 57, 53, 58, 59, 60, 65, 66] (by decide +kernel) (by decide +kernel)
set_option maxRecDepth 20000 in
theorem gX2_endOf_X2_isDigit : GoodIn wsX2_endOf (wsV RX2 61 RX2 yX2_isDigit wsX2_isDigit) := goodIn_app (goodIn_of _ (by decide +kernel)) ggX2_endOf_X2_isDigit
set_option maxRecDepth 20000 in
theorem ggX2_endOf_X2_isColumn : GoodIn wsX2_endOf wsX2_isColumn := goodIn_r _ [64, 55, 56, 57, 53, 58, 59, 60, 65, 66] (by decide +kernel) (by decide +kernel)
set_option maxRecDepth 20000 in
theorem gX2_endOf_X2_isColumn : GoodIn wsX2_endOf (wsV RX2 65 RX2 yX2_isColumn wsX2_isColumn) := goodIn_app (goodIn_of _ (by decide +kernel)) ggX2_endOf_X2_isColumn
set_option maxRecDepth 20000 in
theorem ggX2_endOf_X2_codeAt : GoodIn wsX2_endOf wsX2_codeAt := goodIn_r _ [58, 59, 60, 65, 66] (by decide +kernel) (by decide +kernel)
set_option maxRecDepth 20000 in
theorem gX2_endOf_X2_codeAt : GoodIn wsX2_endOf (wsV RX2 25 RX2 yX2_codeAt wsX2_codeAt) := goodIn_app (goodIn_of _ (by decide +kernel)) ggX2_endOf_X2_codeAt
theorem dX2_endOf_0 : decode cX2_endOf 0 = .ok (.iconst 0, 1) := by decide +kernel
theorem dX2_endOf_1 : decode cX2_endOf 1 = .ok (.istore_n 3, 1) := by decide +kernel
theorem dX2_endOf_2 : decode cX2_endOf 2 = .ok (.iload_n 3, 1) := by decide +kernel
theorem dX2_endOf_3 : decode cX2_endOf 3 = .ok (.aload_n 1, 1) := by decide +kernel
theorem dX2_endOf_4 : decode cX2_endOf 4 = .ok (.invokevirtual 52, 3) := by decide +kernel
theorem dX2_endOf_7 : decode cX2_endOf 7 = .ok (.if_icmp .ge 80, 3) := by decide +kernel
theorem dX2_endOf_10 : decode cX2_endOf 10 = .ok (.aload_n 1, 1) := by decide +kernel
theorem dX2_endOf_11 : decode cX2_endOf 11 = .ok (.iload_n 3, 1) := by decide +kernel
theorem dX2_endOf_12 : decode cX2_endOf 12 = .ok (.invokevirtual 57, 3) := by decide +kernel
theorem dX2_endOf_15 : decode cX2_endOf 15 = .ok (.istore 4, 2) := by decide +kernel
theorem dX2_endOf_17 : decode cX2_endOf 17 = .ok (.iload 4, 2) := by decide +kernel
theorem dX2_endOf_19 : decode cX2_endOf 19 = .ok (.bipush 100, 2) := by decide +kernel
theorem dX2_endOf_21 : decode cX2_endOf 21 = .ok (.if_icmp .ne 13, 3) := by decide +kernel
theorem dX2_endOf_24 : decode cX2_endOf 24 = .ok (.aload_n 0, 1) := by decide +kernel
theorem dX2_endOf_25 : decode cX2_endOf 25 = .ok (.iload_n 2, 1) := by decide +kernel
theorem dX2_endOf_26 : decode cX2_endOf 26 = .ok (.iload_n 3, 1) := by decide +kernel
theorem dX2_endOf_27 : decode cX2_endOf 27 = .ok (.iadd, 1) := by decide +kernel
theorem dX2_endOf_28 : decode cX2_endOf 28 = .ok (.invokevirtual 61, 3) := by decide +kernel
theorem dX2_endOf_31 : decode cX2_endOf 31 = .ok (.goto 37, 3) := by decide +kernel
theorem dX2_endOf_34 : decode cX2_endOf 34 = .ok (.iload 4, 2) := by decide +kernel
theorem dX2_endOf_36 : decode cX2_endOf 36 = .ok (.bipush 99, 2) := by decide +kernel
theorem dX2_endOf_38 : decode cX2_endOf 38 = .ok (.if_icmp .ne 13, 3) := by decide +kernel
theorem dX2_endOf_41 : decode cX2_endOf 41 = .ok (.aload_n 0, 1) := by decide +kernel
theorem dX2_endOf_42 : decode cX2_endOf 42 = .ok (.iload_n 2, 1) := by decide +kernel
theorem dX2_endOf_43 : decode cX2_endOf 43 = .ok (.iload_n 3, 1) := by decide +kernel
theorem dX2_endOf_44 : decode cX2_endOf 44 = .ok (.iadd, 1) := by decide +kernel
theorem dX2_endOf_45 : decode cX2_endOf 45 = .ok (.invokevirtual 65, 3) := by decide +kernel
theorem dX2_endOf_48 : decode cX2_endOf 48 = .ok (.goto 20, 3) := by decide +kernel
theorem dX2_endOf_51 : decode cX2_endOf 51 = .ok (.aload_n 0, 1) := by decide +kernel
theorem dX2_endOf_52 : decode cX2_endOf 52 = .ok (.iload_n 2, 1) := by decide +kernel
theorem dX2_endOf_53 : decode cX2_endOf 53 = .ok (.iload_n 3, 1) := by decide +kernel
theorem dX2_endOf_54 : decode cX2_endOf 54 = .ok (.iadd, 1) := by decide +kernel
theorem dX2_endOf_55 : decode cX2_endOf 55 = .ok (.invokevirtual 25, 3) := by decide +kernel
theorem dX2_endOf_58 : decode cX2_endOf 58 = .ok (.iload 4, 2) := by decide +kernel
theorem dX2_endOf_60 : decode cX2_endOf 60 = .ok (.if_icmp .ne 7, 3) := by decide +kernel
theorem dX2_endOf_63 : decode cX2_endOf 63 = .ok (.iconst 1, 1) := by decide +kernel
theorem dX2_endOf_64 : decode cX2_endOf 64 = .ok (.goto 4, 3) := by decide +kernel
theorem dX2_endOf_67 : decode cX2_endOf 67 = .ok (.iconst 0, 1) := by decide +kernel
theorem dX2_endOf_68 : decode cX2_endOf 68 = .ok (.istore 5, 2) := by decide +kernel
theorem dX2_endOf_70 : decode cX2_endOf 70 = .ok (.iload 5, 2) := by decide +kernel
theorem dX2_endOf_72 : decode cX2_endOf 72 = .ok (.ifCond .ne 9, 3) := by decide +kernel
theorem dX2_endOf_75 : decode cX2_endOf 75 = .ok (.iload_n 2, 1) := by decide +kernel
theorem dX2_endOf_76 : decode cX2_endOf 76 = .ok (.iload_n 3, 1) := by decide +kernel
theorem dX2_endOf_77 : decode cX2_endOf 77 = .ok (.iadd, 1) := by decide +kernel
theorem dX2_endOf_78 : decode cX2_endOf 78 = .ok (.iconst (-1), 1) := by decide +kernel
theorem dX2_endOf_79 : decode cX2_endOf 79 = .ok (.ixor, 1) := by decide +kernel
theorem dX2_endOf_80 : decode cX2_endOf 80 = .ok (.ireturn, 1) := by decide +kernel
theorem dX2_endOf_81 : decode cX2_endOf 81 = .ok (.iinc 3 1, 3) := by decide +kernel
theorem dX2_endOf_84 : decode cX2_endOf 84 = .ok (.goto (-82), 3) := by decide +kernel
theorem dX2_endOf_87 : decode cX2_endOf 87 = .ok (.iload_n 2, 1) := by decide +kernel
theorem dX2_endOf_88 : decode cX2_endOf 88 = .ok (.aload_n 1, 1) := by decide +kernel
theorem dX2_endOf_89 : decode cX2_endOf 89 = .ok (.invokevirtual 52, 3) := by decide +kernel
theorem dX2_endOf_92 : decode cX2_endOf 92 = .ok (.iadd, 1) := by decide +kernel
theorem dX2_endOf_93 : decode cX2_endOf 93 = .ok (.ireturn, 1) := by decide +kernel
set_option maxRecDepth 20000 in
theorem ggX2_endOfPlaces_X2_isColumn : GoodIn wsX2_endOfPlaces wsX2_isColumn := goodIn_r _ [5, 6, 7, 8, 4, 9, 10, 11, 69, 70] (by decide +kernel) (by decide +kernel)
set_option maxRecDepth 20000 in
theorem gX2_endOfPlaces_X2_isColumn : GoodIn wsX2_endOfPlaces (wsV RX2 65 RX2 yX2_isColumn wsX2_isColumn) := goodIn_app (goodIn_of _ (by decide +kernel)) ggX2_endOfPlaces_X2_isColumn
set_option maxRecDepth 20000 in
theorem ggX2_endOfPlaces_X2_endOf : GoodIn wsX2_endOfPlaces wsX2_endOf := goodIn_r _ [15, 16, 17, 18, 19, 20, 21, 22, 23, 24, 25, 26, 27, 28, 29, 30, 31, 32, 33, 34, 35, 36, 37, 38, 39, 40, 41, 42, 43, 44, 45, 46, 47, 48, 49, 50, 51, 52, 53, 54, 55, 56, 57, 58, 59, 60, 61, 62, 63, 64, 65, 66, 67, 4, 68, 6, 7, 8, 9, 10, 11, 1, 2, 3, 5, 69, 70] (by decide +kernel) (by decide +kernel)
set_option maxRecDepth 20000 in
theorem gX2_endOfPlaces_X2_endOf : GoodIn wsX2_endOfPlaces (wsV RX2 34 RX2 yX2_endOf wsX2_endOf) := goodIn_app (goodIn_of _ (by decide +kernel)) ggX2_endOfPlaces_X2_endOf
theorem dX2_endOfPlaces_0 : decode cX2_endOfPlaces 0 = .ok (.iload_n 1, 1) := by decide +kernel
theorem dX2_endOfPlaces_1 : decode cX2_endOfPlaces 1 = .ok (.istore_n 2, 1) := by decide +kernel
theorem dX2_endOfPlaces_2 : decode cX2_endOfPlaces 2 = .ok (.iconst 0, 1) := by decide +kernel
theorem dX2_endOfPlaces_3 : decode cX2_endOfPlaces 3 = .ok (.istore_n 3, 1) := by decide +kernel
theorem dX2_endOfPlaces_4 : decode cX2_endOfPlaces 4 = .ok (.iload_n 3, 1) := by decide +kernel
theorem dX2_endOfPlaces_5 : decode cX2_endOfPlaces 5 = .ok (.bipush 80, 2) := by decide +kernel
theorem dX2_endOfPlaces_7 : decode cX2_endOfPlaces 7 = .ok (.if_icmp .ge 29, 3) := by decide +kernel
theorem dX2_endOfPlaces_10 : decode cX2_endOfPlaces 10 = .ok (.iload_n 2, 1) := by decide +kernel
theorem dX2_endOfPlaces_11 : decode cX2_endOfPlaces 11 = .ok (.ifCond .lt 25, 3) := by decide +kernel
theorem dX2_endOfPlaces_14 : decode cX2_endOfPlaces 14 = .ok (.aload_n 0, 1) := by decide +kernel
theorem dX2_endOfPlaces_15 : decode cX2_endOfPlaces 15 = .ok (.iload_n 2, 1) := by decide +kernel
theorem dX2_endOfPlaces_16 : decode cX2_endOfPlaces 16 = .ok (.invokevirtual 65, 3) := by decide +kernel
theorem dX2_endOfPlaces_19 : decode cX2_endOfPlaces 19 = .ok (.ifCond .eq 17, 3) := by decide +kernel
theorem dX2_endOfPlaces_22 : decode cX2_endOfPlaces 22 = .ok (.aload_n 0, 1) := by decide +kernel
theorem dX2_endOfPlaces_23 : decode cX2_endOfPlaces 23 = .ok (.ldc 50, 2) := by decide +kernel
theorem dX2_endOfPlaces_25 : decode cX2_endOfPlaces 25 = .ok (.iload_n 2, 1) := by decide +kernel
theorem dX2_endOfPlaces_26 : decode cX2_endOfPlaces 26 = .ok (.invokevirtual 34, 3) := by decide +kernel
theorem dX2_endOfPlaces_29 : decode cX2_endOfPlaces 29 = .ok (.istore_n 2, 1) := by decide +kernel
theorem dX2_endOfPlaces_30 : decode cX2_endOfPlaces 30 = .ok (.iinc 3 1, 3) := by decide +kernel
theorem dX2_endOfPlaces_33 : decode cX2_endOfPlaces 33 = .ok (.goto (-29), 3) := by decide +kernel
