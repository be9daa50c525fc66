theorem dX0_turnPair_14 : decode cX0_turnPair 14 = .ok (.iconst (-1), 1) := by decide +kernel
theorem dX0_turnPair_15 : decode cX0_turnPair 15 = .ok (.ireturn, 1) := by decide +kernel
theorem dX0_turnPair_16 : decode cX0_turnPair 16 = .ok (.iload_n 1, 1) := by decide +kernel
theorem dX0_turnPair_17 : decode cX0_turnPair 17 = .ok (.iload_n 2, 1) := by decide +kernel
theorem dX0_turnPair_18 : decode cX0_turnPair 18 = .ok (.if_icmp .ne 6, 3) := by decide +kernel
theorem dX0_turnPair_21 : decode cX0_turnPair 21 = .ok (.bipush (-2), 2) := by decide +kernel
theorem dX0_turnPair_23 : decode cX0_turnPair 23 = .ok (.ireturn, 1) := by decide +kernel
theorem dX0_turnPair_24 : decode cX0_turnPair 24 = .ok (.aload_n 0, 1) := by decide +kernel
theorem dX0_turnPair_25 : decode cX0_turnPair 25 = .ok (.getfield 18, 3) := by decide +kernel
theorem dX0_turnPair_28 : decode cX0_turnPair 28 = .ok (.iload_n 1, 1) := by decide +kernel
theorem dX0_turnPair_29 : decode cX0_turnPair 29 = .ok (.aload_n 0, 1) := by decide +kernel
theorem dX0_turnPair_30 : decode cX0_turnPair 30 = .ok (.getfield 18, 3) := by decide +kernel
theorem dX0_turnPair_33 : decode cX0_turnPair 33 = .ok (.iload_n 1, 1) := by decide +kernel
theorem dX0_turnPair_34 : decode cX0_turnPair 34 = .ok (.iaload, 1) := by decide +kernel
theorem dX0_turnPair_35 : decode cX0_turnPair 35 = .ok (.iconst 1, 1) := by decide +kernel
theorem dX0_turnPair_36 : decode cX0_turnPair 36 = .ok (.iload_n 2, 1) := by decide +kernel
theorem dX0_turnPair_37 : decode cX0_turnPair 37 = .ok (.ishl, 1) := by decide +kernel
theorem dX0_turnPair_38 : decode cX0_turnPair 38 = .ok (.ixor, 1) := by decide +kernel
theorem dX0_turnPair_39 : decode cX0_turnPair 39 = .ok (.iastore, 1) := by decide +kernel
theorem dX0_turnPair_40 : decode cX0_turnPair 40 = .ok (.aload_n 0, 1) := by decide +kernel
theorem dX0_turnPair_41 : decode cX0_turnPair 41 = .ok (.getfield 18, 3) := by decide +kernel
theorem dX0_turnPair_44 : decode cX0_turnPair 44 = .ok (.iload_n 2, 1) := by decide +kernel
theorem dX0_turnPair_45 : decode cX0_turnPair 45 = .ok (.aload_n 0, 1) := by decide +kernel
theorem dX0_turnPair_46 : decode cX0_turnPair 46 = .ok (.getfield 18, 3) := by decide +kernel
theorem dX0_turnPair_49 : decode cX0_turnPair 49 = .ok (.iload_n 2, 1) := by decide +kernel
theorem dX0_turnPair_50 : decode cX0_turnPair 50 = .ok (.iaload, 1) := by decide +kernel
theorem dX0_turnPair_51 : decode cX0_turnPair 51 = .ok (.iconst 1, 1) := by decide +kernel
theorem dX0_turnPair_52 : decode cX0_turnPair 52 = .ok (.iload_n 1, 1) := by decide +kernel
theorem dX0_turnPair_53 : decode cX0_turnPair 53 = .ok (.ishl, 1) := by decide +kernel
theorem dX0_turnPair_54 : decode cX0_turnPair 54 = .ok (.ixor, 1) := by decide +kernel
theorem dX0_turnPair_55 : decode cX0_turnPair 55 = .ok (.iastore, 1) := by decide +kernel
theorem dX0_turnPair_56 : decode cX0_turnPair 56 = .ok (.aload_n 0, 1) := by decide +kernel
theorem dX0_turnPair_57 : decode cX0_turnPair 57 = .ok (.invokevirtual 68, 3) := by decide +kernel
theorem dX0_turnPair_60 : decode cX0_turnPair 60 = .ok (.aload_n 0, 1) := by decide +kernel
theorem dX0_turnPair_61 : decode cX0_turnPair 61 = .ok (.iload_n 1, 1) := by decide +kernel
theorem dX0_turnPair_62 : decode cX0_turnPair 62 = .ok (.iload_n 2, 1) := by decide +kernel
theorem dX0_turnPair_63 : decode cX0_turnPair 63 = .ok (.invokevirtual 96, 3) := by decide +kernel
theorem dX0_turnPair_66 : decode cX0_turnPair 66 = .ok (.ifCond .eq 7, 3) := by decide +kernel
theorem dX0_turnPair_69 : decode cX0_turnPair 69 = .ok (.iconst 1, 1) := by decide +kernel
theorem dX0_turnPair_70 : decode cX0_turnPair 70 = .ok (.goto 4, 3) := by decide +kernel
theorem dX0_turnPair_73 : decode cX0_turnPair 73 = .ok (.iconst 0, 1) := by decide +kernel
theorem dX0_turnPair_74 : decode cX0_turnPair 74 = .ok (.ireturn, 1) := by decide +kernel
theorem dX0_isFed_0 : decode cX0_isFed 0 = .ok (.aload_n 0, 1) := by decide +kernel
theorem dX0_isFed_1 : decode cX0_isFed 1 = .ok (.getfield 18, 3) := by decide +kernel
theorem dX0_isFed_4 : decode cX0_isFed 4 = .ok (.iload_n 1, 1) := by decide +kernel
theorem dX0_isFed_5 : decode cX0_isFed 5 = .ok (.iaload, 1) := by decide +kernel
theorem dX0_isFed_6 : decode cX0_isFed 6 = .ok (.iload_n 2, 1) := by decide +kernel
theorem dX0_isFed_7 : decode cX0_isFed 7 = .ok (.iushr, 1) := by decide +kernel
theorem dX0_isFed_8 : decode cX0_isFed 8 = .ok (.iconst 1, 1) := by decide +kernel
theorem dX0_isFed_9 : decode cX0_isFed 9 = .ok (.iand, 1) := by decide +kernel
theorem dX0_isFed_10 : decode cX0_isFed 10 = .ok (.ifCond .eq 7, 3) := by decide +kernel
theorem dX0_isFed_13 : decode cX0_isFed 13 = .ok (.iconst 1, 1) := by decide +kernel
theorem dX0_isFed_14 : decode cX0_isFed 14 = .ok (.goto 4, 3) := by decide +kernel
theorem dX0_isFed_17 : decode cX0_isFed 17 = .ok (.iconst 0, 1) := by decide +kernel
theorem dX0_isFed_18 : decode cX0_isFed 18 = .ok (.ireturn, 1) := by decide +kernel
set_option maxRecDepth 20000 in
theorem ggX0_letPass_X0_heated : GoodIn wsX0_letPass wsX0_heated := goodIn_r _ [6, 7, 8, 9, 10, 11, 5, 12, 13, 14, 15, 16, 17, 18, 19, 38, 39, 40, 41, 42, 43, 44, 45, 46, 47, 48, 49, 50] (by decide +kernel) (by decide +kernel)
set_option maxRecDepth 20000 in
theorem gX0_letPass_X0_heated : GoodIn wsX0_letPass (wsV RX0 99 RX0 yX0_heated wsX0_heated) := goodIn_app (goodIn_of _ (by decide +kernel)) ggX0_letPass_X0_heated
set_option maxRecDepth 20000 in
theorem ggX0_letPass_X0_passOne : GoodIn wsX0_letPass wsX0_passOne := goodIn_r _ [23, 24, 25, 26, 27, 28, 29, 30, 31, 32, 33, 34, 35, 36, 37, 38, 39, 40, 41, 42, 43, 44, 45, 46, 47, 48, 49, 50] (by decide +kernel) (by decide +kernel)
set_option maxRecDepth 20000 in
theorem gX0_letPass_X0_passOne : GoodIn wsX0_letPass (wsV RX0 103 RX0 yX0_passOne wsX0_passOne) := goodIn_app (goodIn_of _ (by decide +kernel)) ggX0_letPass_X0_passOne
theorem dX0_letPass_0 : decode cX0_letPass 0 = .ok (.iload_n 1, 1) := by decide +kernel
theorem dX0_letPass_1 : decode cX0_letPass 1 = .ok (.iconst 1, 1) := by decide +kernel
theorem dX0_letPass_2 : decode cX0_letPass 2 = .ok (.if_icmp .lt 9, 3) := by decide +kernel
theorem dX0_letPass_5 : decode cX0_letPass 5 = .ok (.iload_n 1, 1) := by decide +kernel
theorem dX0_letPass_6 : decode cX0_letPass 6 = .ok (.bipush 50, 2) := by decide +kernel
theorem dX0_letPass_8 : decode cX0_letPass 8 = .ok (.if_icmp .le 6, 3) := by decide +kernel
theorem dX0_letPass_11 : decode cX0_letPass 11 = .ok (.bipush (-2), 2) := by decide +kernel
theorem dX0_letPass_13 : decode cX0_letPass 13 = .ok (.ireturn, 1) := by decide +kernel
theorem dX0_letPass_14 : decode cX0_letPass 14 = .ok (.aload_n 0, 1) := by decide +kernel
theorem dX0_letPass_15 : decode cX0_letPass 15 = .ok (.getfield 31, 3) := by decide +kernel
theorem dX0_letPass_18 : decode cX0_letPass 18 = .ok (.iload_n 1, 1) := by decide +kernel
theorem dX0_letPass_19 : decode cX0_letPass 19 = .ok (.iadd, 1) := by decide +kernel
theorem dX0_letPass_20 : decode cX0_letPass 20 = .ok (.bipush 100, 2) := by decide +kernel
theorem dX0_letPass_22 : decode cX0_letPass 22 = .ok (.if_icmp .le 6, 3) := by decide +kernel
theorem dX0_letPass_25 : decode cX0_letPass 25 = .ok (.bipush (-5), 2) := by decide +kernel
theorem dX0_letPass_27 : decode cX0_letPass 27 = .ok (.ireturn, 1) := by decide +kernel
theorem dX0_letPass_28 : decode cX0_letPass 28 = .ok (.aload_n 0, 1) := by decide +kernel
theorem dX0_letPass_29 : decode cX0_letPass 29 = .ok (.invokevirtual 99, 3) := by decide +kernel
theorem dX0_letPass_32 : decode cX0_letPass 32 = .ok (.lstore_n 2, 1) := by decide +kernel
theorem dX0_letPass_33 : decode cX0_letPass 33 = .ok (.iconst 0, 1) := by decide +kernel
theorem dX0_letPass_34 : decode cX0_letPass 34 = .ok (.istore 4, 2) := by decide +kernel
theorem dX0_letPass_36 : decode cX0_letPass 36 = .ok (.iload 4, 2) := by decide +kernel
theorem dX0_letPass_38 : decode cX0_letPass 38 = .ok (.iload_n 1, 1) := by decide +kernel
theorem dX0_letPass_39 : decode cX0_letPass 39 = .ok (.if_icmp .ge 14, 3) := by decide +kernel
theorem dX0_letPass_42 : decode cX0_letPass 42 = .ok (.aload_n 0, 1) := by decide +kernel
theorem dX0_letPass_43 : decode cX0_letPass 43 = .ok (.lload_n 2, 1) := by decide +kernel
theorem dX0_letPass_44 : decode cX0_letPass 44 = .ok (.invokevirtual 103, 3) := by decide +kernel
theorem dX0_letPass_47 : decode cX0_letPass 47 = .ok (.iinc 4 1, 3) := by decide +kernel
theorem dX0_letPass_50 : decode cX0_letPass 50 = .ok (.goto (-14), 3) := by decide +kernel
theorem dX0_letPass_53 : decode cX0_letPass 53 = .ok (.aload_n 0, 1) := by decide +kernel
theorem dX0_letPass_54 : decode cX0_letPass 54 = .ok (.aload_n 0, 1) := by decide +kernel
theorem dX0_letPass_55 : decode cX0_letPass 55 = .ok (.getfield 31, 3) := by decide +kernel
theorem dX0_letPass_58 : decode cX0_letPass 58 = .ok (.iload_n 1, 1) := by decide +kernel
theorem dX0_letPass_59 : decode cX0_letPass 59 = .ok (.iadd, 1) := by decide +kernel
theorem dX0_letPass_60 : decode cX0_letPass 60 = .ok (.putfield 31, 3) := by decide +kernel
theorem dX0_letPass_63 : decode cX0_letPass 63 = .ok (.aload_n 0, 1) := by decide +kernel
theorem dX0_letPass_64 : decode cX0_letPass 64 = .ok (.getfield 31, 3) := by decide +kernel
theorem dX0_letPass_67 : decode cX0_letPass 67 = .ok (.ireturn, 1) := by decide +kernel
set_option maxRecDepth 20000 in
theorem ggX0_passOne_X5_step : GoodIn wsX0_passOne wsX5_step := goodIn_r _ [10, 11, 12, 13, 9, 14] (by decide +kernel) (by decide +kernel)
set_option maxRecDepth 20000 in
theorem gX0_passOne_X5_step_n107 : GoodIn wsX0_passOne (wsX5_step) := ggX0_passOne_X5_step
theorem dX0_passOne_0 : decode cX0_passOne 0 = .ok (.aload_n 0, 1) := by decide +kernel
theorem dX0_passOne_1 : decode cX0_passOne 1 = .ok (.getfield 34, 3) := by decide +kernel
theorem dX0_passOne_4 : decode cX0_passOne 4 = .ok (.iconst 0, 1) := by decide +kernel
theorem dX0_passOne_5 : decode cX0_passOne 5 = .ok (.aload_n 0, 1) := by decide +kernel
theorem dX0_passOne_6 : decode cX0_passOne 6 = .ok (.getfield 38, 3) := by decide +kernel
theorem dX0_passOne_9 : decode cX0_passOne 9 = .ok (.iconst 0, 1) := by decide +kernel
theorem dX0_passOne_10 : decode cX0_passOne 10 = .ok (.lload_n 1, 1) := by decide +kernel
theorem dX0_passOne_11 : decode cX0_passOne 11 = .ok (.aload_n 0, 1) := by decide +kernel
theorem dX0_passOne_12 : decode cX0_passOne 12 = .ok (.getfield 9, 3) := by decide +kernel
theorem dX0_passOne_15 : decode cX0_passOne 15 = .ok (.invokestatic 107, 3) := by decide +kernel
theorem dX0_passOne_18 : decode cX0_passOne 18 = .ok (.aload_n 0, 1) := by decide +kernel
theorem dX0_passOne_19 : decode cX0_passOne 19 = .ok (.getfield 38, 3) := by decide +kernel
theorem dX0_passOne_22 : decode cX0_passOne 22 = .ok (.iconst 0, 1) := by decide +kernel
theorem dX0_passOne_23 : decode cX0_passOne 23 = .ok (.aload_n 0, 1) := by decide +kernel
theorem dX0_passOne_24 : decode cX0_passOne 24 = .ok (.getfield 34, 3) := by decide +kernel
theorem dX0_passOne_27 : decode cX0_passOne 27 = .ok (.iconst 0, 1) := by decide +kernel
theorem dX0_passOne_28 : decode cX0_passOne 28 = .ok (.bipush 64, 2) := by decide +kernel
theorem dX0_passOne_30 : decode cX0_passOne 30 = .ok (.invokestatic 56, 3) := by decide +kernel
theorem dX0_passOne_33 : decode cX0_passOne 33 = .ok (.return_, 1) := by decide +kernel
set_option maxRecDepth 20000 in
theorem ggX0_measure_X5_placeOf : GoodIn wsX0_measure wsX5_placeOf := goodIn_r _ [9] (by decide +kernel) (by decide +kernel)
set_option maxRecDepth 20000 in
theorem gX0_measure_X5_placeOf_n71 : GoodIn wsX0_measure (wsX5_placeOf) := ggX0_measure_X5_placeOf
set_option maxRecDepth 20000 in
theorem ggX0_measure_X5_readOf : GoodIn wsX0_measure wsX5_readOf := goodIn_r _ [11, 12] (by decide +kernel) (by decide +kernel)
set_option maxRecDepth 20000 in
theorem gX0_measure_X5_readOf_n111 : GoodIn wsX0_measure (wsX5_readOf) := ggX0_measure_X5_readOf
theorem dX0_measure_0 : decode cX0_measure 0 = .ok (.iload_n 1, 1) := by decide +kernel
theorem dX0_measure_1 : decode cX0_measure 1 = .ok (.iload_n 2, 1) := by decide +kernel
theorem dX0_measure_2 : decode cX0_measure 2 = .ok (.invokestatic 71, 3) := by decide +kernel
theorem dX0_measure_5 : decode cX0_measure 5 = .ok (.istore_n 3, 1) := by decide +kernel
theorem dX0_measure_6 : decode cX0_measure 6 = .ok (.iload_n 3, 1) := by decide +kernel
theorem dX0_measure_7 : decode cX0_measure 7 = .ok (.ifCond .ge 5, 3) := by decide +kernel
theorem dX0_measure_10 : decode cX0_measure 10 = .ok (.iconst (-1), 1) := by decide +kernel
theorem dX0_measure_11 : decode cX0_measure 11 = .ok (.ireturn, 1) := by decide +kernel
theorem dX0_measure_12 : decode cX0_measure 12 = .ok (.aload_n 0, 1) := by decide +kernel
theorem dX0_measure_13 : decode cX0_measure 13 = .ok (.getfield 41, 3) := by decide +kernel
theorem dX0_measure_16 : decode cX0_measure 16 = .ok (.bipush 8, 2) := by decide +kernel
theorem dX0_measure_18 : decode cX0_measure 18 = .ok (.if_icmp .lt 6, 3) := by decide +kernel
theorem dX0_measure_21 : decode cX0_measure 21 = .ok (.bipush (-4), 2) := by decide +kernel
theorem dX0_measure_23 : decode cX0_measure 23 = .ok (.ireturn, 1) := by decide +kernel
theorem dX0_measure_24 : decode cX0_measure 24 = .ok (.aload_n 0, 1) := by decide +kernel
theorem dX0_measure_25 : decode cX0_measure 25 = .ok (.getfield 34, 3) := by decide +kernel
theorem dX0_measure_28 : decode cX0_measure 28 = .ok (.iload_n 3, 1) := by decide +kernel
theorem dX0_measure_29 : decode cX0_measure 29 = .ok (.faload, 1) := by decide +kernel
theorem dX0_measure_30 : decode cX0_measure 30 = .ok (.invokestatic 111, 3) := by decide +kernel
theorem dX0_measure_33 : decode cX0_measure 33 = .ok (.istore 4, 2) := by decide +kernel
theorem dX0_measure_35 : decode cX0_measure 35 = .ok (.aload_n 0, 1) := by decide +kernel
theorem dX0_measure_36 : decode cX0_measure 36 = .ok (.getfield 44, 3) := by decide +kernel
theorem dX0_measure_39 : decode cX0_measure 39 = .ok (.aload_n 0, 1) := by decide +kernel
theorem dX0_measure_40 : decode cX0_measure 40 = .ok (.getfield 41, 3) := by decide +kernel
theorem dX0_measure_43 : decode cX0_measure 43 = .ok (.iload_n 3, 1) := by decide +kernel
theorem dX0_measure_44 : decode cX0_measure 44 = .ok (.iastore, 1) := by decide +kernel
theorem dX0_measure_45 : decode cX0_measure 45 = .ok (.aload_n 0, 1) := by decide +kernel
theorem dX0_measure_46 : decode cX0_measure 46 = .ok (.getfield 47, 3) := by decide +kernel
theorem dX0_measure_49 : decode cX0_measure 49 = .ok (.aload_n 0, 1) := by decide +kernel
theorem dX0_measure_50 : decode cX0_measure 50 = .ok (.getfield 41, 3) := by decide +kernel
theorem dX0_measure_53 : decode cX0_measure 53 = .ok (.iload 4, 2) := by decide +kernel
theorem dX0_measure_55 : decode cX0_measure 55 = .ok (.iastore, 1) := by decide +kernel
theorem dX0_measure_56 : decode cX0_measure 56 = .ok (.aload_n 0, 1) := by decide +kernel
theorem dX0_measure_57 : decode cX0_measure 57 = .ok (.getfield 50, 3) := by decide +kernel
theorem dX0_measure_60 : decode cX0_measure 60 = .ok (.aload_n 0, 1) := by decide +kernel
theorem dX0_measure_61 : decode cX0_measure 61 = .ok (.getfield 41, 3) := by decide +kernel
theorem dX0_measure_64 : decode cX0_measure 64 = .ok (.aload_n 0, 1) := by decide +kernel
theorem dX0_measure_65 : decode cX0_measure 65 = .ok (.getfield 31, 3) := by decide +kernel
theorem dX0_measure_68 : decode cX0_measure 68 = .ok (.iastore, 1) := by decide +kernel
theorem dX0_measure_69 : decode cX0_measure 69 = .ok (.aload_n 0, 1) := by decide +kernel
theorem dX0_measure_70 : decode cX0_measure 70 = .ok (.dup, 1) := by decide +kernel
theorem dX0_measure_71 : decode cX0_measure 71 = .ok (.getfield 41, 3) := by decide +kernel
theorem dX0_measure_74 : decode cX0_measure 74 = .ok (.iconst 1, 1) := by decide +kernel
theorem dX0_measure_75 : decode cX0_measure 75 = .ok (.iadd, 1) := by decide +kernel
theorem dX0_measure_76 : decode cX0_measure 76 = .ok (.putfield 41, 3) := by decide +kernel
theorem dX0_measure_79 : decode cX0_measure 79 = .ok (.iload 4, 2) := by decide +kernel
theorem dX0_measure_81 : decode cX0_measure 81 = .ok (.ireturn, 1) := by decide +kernel
theorem dX0_touchAt_0 : decode cX0_touchAt 0 = .ok (.iconst 0, 1) := by decide +kernel
theorem dX0_touchAt_1 : decode cX0_touchAt 1 = .ok (.istore_n 2, 1) := by decide +kernel
theorem dX0_touchAt_2 : decode cX0_touchAt 2 = .ok (.iload_n 2, 1) := by decide +kernel
theorem dX0_touchAt_3 : decode cX0_touchAt 3 = .ok (.aload_n 0, 1) := by decide +kernel
theorem dX0_touchAt_4 : decode cX0_touchAt 4 = .ok (.getfield 21, 3) := by decide +kernel
theorem dX0_touchAt_7 : decode cX0_touchAt 7 = .ok (.if_icmp .ge 21, 3) := by decide +kernel
theorem dX0_touchAt_10 : decode cX0_touchAt 10 = .ok (.aload_n 0, 1) := by decide +kernel
theorem dX0_touchAt_11 : decode cX0_touchAt 11 = .ok (.getfield 25, 3) := by decide +kernel
theorem dX0_touchAt_14 : decode cX0_touchAt 14 = .ok (.iload_n 2, 1) := by decide +kernel
theorem dX0_touchAt_15 : decode cX0_touchAt 15 = .ok (.iaload, 1) := by decide +kernel
theorem dX0_touchAt_16 : decode cX0_touchAt 16 = .ok (.iload_n 1, 1) := by decide +kernel
theorem dX0_touchAt_17 : decode cX0_touchAt 17 = .ok (.if_icmp .ne 5, 3) := by decide +kernel
theorem dX0_touchAt_20 : decode cX0_touchAt 20 = .ok (.iload_n 2, 1) := by decide +kernel
theorem dX0_touchAt_21 : decode cX0_touchAt 21 = .ok (.ireturn, 1) := by decide +kernel
theorem dX0_touchAt_22 : decode cX0_touchAt 22 = .ok (.iinc 2 1, 3) := by decide +kernel
theorem dX0_touchAt_25 : decode cX0_touchAt 25 = .ok (.goto (-23), 3) := by decide +kernel
theorem dX0_touchAt_28 : decode cX0_touchAt 28 = .ok (.bipush (-6), 2) := by decide +kernel
theorem dX0_touchAt_30 : decode cX0_touchAt 30 = .ok (.ireturn, 1) := by decide +kernel
set_option maxRecDepth 20000 in
theorem ggX0_isLive_X0_isFed : GoodIn wsX0_isLive wsX0_isFed := goodIn_r _ [8, 9, 10, 11, 12, 13, 14, 15, 16, 17, 18, 19, 20, 21, 22] (by decide +kernel) (by decide +kernel)
set_option maxRecDepth 20000 in
theorem gX0_isLive_X0_isFed : GoodIn wsX0_isLive (wsV RX0 96 RX0 yX0_isFed wsX0_isFed) := goodIn_app (goodIn_of _ (by decide +kernel)) ggX0_isLive_X0_isFed
theorem dX0_isLive_0 : decode cX0_isLive 0 = .ok (.aload_n 0, 1) := by decide +kernel
theorem dX0_isLive_1 : decode cX0_isLive 1 = .ok (.aload_n 0, 1) := by decide +kernel
theorem dX0_isLive_2 : decode cX0_isLive 2 = .ok (.getfield 15, 3) := by decide +kernel
theorem dX0_isLive_5 : decode cX0_isLive 5 = .ok (.aload_n 0, 1) := by decide +kernel
theorem dX0_isLive_6 : decode cX0_isLive 6 = .ok (.getfield 25, 3) := by decide +kernel
theorem dX0_isLive_9 : decode cX0_isLive 9 = .ok (.iload_n 1, 1) := by decide +kernel
theorem dX0_isLive_10 : decode cX0_isLive 10 = .ok (.iaload, 1) := by decide +kernel
theorem dX0_isLive_11 : decode cX0_isLive 11 = .ok (.iaload, 1) := by decide +kernel
theorem dX0_isLive_12 : decode cX0_isLive 12 = .ok (.aload_n 0, 1) := by decide +kernel
theorem dX0_isLive_13 : decode cX0_isLive 13 = .ok (.getfield 28, 3) := by decide +kernel
theorem dX0_isLive_16 : decode cX0_isLive 16 = .ok (.iload_n 1, 1) := by decide +kernel
theorem dX0_isLive_17 : decode cX0_isLive 17 = .ok (.iaload, 1) := by decide +kernel
theorem dX0_isLive_18 : decode cX0_isLive 18 = .ok (.invokevirtual 96, 3) := by decide +kernel
theorem dX0_isLive_21 : decode cX0_isLive 21 = .ok (.ireturn, 1) := by decide +kernel
set_option maxRecDepth 20000 in
theorem ggX0_heated_X0_isLive : GoodIn wsX0_heated wsX0_isLive := goodIn_r _ [7, 8, 2, 9, 10, 11, 12, 6, 13, 14, 15, 16, 17, 18, 19, 20, 21, 22, 23, 24, 25, 26, 27] (by decide +kernel) (by decide +kernel)
set_option maxRecDepth 20000 in
theorem gX0_heated_X0_isLive : GoodIn wsX0_heated (wsV RX0 115 RX0 yX0_isLive wsX0_isLive) := goodIn_app (goodIn_of _ (by decide +kernel)) ggX0_heated_X0_isLive
theorem dX0_heated_0 : decode cX0_heated 0 = .ok (.lconst 0, 1) := by decide +kernel
theorem dX0_heated_1 : decode cX0_heated 1 = .ok (.lstore_n 1, 1) := by decide +kernel
theorem dX0_heated_2 : decode cX0_heated 2 = .ok (.iconst 0, 1) := by decide +kernel
theorem dX0_heated_3 : decode cX0_heated 3 = .ok (.istore_n 3, 1) := by decide +kernel
theorem dX0_heated_4 : decode cX0_heated 4 = .ok (.iload_n 3, 1) := by decide +kernel
theorem dX0_heated_5 : decode cX0_heated 5 = .ok (.aload_n 0, 1) := by decide +kernel
theorem dX0_heated_6 : decode cX0_heated 6 = .ok (.getfield 21, 3) := by decide +kernel
theorem dX0_heated_9 : decode cX0_heated 9 = .ok (.if_icmp .ge 28, 3) := by decide +kernel
theorem dX0_heated_12 : decode cX0_heated 12 = .ok (.aload_n 0, 1) := by decide +kernel
theorem dX0_heated_13 : decode cX0_heated 13 = .ok (.iload_n 3, 1) := by decide +kernel
theorem dX0_heated_14 : decode cX0_heated 14 = .ok (.invokevirtual 115, 3) := by decide +kernel
theorem dX0_heated_17 : decode cX0_heated 17 = .ok (.ifCond .eq 14, 3) := by decide +kernel
theorem dX0_heated_20 : decode cX0_heated 20 = .ok (.lload_n 1, 1) := by decide +kernel
theorem dX0_heated_21 : decode cX0_heated 21 = .ok (.lconst 1, 1) := by decide +kernel
theorem dX0_heated_22 : decode cX0_heated 22 = .ok (.aload_n 0, 1) := by decide +kernel
theorem dX0_heated_23 : decode cX0_heated 23 = .ok (.getfield 25, 3) := by decide +kernel
theorem dX0_heated_26 : decode cX0_heated 26 = .ok (.iload_n 3, 1) := by decide +kernel
theorem dX0_heated_27 : decode cX0_heated 27 = .ok (.iaload, 1) := by decide +kernel
theorem dX0_heated_28 : decode cX0_heated 28 = .ok (.lshl, 1) := by decide +kernel
theorem dX0_heated_29 : decode cX0_heated 29 = .ok (.lor, 1) := by decide +kernel
theorem dX0_heated_30 : decode cX0_heated 30 = .ok (.lstore_n 1, 1) := by decide +kernel
theorem dX0_heated_31 : decode cX0_heated 31 = .ok (.iinc 3 1, 3) := by decide +kernel
theorem dX0_heated_34 : decode cX0_heated 34 = .ok (.goto (-30), 3) := by decide +kernel
theorem dX0_heated_37 : decode cX0_heated 37 = .ok (.lload_n 1, 1) := by decide +kernel
theorem dX0_heated_38 : decode cX0_heated 38 = .ok (.lreturn, 1) := by decide +kernel
theorem dX0_tracked_0 : decode cX0_tracked 0 = .ok (.lconst 0, 1) := by decide +kernel
theorem dX0_tracked_1 : decode cX0_tracked 1 = .ok (.lstore_n 1, 1) := by decide +kernel
theorem dX0_tracked_2 : decode cX0_tracked 2 = .ok (.iconst 0, 1) := by decide +kernel
theorem dX0_tracked_3 : decode cX0_tracked 3 = .ok (.istore_n 3, 1) := by decide +kernel
theorem dX0_tracked_4 : decode cX0_tracked 4 = .ok (.iload_n 3, 1) := by decide +kernel
theorem dX0_tracked_5 : decode cX0_tracked 5 = .ok (.bipush 64, 2) := by decide +kernel
theorem dX0_tracked_7 : decode cX0_tracked 7 = .ok (.if_icmp .ge 24, 3) := by decide +kernel
theorem dX0_tracked_10 : decode cX0_tracked 10 = .ok (.aload_n 0, 1) := by decide +kernel
theorem dX0_tracked_11 : decode cX0_tracked 11 = .ok (.getfield 15, 3) := by decide +kernel
theorem dX0_tracked_14 : decode cX0_tracked 14 = .ok (.iload_n 3, 1) := by decide +kernel
theorem dX0_tracked_15 : decode cX0_tracked 15 = .ok (.iaload, 1) := by decide +kernel
theorem dX0_tracked_16 : decode cX0_tracked 16 = .ok (.ifCond .eq 9, 3) := by decide +kernel
theorem dX0_tracked_19 : decode cX0_tracked 19 = .ok (.lload_n 1, 1) := by decide +kernel
theorem dX0_tracked_20 : decode cX0_tracked 20 = .ok (.lconst 1, 1) := by decide +kernel
theorem dX0_tracked_21 : decode cX0_tracked 21 = .ok (.iload_n 3, 1) := by decide +kernel
theorem dX0_tracked_22 : decode cX0_tracked 22 = .ok (.lshl, 1) := by decide +kernel
theorem dX0_tracked_23 : decode cX0_tracked 23 = .ok (.lor, 1) := by decide +kernel
theorem dX0_tracked_24 : decode cX0_tracked 24 = .ok (.lstore_n 1, 1) := by decide +kernel
theorem dX0_tracked_25 : decode cX0_tracked 25 = .ok (.iinc 3 1, 3) := by decide +kernel
theorem dX0_tracked_28 : decode cX0_tracked 28 = .ok (.goto (-24), 3) := by decide +kernel
theorem dX0_tracked_31 : decode cX0_tracked 31 = .ok (.lload_n 1, 1) := by decide +kernel
theorem dX0_tracked_32 : decode cX0_tracked 32 = .ok (.lreturn, 1) := by decide +kernel
set_option maxRecDepth 20000 in
theorem ggX0_suspects_X0_isSuspect : GoodIn wsX0_suspects wsX0_isSuspect := goodIn_r _ [5, 6, 7, 8, 9, 10, 11, 12, 4, 13, 14, 15, 16, 17, 18, 19, 20, 21, 22, 23, 24, 25, 26, 27] (by decide +kernel) (by decide +kernel)
set_option maxRecDepth 20000 in
theorem gX0_suspects_X0_isSuspect : GoodIn wsX0_suspects (wsV RX0 118 RX0 yX0_isSuspect wsX0_isSuspect) := goodIn_app (goodIn_of _ (by decide +kernel)) ggX0_suspects_X0_isSuspect
theorem dX0_suspects_0 : decode cX0_suspects 0 = .ok (.lconst 0, 1) := by decide +kernel
theorem dX0_suspects_1 : decode cX0_suspects 1 = .ok (.lstore_n 1, 1) := by decide +kernel
theorem dX0_suspects_2 : decode cX0_suspects 2 = .ok (.iconst 0, 1) := by decide +kernel
theorem dX0_suspects_3 : decode cX0_suspects 3 = .ok (.istore_n 3, 1) := by decide +kernel
theorem dX0_suspects_4 : decode cX0_suspects 4 = .ok (.iload_n 3, 1) := by decide +kernel
theorem dX0_suspects_5 : decode cX0_suspects 5 = .ok (.bipush 64, 2) := by decide +kernel
theorem dX0_suspects_7 : decode cX0_suspects 7 = .ok (.if_icmp .ge 23, 3) := by decide +kernel
theorem dX0_suspects_10 : decode cX0_suspects 10 = .ok (.aload_n 0, 1) := by decide +kernel
theorem dX0_suspects_11 : decode cX0_suspects 11 = .ok (.iload_n 3, 1) := by decide +kernel
theorem dX0_suspects_12 : decode cX0_suspects 12 = .ok (.invokevirtual 118, 3) := by decide +kernel
theorem dX0_suspects_15 : decode cX0_suspects 15 = .ok (.ifCond .eq 9, 3) := by decide +kernel
theorem dX0_suspects_18 : decode cX0_suspects 18 = .ok (.lload_n 1, 1) := by decide +kernel
theorem dX0_suspects_19 : decode cX0_suspects 19 = .ok (.lconst 1, 1) := by decide +kernel
theorem dX0_suspects_20 : decode cX0_suspects 20 = .ok (.iload_n 3, 1) := by decide +kernel
theorem dX0_suspects_21 : decode cX0_suspects 21 = .ok (.lshl, 1) := by decide +kernel
theorem dX0_suspects_22 : decode cX0_suspects 22 = .ok (.lor, 1) := by decide +kernel
theorem dX0_suspects_23 : decode cX0_suspects 23 = .ok (.lstore_n 1, 1) := by decide +kernel
theorem dX0_suspects_24 : decode cX0_suspects 24 = .ok (.iinc 3 1, 3) := by decide +kernel
theorem dX0_suspects_27 : decode cX0_suspects 27 = .ok (.goto (-23), 3) := by decide +kernel
theorem dX0_suspects_30 : decode cX0_suspects 30 = .ok (.lload_n 1, 1) := by decide +kernel
theorem dX0_suspects_31 : decode cX0_suspects 31 = .ok (.lreturn, 1) := by decide +kernel
set_option maxRecDepth 20000 in
theorem ggX0_isSuspect_X5_neighbourOf : GoodIn wsX0_isSuspect wsX5_neighbourOf := goodIn_r _ [4] (by decide +kernel) (by decide +kernel)
set_option maxRecDepth 20000 in
theorem gX0_isSuspect_X5_neighbourOf_n93 : GoodIn wsX0_isSuspect (wsX5_neighbourOf) := ggX0_isSuspect_X5_neighbourOf
set_option maxRecDepth 20000 in
theorem ggX0_isSuspect_X0_isFed : GoodIn wsX0_isSuspect wsX0_isFed := goodIn_r _ [9, 10, 11, 12, 13, 14, 15, 16, 17, 18, 19, 20, 21, 22, 23] (by decide +kernel) (by decide +kernel)
set_option maxRecDepth 20000 in
theorem gX0_isSuspect_X0_isFed : GoodIn wsX0_isSuspect (wsV RX0 96 RX0 yX0_isFed wsX0_isFed) := goodIn_app (goodIn_of _ (by decide +kernel)) ggX0_isSuspect_X0_isFed
theorem dX0_isSuspect_0 : decode cX0_isSuspect 0 = .ok (.iconst 0, 1) := by decide +kernel
theorem dX0_isSuspect_1 : decode cX0_isSuspect 1 = .ok (.istore_n 2, 1) := by decide +kernel
theorem dX0_isSuspect_2 : decode cX0_isSuspect 2 = .ok (.iload_n 2, 1) := by decide +kernel
theorem dX0_isSuspect_3 : decode cX0_isSuspect 3 = .ok (.iconst 4, 1) := by decide +kernel
theorem dX0_isSuspect_4 : decode cX0_isSuspect 4 = .ok (.if_icmp .ge 40, 3) := by decide +kernel
theorem dX0_isSuspect_7 : decode cX0_isSuspect 7 = .ok (.iload_n 1, 1) := by decide +kernel
theorem dX0_isSuspect_8 : decode cX0_isSuspect 8 = .ok (.iload_n 2, 1) := by decide +kernel
theorem dX0_isSuspect_9 : decode cX0_isSuspect 9 = .ok (.invokestatic 93, 3) := by decide +kernel
theorem dX0_isSuspect_12 : decode cX0_isSuspect 12 = .ok (.istore_n 3, 1) := by decide +kernel
theorem dX0_isSuspect_13 : decode cX0_isSuspect 13 = .ok (.iload_n 3, 1) := by decide +kernel
theorem dX0_isSuspect_14 : decode cX0_isSuspect 14 = .ok (.ifCond .lt 24, 3) := by decide +kernel
theorem dX0_isSuspect_17 : decode cX0_isSuspect 17 = .ok (.aload_n 0, 1) := by decide +kernel
theorem dX0_isSuspect_18 : decode cX0_isSuspect 18 = .ok (.aload_n 0, 1) := by decide +kernel
theorem dX0_isSuspect_19 : decode cX0_isSuspect 19 = .ok (.getfield 15, 3) := by decide +kernel
theorem dX0_isSuspect_22 : decode cX0_isSuspect 22 = .ok (.iload_n 1, 1) := by decide +kernel
theorem dX0_isSuspect_23 : decode cX0_isSuspect 23 = .ok (.iaload, 1) := by decide +kernel
theorem dX0_isSuspect_24 : decode cX0_isSuspect 24 = .ok (.aload_n 0, 1) := by decide +kernel
theorem dX0_isSuspect_25 : decode cX0_isSuspect 25 = .ok (.getfield 15, 3) := by decide +kernel
theorem dX0_isSuspect_28 : decode cX0_isSuspect 28 = .ok (.iload_n 3, 1) := by decide +kernel
theorem dX0_isSuspect_29 : decode cX0_isSuspect 29 = .ok (.iaload, 1) := by decide +kernel
theorem dX0_isSuspect_30 : decode cX0_isSuspect 30 = .ok (.invokevirtual 96, 3) := by decide +kernel
theorem dX0_isSuspect_33 : decode cX0_isSuspect 33 = .ok (.ifCond .eq 5, 3) := by decide +kernel
theorem dX0_isSuspect_36 : decode cX0_isSuspect 36 = .ok (.iconst 1, 1) := by decide +kernel
theorem dX0_isSuspect_37 : decode cX0_isSuspect 37 = .ok (.ireturn, 1) := by decide +kernel
theorem dX0_isSuspect_38 : decode cX0_isSuspect 38 = .ok (.iinc 2 1, 3) := by decide +kernel
theorem dX0_isSuspect_41 : decode cX0_isSuspect 41 = .ok (.goto (-39), 3) := by decide +kernel
theorem dX0_isSuspect_44 : decode cX0_isSuspect 44 = .ok (.iconst 0, 1) := by decide +kernel
theorem dX0_isSuspect_45 : decode cX0_isSuspect 45 = .ok (.ireturn, 1) := by decide +kernel
theorem dX0_placesOf_0 : decode cX0_placesOf 0 = .ok (.iconst 0, 1) := by decide +kernel
theorem dX0_placesOf_1 : decode cX0_placesOf 1 = .ok (.istore_n 2, 1) := by decide +kernel
theorem dX0_placesOf_2 : decode cX0_placesOf 2 = .ok (.iconst 0, 1) := by decide +kernel
theorem dX0_placesOf_3 : decode cX0_placesOf 3 = .ok (.istore_n 3, 1) := by decide +kernel
theorem dX0_placesOf_4 : decode cX0_placesOf 4 = .ok (.iload_n 3, 1) := by decide +kernel
theorem dX0_placesOf_5 : decode cX0_placesOf 5 = .ok (.bipush 64, 2) := by decide +kernel
theorem dX0_placesOf_7 : decode cX0_placesOf 7 = .ok (.if_icmp .ge 22, 3) := by decide +kernel
theorem dX0_placesOf_10 : decode cX0_placesOf 10 = .ok (.aload_n 0, 1) := by decide +kernel
theorem dX0_placesOf_11 : decode cX0_placesOf 11 = .ok (.getfield 15, 3) := by decide +kernel
theorem dX0_placesOf_14 : decode cX0_placesOf 14 = .ok (.iload_n 3, 1) := by decide +kernel
theorem dX0_placesOf_15 : decode cX0_placesOf 15 = .ok (.iaload, 1) := by decide +kernel
theorem dX0_placesOf_16 : decode cX0_placesOf 16 = .ok (.iload_n 1, 1) := by decide +kernel
theorem dX0_placesOf_17 : decode cX0_placesOf 17 = .ok (.if_icmp .ne 6, 3) := by decide +kernel
theorem dX0_placesOf_20 : decode cX0_placesOf 20 = .ok (.iinc 2 1, 3) := by decide +kernel
theorem dX0_placesOf_23 : decode cX0_placesOf 23 = .ok (.iinc 3 1, 3) := by decide +kernel
theorem dX0_placesOf_26 : decode cX0_placesOf 26 = .ok (.goto (-22), 3) := by decide +kernel
theorem dX0_placesOf_29 : decode cX0_placesOf 29 = .ok (.iload_n 2, 1) := by decide +kernel
theorem dX0_placesOf_30 : decode cX0_placesOf 30 = .ok (.ireturn, 1) := by decide +kernel
theorem dX0_warmthOf_0 : decode cX0_warmthOf 0 = .ok (.fconst 0, 1) := by decide +kernel
theorem dX0_warmthOf_1 : decode cX0_warmthOf 1 = .ok (.fstore_n 2, 1) := by decide +kernel
theorem dX0_warmthOf_2 : decode cX0_warmthOf 2 = .ok (.iconst 0, 1) := by decide +kernel
theorem dX0_warmthOf_3 : decode cX0_warmthOf 3 = .ok (.istore_n 3, 1) := by decide +kernel
theorem dX0_warmthOf_4 : decode cX0_warmthOf 4 = .ok (.iload_n 3, 1) := by decide +kernel
theorem dX0_warmthOf_5 : decode cX0_warmthOf 5 = .ok (.bipush 64, 2) := by decide +kernel
theorem dX0_warmthOf_7 : decode cX0_warmthOf 7 = .ok (.if_icmp .ge 28, 3) := by decide +kernel
theorem dX0_warmthOf_10 : decode cX0_warmthOf 10 = .ok (.aload_n 0, 1) := by decide +kernel
theorem dX0_warmthOf_11 : decode cX0_warmthOf 11 = .ok (.getfield 15, 3) := by decide +kernel
theorem dX0_warmthOf_14 : decode cX0_warmthOf 14 = .ok (.iload_n 3, 1) := by decide +kernel
theorem dX0_warmthOf_15 : decode cX0_warmthOf 15 = .ok (.iaload, 1) := by decide +kernel
theorem dX0_warmthOf_16 : decode cX0_warmthOf 16 = .ok (.iload_n 1, 1) := by decide +kernel
theorem dX0_warmthOf_17 : decode cX0_warmthOf 17 = .ok (.if_icmp .ne 12, 3) := by decide +kernel
theorem dX0_warmthOf_20 : decode cX0_warmthOf 20 = .ok (.fload_n 2, 1) := by decide +kernel
theorem dX0_warmthOf_21 : decode cX0_warmthOf 21 = .ok (.aload_n 0, 1) := by decide +kernel
theorem dX0_warmthOf_22 : decode cX0_warmthOf 22 = .ok (.getfield 34, 3) := by decide +kernel
theorem dX0_warmthOf_25 : decode cX0_warmthOf 25 = .ok (.iload_n 3, 1) := by decide +kernel
theorem dX0_warmthOf_26 : decode cX0_warmthOf 26 = .ok (.faload, 1) := by decide +kernel
theorem dX0_warmthOf_27 : decode cX0_warmthOf 27 = .ok (.fadd, 1) := by decide +kernel
theorem dX0_warmthOf_28 : decode cX0_warmthOf 28 = .ok (.fstore_n 2, 1) := by decide +kernel
theorem dX0_warmthOf_29 : decode cX0_warmthOf 29 = .ok (.iinc 3 1, 3) := by decide +kernel
theorem dX0_warmthOf_32 : decode cX0_warmthOf 32 = .ok (.goto (-28), 3) := by decide +kernel
theorem dX0_warmthOf_35 : decode cX0_warmthOf 35 = .ok (.fload_n 2, 1) := by decide +kernel
theorem dX0_warmthOf_36 : decode cX0_warmthOf 36 = .ok (.freturn, 1) := by decide +kernel
theorem dX0_warmest_0 : decode cX0_warmest 0 = .ok (.iconst 0, 1) := by decide +kernel
theorem dX0_warmest_1 : decode cX0_warmest 1 = .ok (.istore_n 1, 1) := by decide +kernel
theorem dX0_warmest_2 : decode cX0_warmest 2 = .ok (.iconst 1, 1) := by decide +kernel
theorem dX0_warmest_3 : decode cX0_warmest 3 = .ok (.istore_n 2, 1) := by decide +kernel
theorem dX0_warmest_4 : decode cX0_warmest 4 = .ok (.iload_n 2, 1) := by decide +kernel
theorem dX0_warmest_5 : decode cX0_warmest 5 = .ok (.bipush 64, 2) := by decide +kernel
theorem dX0_warmest_7 : decode cX0_warmest 7 = .ok (.if_icmp .ge 27, 3) := by decide +kernel
theorem dX0_warmest_10 : decode cX0_warmest 10 = .ok (.aload_n 0, 1) := by decide +kernel
theorem dX0_warmest_11 : decode cX0_warmest 11 = .ok (.getfield 34, 3) := by decide +kernel
theorem dX0_warmest_14 : decode cX0_warmest 14 = .ok (.iload_n 2, 1) := by decide +kernel
theorem dX0_warmest_15 : decode cX0_warmest 15 = .ok (.faload, 1) := by decide +kernel
theorem dX0_warmest_16 : decode cX0_warmest 16 = .ok (.aload_n 0, 1) := by decide +kernel
theorem dX0_warmest_17 : decode cX0_warmest 17 = .ok (.getfield 34, 3) := by decide +kernel
theorem dX0_warmest_20 : decode cX0_warmest 20 = .ok (.iload_n 1, 1) := by decide +kernel
theorem dX0_warmest_21 : decode cX0_warmest 21 = .ok (.faload, 1) := by decide +kernel
theorem dX0_warmest_22 : decode cX0_warmest 22 = .ok (.fcmp .l, 1) := by decide +kernel
theorem dX0_warmest_23 : decode cX0_warmest 23 = .ok (.ifCond .le 5, 3) := by decide +kernel
theorem dX0_warmest_26 : decode cX0_warmest 26 = .ok (.iload_n 2, 1) := by decide +kernel
theorem dX0_warmest_27 : decode cX0_warmest 27 = .ok (.istore_n 1, 1) := by decide +kernel
theorem dX0_warmest_28 : decode cX0_warmest 28 = .ok (.iinc 2 1, 3) := by decide +kernel
theorem dX0_warmest_31 : decode cX0_warmest 31 = .ok (.goto (-27), 3) := by decide +kernel
theorem dX0_warmest_34 : decode cX0_warmest 34 = .ok (.iload_n 1, 1) := by decide +kernel
theorem dX0_warmest_35 : decode cX0_warmest 35 = .ok (.ireturn, 1) := by decide +kernel
theorem dX1_init_0 : decode cX1_init 0 = .ok (.aload_n 0, 1) := by decide +kernel
theorem dX1_init_1 : decode cX1_init 1 = .ok (.invokespecial 3, 3) := by decide +kernel
theorem dX1_init_4 : decode cX1_init 4 = .ok (.aload_n 0, 1) := by decide +kernel
theorem dX1_init_5 : decode cX1_init 5 = .ok (.iconst 4, 1) := by decide +kernel
theorem dX1_init_6 : decode cX1_init 6 = .ok (.newarray .int, 2) := by decide +kernel
theorem dX1_init_8 : decode cX1_init 8 = .ok (.putfield 9, 3) := by decide +kernel
theorem dX1_init_11 : decode cX1_init 11 = .ok (.aload_n 0, 1) := by decide +kernel
theorem dX1_init_12 : decode cX1_init 12 = .ok (.bipush 64, 2) := by decide +kernel
theorem dX1_init_14 : decode cX1_init 14 = .ok (.anewarray 15, 3) := by decide +kernel
theorem dX1_init_17 : decode cX1_init 17 = .ok (.putfield 17, 3) := by decide +kernel
theorem dX1_init_20 : decode cX1_init 20 = .ok (.aload_n 0, 1) := by decide +kernel
theorem dX1_init_21 : decode cX1_init 21 = .ok (.bipush 64, 2) := by decide +kernel
theorem dX1_init_23 : decode cX1_init 23 = .ok (.newarray .int, 2) := by decide +kernel
theorem dX1_init_25 : decode cX1_init 25 = .ok (.putfield 21, 3) := by decide +kernel
theorem dX1_init_28 : decode cX1_init 28 = .ok (.return_, 1) := by decide +kernel
theorem dX1_follow_0 : decode cX1_follow 0 = .ok (.aload_n 0, 1) := by decide +kernel
theorem dX1_follow_1 : decode cX1_follow 1 = .ok (.getfield 9, 3) := by decide +kernel
theorem dX1_follow_4 : decode cX1_follow 4 = .ok (.iconst 0, 1) := by decide +kernel
theorem dX1_follow_5 : decode cX1_follow 5 = .ok (.iaload, 1) := by decide +kernel
theorem dX1_follow_6 : decode cX1_follow 6 = .ok (.aload_n 1, 1) := by decide +kernel
theorem dX1_follow_7 : decode cX1_follow 7 = .ok (.iconst 0, 1) := by decide +kernel
theorem dX1_follow_8 : decode cX1_follow 8 = .ok (.iaload, 1) := by decide +kernel
theorem dX1_follow_9 : decode cX1_follow 9 = .ok (.if_icmp .ne 28, 3) := by decide +kernel
theorem dX1_follow_12 : decode cX1_follow 12 = .ok (.aload_n 0, 1) := by decide +kernel
theorem dX1_follow_13 : decode cX1_follow 13 = .ok (.getfield 9, 3) := by decide +kernel
theorem dX1_follow_16 : decode cX1_follow 16 = .ok (.iconst 1, 1) := by decide +kernel
theorem dX1_follow_17 : decode cX1_follow 17 = .ok (.iaload, 1) := by decide +kernel
theorem dX1_follow_18 : decode cX1_follow 18 = .ok (.aload_n 1, 1) := by decide +kernel
theorem dX1_follow_19 : decode cX1_follow 19 = .ok (.iconst 1, 1) := by decide +kernel
theorem dX1_follow_20 : decode cX1_follow 20 = .ok (.iaload, 1) := by decide +kernel
theorem dX1_follow_21 : decode cX1_follow 21 = .ok (.if_icmp .ne 16, 3) := by decide +kernel
theorem dX1_follow_24 : decode cX1_follow 24 = .ok (.aload_n 0, 1) := by decide +kernel
theorem dX1_follow_25 : decode cX1_follow 25 = .ok (.getfield 9, 3) := by decide +kernel
theorem dX1_follow_28 : decode cX1_follow 28 = .ok (.iconst 2, 1) := by decide +kernel
theorem dX1_follow_29 : decode cX1_follow 29 = .ok (.iaload, 1) := by decide +kernel
theorem dX1_follow_30 : decode cX1_follow 30 = .ok (.aload_n 1, 1) := by decide +kernel
theorem dX1_follow_31 : decode cX1_follow 31 = .ok (.iconst 2, 1) := by decide +kernel
theorem dX1_follow_32 : decode cX1_follow 32 = .ok (.iaload, 1) := by decide +kernel
theorem dX1_follow_33 : decode cX1_follow 33 = .ok (.if_icmp .ne 4, 3) := by decide +kernel
theorem dX1_follow_36 : decode cX1_follow 36 = .ok (.return_, 1) := by decide +kernel
theorem dX1_follow_37 : decode cX1_follow 37 = .ok (.aload_n 1, 1) := by decide +kernel
theorem dX1_follow_38 : decode cX1_follow 38 = .ok (.iconst 0, 1) := by decide +kernel
theorem dX1_follow_39 : decode cX1_follow 39 = .ok (.aload_n 0, 1) := by decide +kernel
theorem dX1_follow_40 : decode cX1_follow 40 = .ok (.getfield 9, 3) := by decide +kernel
theorem dX1_follow_43 : decode cX1_follow 43 = .ok (.iconst 0, 1) := by decide +kernel
theorem dX1_follow_44 : decode cX1_follow 44 = .ok (.iconst 4, 1) := by decide +kernel
theorem dX1_follow_45 : decode cX1_follow 45 = .ok (.invokestatic 24, 3) := by decide +kernel
theorem dX1_follow_48 : decode cX1_follow 48 = .ok (.iconst 0, 1) := by decide +kernel
theorem dX1_follow_49 : decode cX1_follow 49 = .ok (.istore_n 2, 1) := by decide +kernel
theorem dX1_follow_50 : decode cX1_follow 50 = .ok (.iload_n 2, 1) := by decide +kernel
theorem dX1_follow_51 : decode cX1_follow 51 = .ok (.bipush 64, 2) := by decide +kernel
theorem dX1_follow_53 : decode cX1_follow 53 = .ok (.if_icmp .ge 16, 3) := by decide +kernel
theorem dX1_follow_56 : decode cX1_follow 56 = .ok (.aload_n 0, 1) := by decide +kernel
theorem dX1_follow_57 : decode cX1_follow 57 = .ok (.getfield 21, 3) := by decide +kernel
theorem dX1_follow_60 : decode cX1_follow 60 = .ok (.iload_n 2, 1) := by decide +kernel
theorem dX1_follow_61 : decode cX1_follow 61 = .ok (.iconst 0, 1) := by decide +kernel
theorem dX1_follow_62 : decode cX1_follow 62 = .ok (.iastore, 1) := by decide +kernel
theorem dX1_follow_63 : decode cX1_follow 63 = .ok (.iinc 2 1, 3) := by decide +kernel
theorem dX1_follow_66 : decode cX1_follow 66 = .ok (.goto (-16), 3) := by decide +kernel
theorem dX1_follow_69 : decode cX1_follow 69 = .ok (.return_, 1) := by decide +kernel
set_option maxRecDepth 20000 in
theorem ggX1_warmthBy_X5_step : GoodIn wsX1_warmthBy wsX5_step := goodIn_r _ [7, 8, 9, 10, 6, 11] (by decide +kernel) (by decide +kernel)
set_option maxRecDepth 20000 in
theorem gX1_warmthBy_X5_step_n30 : GoodIn wsX1_warmthBy (wsX5_step) := ggX1_warmthBy_X5_step
theorem dX1_warmthBy_0 : decode cX1_warmthBy 0 = .ok (.aload_n 0, 1) := by decide +kernel
theorem dX1_warmthBy_1 : decode cX1_warmthBy 1 = .ok (.getfield 17, 3) := by decide +kernel
theorem dX1_warmthBy_4 : decode cX1_warmthBy 4 = .ok (.iload_n 1, 1) := by decide +kernel
theorem dX1_warmthBy_5 : decode cX1_warmthBy 5 = .ok (.aaload, 1) := by decide +kernel
theorem dX1_warmthBy_6 : decode cX1_warmthBy 6 = .ok (.ifnonnull 14, 3) := by decide +kernel
theorem dX1_warmthBy_9 : decode cX1_warmthBy 9 = .ok (.aload_n 0, 1) := by decide +kernel
theorem dX1_warmthBy_10 : decode cX1_warmthBy 10 = .ok (.getfield 17, 3) := by decide +kernel
theorem dX1_warmthBy_13 : decode cX1_warmthBy 13 = .ok (.iload_n 1, 1) := by decide +kernel
theorem dX1_warmthBy_14 : decode cX1_warmthBy 14 = .ok (.sipush 6464, 3) := by decide +kernel
theorem dX1_warmthBy_17 : decode cX1_warmthBy 17 = .ok (.newarray .float, 2) := by decide +kernel
theorem dX1_warmthBy_19 : decode cX1_warmthBy 19 = .ok (.aastore, 1) := by decide +kernel
theorem dX1_warmthBy_20 : decode cX1_warmthBy 20 = .ok (.aload_n 0, 1) := by decide +kernel
theorem dX1_warmthBy_21 : decode cX1_warmthBy 21 = .ok (.getfield 17, 3) := by decide +kernel
theorem dX1_warmthBy_24 : decode cX1_warmthBy 24 = .ok (.iload_n 1, 1) := by decide +kernel
theorem dX1_warmthBy_25 : decode cX1_warmthBy 25 = .ok (.aaload, 1) := by decide +kernel
theorem dX1_warmthBy_26 : decode cX1_warmthBy 26 = .ok (.astore 4, 2) := by decide +kernel
theorem dX1_warmthBy_28 : decode cX1_warmthBy 28 = .ok (.aload_n 0, 1) := by decide +kernel
theorem dX1_warmthBy_29 : decode cX1_warmthBy 29 = .ok (.getfield 21, 3) := by decide +kernel
theorem dX1_warmthBy_32 : decode cX1_warmthBy 32 = .ok (.iload_n 1, 1) := by decide +kernel
theorem dX1_warmthBy_33 : decode cX1_warmthBy 33 = .ok (.iaload, 1) := by decide +kernel
theorem dX1_warmthBy_34 : decode cX1_warmthBy 34 = .ok (.istore 5, 2) := by decide +kernel
theorem dX1_warmthBy_36 : decode cX1_warmthBy 36 = .ok (.iload 5, 2) := by decide +kernel
theorem dX1_warmthBy_38 : decode cX1_warmthBy 38 = .ok (.iload_n 2, 1) := by decide +kernel
theorem dX1_warmthBy_39 : decode cX1_warmthBy 39 = .ok (.if_icmp .ge 52, 3) := by decide +kernel
theorem dX1_warmthBy_42 : decode cX1_warmthBy 42 = .ok (.iload 5, 2) := by decide +kernel
theorem dX1_warmthBy_44 : decode cX1_warmthBy 44 = .ok (.bipush 100, 2) := by decide +kernel
theorem dX1_warmthBy_46 : decode cX1_warmthBy 46 = .ok (.if_icmp .ge 45, 3) := by decide +kernel
theorem dX1_warmthBy_49 : decode cX1_warmthBy 49 = .ok (.aload 4, 2) := by decide +kernel
theorem dX1_warmthBy_51 : decode cX1_warmthBy 51 = .ok (.iload 5, 2) := by decide +kernel
theorem dX1_warmthBy_53 : decode cX1_warmthBy 53 = .ok (.bipush 64, 2) := by decide +kernel
theorem dX1_warmthBy_55 : decode cX1_warmthBy 55 = .ok (.imul, 1) := by decide +kernel
theorem dX1_warmthBy_56 : decode cX1_warmthBy 56 = .ok (.aload 4, 2) := by decide +kernel
theorem dX1_warmthBy_58 : decode cX1_warmthBy 58 = .ok (.iload 5, 2) := by decide +kernel
theorem dX1_warmthBy_60 : decode cX1_warmthBy 60 = .ok (.iconst 1, 1) := by decide +kernel
theorem dX1_warmthBy_61 : decode cX1_warmthBy 61 = .ok (.iadd, 1) := by decide +kernel
theorem dX1_warmthBy_62 : decode cX1_warmthBy 62 = .ok (.bipush 64, 2) := by decide +kernel
theorem dX1_warmthBy_64 : decode cX1_warmthBy 64 = .ok (.imul, 1) := by decide +kernel
theorem dX1_warmthBy_65 : decode cX1_warmthBy 65 = .ok (.lconst 1, 1) := by decide +kernel
theorem dX1_warmthBy_66 : decode cX1_warmthBy 66 = .ok (.iload_n 1, 1) := by decide +kernel
theorem dX1_warmthBy_67 : decode cX1_warmthBy 67 = .ok (.lshl, 1) := by decide +kernel
theorem dX1_warmthBy_68 : decode cX1_warmthBy 68 = .ok (.aload_n 0, 1) := by decide +kernel
theorem dX1_warmthBy_69 : decode cX1_warmthBy 69 = .ok (.getfield 9, 3) := by decide +kernel
theorem dX1_warmthBy_72 : decode cX1_warmthBy 72 = .ok (.invokestatic 30, 3) := by decide +kernel
theorem dX1_warmthBy_75 : decode cX1_warmthBy 75 = .ok (.aload_n 0, 1) := by decide +kernel
theorem dX1_warmthBy_76 : decode cX1_warmthBy 76 = .ok (.getfield 21, 3) := by decide +kernel
theorem dX1_warmthBy_79 : decode cX1_warmthBy 79 = .ok (.iload_n 1, 1) := by decide +kernel
theorem dX1_warmthBy_80 : decode cX1_warmthBy 80 = .ok (.iload 5, 2) := by decide +kernel
theorem dX1_warmthBy_82 : decode cX1_warmthBy 82 = .ok (.iconst 1, 1) := by decide +kernel
theorem dX1_warmthBy_83 : decode cX1_warmthBy 83 = .ok (.iadd, 1) := by decide +kernel
theorem dX1_warmthBy_84 : decode cX1_warmthBy 84 = .ok (.iastore, 1) := by decide +kernel
theorem dX1_warmthBy_85 : decode cX1_warmthBy 85 = .ok (.iinc 5 1, 3) := by decide +kernel
theorem dX1_warmthBy_88 : decode cX1_warmthBy 88 = .ok (.goto (-52), 3) := by decide +kernel
theorem dX1_warmthBy_91 : decode cX1_warmthBy 91 = .ok (.aload 4, 2) := by decide +kernel
theorem dX1_warmthBy_93 : decode cX1_warmthBy 93 = .ok (.iload_n 2, 1) := by decide +kernel
theorem dX1_warmthBy_94 : decode cX1_warmthBy 94 = .ok (.bipush 64, 2) := by decide +kernel
theorem dX1_warmthBy_96 : decode cX1_warmthBy 96 = .ok (.imul, 1) := by decide +kernel
theorem dX1_warmthBy_97 : decode cX1_warmthBy 97 = .ok (.iload_n 3, 1) := by decide +kernel
theorem dX1_warmthBy_98 : decode cX1_warmthBy 98 = .ok (.iadd, 1) := by decide +kernel
theorem dX1_warmthBy_99 : decode cX1_warmthBy 99 = .ok (.faload, 1) := by decide +kernel
theorem dX1_warmthBy_100 : decode cX1_warmthBy 100 = .ok (.freturn, 1) := by decide +kernel
theorem dX2_init_0 : decode cX2_init 0 = .ok (.aload_n 0, 1) := by decide +kernel
theorem dX2_init_1 : decode cX2_init 1 = .ok (.invokespecial 3, 3) := by decide +kernel
theorem dX2_init_4 : decode cX2_init 4 = .ok (.aload_n 0, 1) := by decide +kernel
theorem dX2_init_5 : decode cX2_init 5 = .ok (.bipush 80, 2) := by decide +kernel
theorem dX2_init_7 : decode cX2_init 7 = .ok (.newarray .int, 2) := by decide +kernel
theorem dX2_init_9 : decode cX2_init 9 = .ok (.putfield 9, 3) := by decide +kernel
theorem dX2_init_12 : decode cX2_init 12 = .ok (.aload_n 0, 1) := by decide +kernel
theorem dX2_init_13 : decode cX2_init 13 = .ok (.iconst 0, 1) := by decide +kernel
theorem dX2_init_14 : decode cX2_init 14 = .ok (.putfield 15, 3) := by decide +kernel
theorem dX2_init_17 : decode cX2_init 17 = .ok (.return_, 1) := by decide +kernel
set_option maxRecDepth 20000 in
theorem ggX3_init_X0_init : GoodIn wsX3_init wsX0_init := goodIn_r _ [10, 11, 2, 3, 12, 13, 14, 15, 16, 17, 18, 19, 20, 21, 22, 23, 24, 25, 26, 27, 28, 29, 30, 33, 34, 35, 36, 37, 38, 39, 40, 41, 42, 43, 44, 45] (by decide +kernel) (by decide +kernel)
set_option maxRecDepth 20000 in
theorem gX3_init_X0_init_n21 : GoodIn wsX3_init (wsX0_init) := ggX3_init_X0_init
theorem dX3_init_0 : decode cX3_init 0 = .ok (.aload_n 0, 1) := by decide +kernel
theorem dX3_init_1 : decode cX3_init 1 = .ok (.invokespecial 3, 3) := by decide +kernel
theorem dX3_init_4 : decode cX3_init 4 = .ok (.aload_n 0, 1) := by decide +kernel
theorem dX3_init_5 : decode cX3_init 5 = .ok (.bipush 7, 2) := by decide +kernel
theorem dX3_init_7 : decode cX3_init 7 = .ok (.anewarray 9, 3) := by decide +kernel
theorem dX3_init_10 : decode cX3_init 10 = .ok (.putfield 11, 3) := by decide +kernel
theorem dX3_init_13 : decode cX3_init 13 = .ok (.aload_n 0, 1) := by decide +kernel
theorem dX3_init_14 : decode cX3_init 14 = .ok (.iconst 0, 1) := by decide +kernel
theorem dX3_init_15 : decode cX3_init 15 = .ok (.putfield 17, 3) := by decide +kernel
theorem dX3_init_18 : decode cX3_init 18 = .ok (.iconst 0, 1) := by decide +kernel
theorem dX3_init_19 : decode cX3_init 19 = .ok (.istore_n 1, 1) := by decide +kernel
theorem dX3_init_20 : decode cX3_init 20 = .ok (.iload_n 1, 1) := by decide +kernel
theorem dX3_init_21 : decode cX3_init 21 = .ok (.bipush 6, 2) := by decide +kernel
theorem dX3_init_23 : decode cX3_init 23 = .ok (.if_icmp .gt 22, 3) := by decide +kernel
theorem dX3_init_26 : decode cX3_init 26 = .ok (.aload_n 0, 1) := by decide +kernel
theorem dX3_init_27 : decode cX3_init 27 = .ok (.getfield 11, 3) := by decide +kernel
theorem dX3_init_30 : decode cX3_init 30 = .ok (.iload_n 1, 1) := by decide +kernel
theorem dX3_init_31 : decode cX3_init 31 = .ok (.new 9, 3) := by decide +kernel
theorem dX3_init_34 : decode cX3_init 34 = .ok (.dup, 1) := by decide +kernel
theorem dX3_init_35 : decode cX3_init 35 = .ok (.invokespecial 21, 3) := by decide +kernel
theorem dX3_init_38 : decode cX3_init 38 = .ok (.aastore, 1) := by decide +kernel
theorem dX3_init_39 : decode cX3_init 39 = .ok (.iinc 1 1, 3) := by decide +kernel
theorem dX3_init_42 : decode cX3_init 42 = .ok (.goto (-22), 3) := by decide +kernel
theorem dX3_init_45 : decode cX3_init 45 = .ok (.return_, 1) := by decide +kernel
set_option maxRecDepth 20000 in
theorem ggX3_prepare_X0_takeOver : GoodIn wsX3_prepare wsX0_takeOver := goodIn_r _ [6, 7, 8, 9, 10, 11, 12, 13, 14, 15, 16, 17, 18, 19, 20, 21, 22, 25, 26, 27, 28, 29, 30, 31, 32, 33, 34, 35, 36, 37] (by decide +kernel) (by decide +kernel)
set_option maxRecDepth 20000 in
theorem gX3_prepare_X0_takeOver_n22 : GoodIn wsX3_prepare (wsX0_takeOver) := ggX3_prepare_X0_takeOver
theorem dX3_prepare_0 : decode cX3_prepare 0 = .ok (.aload_n 0, 1) := by decide +kernel
theorem dX3_prepare_1 : decode cX3_prepare 1 = .ok (.getfield 11, 3) := by decide +kernel
theorem dX3_prepare_4 : decode cX3_prepare 4 = .ok (.aload_n 0, 1) := by decide +kernel
theorem dX3_prepare_5 : decode cX3_prepare 5 = .ok (.getfield 17, 3) := by decide +kernel
theorem dX3_prepare_8 : decode cX3_prepare 8 = .ok (.aaload, 1) := by decide +kernel
theorem dX3_prepare_9 : decode cX3_prepare 9 = .ok (.aload_n 1, 1) := by decide +kernel
theorem dX3_prepare_10 : decode cX3_prepare 10 = .ok (.invokevirtual 22, 3) := by decide +kernel
theorem dX3_prepare_13 : decode cX3_prepare 13 = .ok (.return_, 1) := by decide +kernel
theorem dX3_kept_0 : decode cX3_kept 0 = .ok (.iload_n 1, 1) := by decide +kernel
theorem dX3_kept_1 : decode cX3_kept 1 = .ok (.ifCond .ge 5, 3) := by decide +kernel
theorem dX3_kept_4 : decode cX3_kept 4 = .ok (.iload_n 1, 1) := by decide +kernel
theorem dX3_kept_5 : decode cX3_kept 5 = .ok (.ireturn, 1) := by decide +kernel
theorem dX3_kept_6 : decode cX3_kept 6 = .ok (.aload_n 0, 1) := by decide +kernel
theorem dX3_kept_7 : decode cX3_kept 7 = .ok (.getfield 17, 3) := by decide +kernel
theorem dX3_kept_10 : decode cX3_kept 10 = .ok (.bipush 6, 2) := by decide +kernel
theorem dX3_kept_12 : decode cX3_kept 12 = .ok (.if_icmp .ge 15, 3) := by decide +kernel
theorem dX3_kept_15 : decode cX3_kept 15 = .ok (.aload_n 0, 1) := by decide +kernel
theorem dX3_kept_16 : decode cX3_kept 16 = .ok (.dup, 1) := by decide +kernel
theorem dX3_kept_17 : decode cX3_kept 17 = .ok (.getfield 17, 3) := by decide +kernel
theorem dX3_kept_20 : decode cX3_kept 20 = .ok (.iconst 1, 1) := by decide +kernel
theorem dX3_kept_21 : decode cX3_kept 21 = .ok (.iadd, 1) := by decide +kernel
theorem dX3_kept_22 : decode cX3_kept 22 = .ok (.putfield 17, 3) := by decide +kernel
theorem dX3_kept_25 : decode cX3_kept 25 = .ok (.iload_n 1, 1) := by decide +kernel
theorem dX3_kept_26 : decode cX3_kept 26 = .ok (.ireturn, 1) := by decide +kernel
theorem dX3_kept_27 : decode cX3_kept 27 = .ok (.aload_n 0, 1) := by decide +kernel
theorem dX3_kept_28 : decode cX3_kept 28 = .ok (.getfield 11, 3) := by decide +kernel
theorem dX3_kept_31 : decode cX3_kept 31 = .ok (.iconst 0, 1) := by decide +kernel
theorem dX3_kept_32 : decode cX3_kept 32 = .ok (.aaload, 1) := by decide +kernel
theorem dX3_kept_33 : decode cX3_kept 33 = .ok (.astore_n 2, 1) := by decide +kernel
theorem dX3_kept_34 : decode cX3_kept 34 = .ok (.iconst 0, 1) := by decide +kernel
theorem dX3_kept_35 : decode cX3_kept 35 = .ok (.istore_n 3, 1) := by decide +kernel
theorem dX3_kept_36 : decode cX3_kept 36 = .ok (.iload_n 3, 1) := by decide +kernel
theorem dX3_kept_37 : decode cX3_kept 37 = .ok (.bipush 6, 2) := by decide +kernel
theorem dX3_kept_39 : decode cX3_kept 39 = .ok (.if_icmp .ge 23, 3) := by decide +kernel
theorem dX3_kept_42 : decode cX3_kept 42 = .ok (.aload_n 0, 1) := by decide +kernel
theorem dX3_kept_43 : decode cX3_kept 43 = .ok (.getfield 11, 3) := by decide +kernel
theorem dX3_kept_46 : decode cX3_kept 46 = .ok (.iload_n 3, 1) := by decide +kernel
theorem dX3_kept_47 : decode cX3_kept 47 = .ok (.aload_n 0, 1) := by decide +kernel
theorem dX3_kept_48 : decode cX3_kept 48 = .ok (.getfield 11, 3) := by decide +kernel
theorem dX3_kept_51 : decode cX3_kept 51 = .ok (.iload_n 3, 1) := by decide +kernel
theorem dX3_kept_52 : decode cX3_kept 52 = .ok (.iconst 1, 1) := by decide +kernel
theorem dX3_kept_53 : decode cX3_kept 53 = .ok (.iadd, 1) := by decide +kernel
theorem dX3_kept_54 : decode cX3_kept 54 = .ok (.aaload, 1) := by decide +kernel
theorem dX3_kept_55 : decode cX3_kept 55 = .ok (.aastore, 1) := by decide +kernel
theorem dX3_kept_56 : decode cX3_kept 56 = .ok (.iinc 3 1, 3) := by decide +kernel
theorem dX3_kept_59 : decode cX3_kept 59 = .ok (.goto (-23), 3) := by decide +kernel
theorem dX3_kept_62 : decode cX3_kept 62 = .ok (.aload_n 0, 1) := by decide +kernel
theorem dX3_kept_63 : decode cX3_kept 63 = .ok (.getfield 11, 3) := by decide +kernel
theorem dX3_kept_66 : decode cX3_kept 66 = .ok (.bipush 6, 2) := by decide +kernel
theorem dX3_kept_68 : decode cX3_kept 68 = .ok (.aload_n 2, 1) := by decide +kernel
theorem dX3_kept_69 : decode cX3_kept 69 = .ok (.aastore, 1) := by decide +kernel
theorem dX3_kept_70 : decode cX3_kept 70 = .ok (.iload_n 1, 1) := by decide +kernel
theorem dX3_kept_71 : decode cX3_kept 71 = .ok (.ireturn, 1) := by decide +kernel
set_option maxRecDepth 20000 in
theorem ggX4_init_X1_init : GoodIn wsX4_init wsX1_init := goodIn_r _ [11, 12, 2, 3, 8, 13, 14, 15, 16, 17, 18, 19] (by decide +kernel) (by decide +kernel)
set_option maxRecDepth 20000 in
theorem gX4_init_X1_init_n11 : GoodIn wsX4_init (wsX1_init) := ggX4_init_X1_init
theorem dX4_init_0 : decode cX4_init 0 = .ok (.aload_n 0, 1) := by decide +kernel
theorem dX4_init_1 : decode cX4_init 1 = .ok (.invokespecial 3, 3) := by decide +kernel
theorem dX4_init_4 : decode cX4_init 4 = .ok (.aload_n 0, 1) := by decide +kernel
theorem dX4_init_5 : decode cX4_init 5 = .ok (.new 9, 3) := by decide +kernel
theorem dX4_init_8 : decode cX4_init 8 = .ok (.dup, 1) := by decide +kernel
theorem dX4_init_9 : decode cX4_init 9 = .ok (.invokespecial 11, 3) := by decide +kernel
theorem dX4_init_12 : decode cX4_init 12 = .ok (.putfield 12, 3) := by decide +kernel
theorem dX4_init_15 : decode cX4_init 15 = .ok (.aload_n 0, 1) := by decide +kernel
theorem dX4_init_16 : decode cX4_init 16 = .ok (.bipush 64, 2) := by decide +kernel
theorem dX4_init_18 : decode cX4_init 18 = .ok (.newarray .int, 2) := by decide +kernel
theorem dX4_init_20 : decode cX4_init 20 = .ok (.putfield 18, 3) := by decide +kernel
theorem dX4_init_23 : decode cX4_init 23 = .ok (.return_, 1) := by decide +kernel
set_option maxRecDepth 20000 in
theorem ggX4_couldBe_X0_isSuspect : GoodIn wsX4_couldBe wsX0_isSuspect := goodIn_r _ [4, 5, 6, 7, 8, 9, 10, 11, 2, 12, 13, 48, 49, 50, 51, 52, 53, 54, 55, 56, 57, 58, 59, 60] (by decide +kernel) (by decide +kernel)
set_option maxRecDepth 20000 in
theorem gX4_couldBe_X0_isSuspect_n22 : GoodIn wsX4_couldBe (wsX0_isSuspect) := ggX4_couldBe_X0_isSuspect
set_option maxRecDepth 20000 in
theorem ggX4_couldBe_X4_fits : GoodIn wsX4_couldBe wsX4_fits := goodIn_r _ [18, 19, 20, 21, 22, 23, 24, 25, 26, 27, 28, 29, 30, 31, 32, 33, 34, 35, 36, 37, 38, 39, 7, 40, 41, 42, 43, 44, 45, 46, 47, 61, 62, 48, 49, 50, 51, 52, 53, 54, 55, 56, 57, 58, 59, 60, 63, 64, 65] (by decide +kernel) (by decide +kernel)
set_option maxRecDepth 20000 in
theorem gX4_couldBe_X4_fits : GoodIn wsX4_couldBe (wsV RX4 28 RX4 yX4_fits wsX4_fits) := goodIn_app (goodIn_of _ (by decide +kernel)) ggX4_couldBe_X4_fits
theorem dX4_couldBe_0 : decode cX4_couldBe 0 = .ok (.aload_n 1, 1) := by decide +kernel
theorem dX4_couldBe_1 : decode cX4_couldBe 1 = .ok (.iload_n 2, 1) := by decide +kernel
theorem dX4_couldBe_2 : decode cX4_couldBe 2 = .ok (.invokevirtual 22, 3) := by decide +kernel
theorem dX4_couldBe_5 : decode cX4_couldBe 5 = .ok (.ifCond .eq 18, 3) := by decide +kernel
theorem dX4_couldBe_8 : decode cX4_couldBe 8 = .ok (.aload_n 0, 1) := by decide +kernel
theorem dX4_couldBe_9 : decode cX4_couldBe 9 = .ok (.aload_n 1, 1) := by decide +kernel
theorem dX4_couldBe_10 : decode cX4_couldBe 10 = .ok (.iload_n 2, 1) := by decide +kernel
theorem dX4_couldBe_11 : decode cX4_couldBe 11 = .ok (.bipush (-6), 2) := by decide +kernel
theorem dX4_couldBe_13 : decode cX4_couldBe 13 = .ok (.invokevirtual 28, 3) := by decide +kernel
theorem dX4_couldBe_16 : decode cX4_couldBe 16 = .ok (.ifCond .eq 7, 3) := by decide +kernel
theorem dX4_couldBe_19 : decode cX4_couldBe 19 = .ok (.iconst 1, 1) := by decide +kernel
theorem dX4_couldBe_20 : decode cX4_couldBe 20 = .ok (.goto 4, 3) := by decide +kernel
theorem dX4_couldBe_23 : decode cX4_couldBe 23 = .ok (.iconst 0, 1) := by decide +kernel
theorem dX4_couldBe_24 : decode cX4_couldBe 24 = .ok (.ireturn, 1) := by decide +kernel
set_option maxRecDepth 20000 in
theorem ggX4_fitting_X4_couldBe : GoodIn wsX4_fitting wsX4_couldBe := goodIn_r _ [5, 6, 7, 8, 9, 10, 11, 12, 13, 14, 15, 16, 17, 18, 19, 20, 21, 4, 22, 23, 24, 25, 26, 27, 28, 29, 30, 31, 32, 33, 34, 35, 36, 37, 38, 39, 40, 41, 42, 43, 44, 45, 46, 47, 48, 49, 50, 51, 52, 53, 54, 55, 56, 57, 58, 59, 60, 61, 62, 63, 64, 65, 66, 67, 68, 69] (by decide +kernel) (by decide +kernel)
set_option maxRecDepth 20000 in
theorem gX4_fitting_X4_couldBe : GoodIn wsX4_fitting (wsV RX4 32 RX4 yX4_couldBe wsX4_couldBe) := goodIn_app (goodIn_of _ (by decide +kernel)) ggX4_fitting_X4_couldBe
theorem dX4_fitting_0 : decode cX4_fitting 0 = .ok (.lconst 0, 1) := by decide +kernel
theorem dX4_fitting_1 : decode cX4_fitting 1 = .ok (.lstore_n 2, 1) := by decide +kernel
theorem dX4_fitting_2 : decode cX4_fitting 2 = .ok (.iconst 0, 1) := by decide +kernel
theorem dX4_fitting_3 : decode cX4_fitting 3 = .ok (.istore 4, 2) := by decide +kernel
theorem dX4_fitting_5 : decode cX4_fitting 5 = .ok (.iload 4, 2) := by decide +kernel
theorem dX4_fitting_7 : decode cX4_fitting 7 = .ok (.bipush 64, 2) := by decide +kernel
theorem dX4_fitting_9 : decode cX4_fitting 9 = .ok (.if_icmp .ge 26, 3) := by decide +kernel
theorem dX4_fitting_12 : decode cX4_fitting 12 = .ok (.aload_n 0, 1) := by decide +kernel
theorem dX4_fitting_13 : decode cX4_fitting 13 = .ok (.aload_n 1, 1) := by decide +kernel
theorem dX4_fitting_14 : decode cX4_fitting 14 = .ok (.iload 4, 2) := by decide +kernel
theorem dX4_fitting_16 : decode cX4_fitting 16 = .ok (.invokevirtual 32, 3) := by decide +kernel
theorem dX4_fitting_19 : decode cX4_fitting 19 = .ok (.ifCond .eq 10, 3) := by decide +kernel
theorem dX4_fitting_22 : decode cX4_fitting 22 = .ok (.lload_n 2, 1) := by decide +kernel
theorem dX4_fitting_23 : decode cX4_fitting 23 = .ok (.lconst 1, 1) := by decide +kernel
theorem dX4_fitting_24 : decode cX4_fitting 24 = .ok (.iload 4, 2) := by decide +kernel
theorem dX4_fitting_26 : decode cX4_fitting 26 = .ok (.lshl, 1) := by decide +kernel
theorem dX4_fitting_27 : decode cX4_fitting 27 = .ok (.lor, 1) := by decide +kernel
theorem dX4_fitting_28 : decode cX4_fitting 28 = .ok (.lstore_n 2, 1) := by decide +kernel
theorem dX4_fitting_29 : decode cX4_fitting 29 = .ok (.iinc 4 1, 3) := by decide +kernel
theorem dX4_fitting_32 : decode cX4_fitting 32 = .ok (.goto (-27), 3) := by decide +kernel
theorem dX4_fitting_35 : decode cX4_fitting 35 = .ok (.lload_n 2, 1) := by decide +kernel
theorem dX4_fitting_36 : decode cX4_fitting 36 = .ok (.lreturn, 1) := by decide +kernel
set_option maxRecDepth 20000 in
theorem ggX4_pairs_X0_suspects : GoodIn wsX4_pairs wsX0_suspects := goodIn_r _ [4, 5, 6, 7, 2, 8, 9, 10, 11, 12, 13, 14, 15, 16, 17, 52, 53, 54, 55, 56, 57, 58, 59, 60, 61, 62, 63, 64] (by decide +kernel) (by decide +kernel)
set_option maxRecDepth 20000 in
theorem gX4_pairs_X0_suspects_n36 : GoodIn wsX4_pairs (wsX0_suspects) := ggX4_pairs_X0_suspects
set_option maxRecDepth 20000 in
theorem ggX4_pairs_X5_isIn : GoodIn wsX4_pairs wsX5_isIn := goodIn_r _ [19] (by decide +kernel) (by decide +kernel)
set_option maxRecDepth 20000 in
theorem gX4_pairs_X5_isIn_n40 : GoodIn wsX4_pairs (wsX5_isIn) := ggX4_pairs_X5_isIn
set_option maxRecDepth 20000 in
theorem ggX4_pairs_X4_fits : GoodIn wsX4_pairs wsX4_fits := goodIn_r _ [24, 25, 26, 27, 28, 29, 30, 31, 32, 33, 34, 35, 36, 37, 38, 39, 40, 41, 42, 43, 44, 45, 11, 46, 47, 48, 18, 19, 49, 50, 51, 65, 66, 52, 53, 54, 55, 56, 57, 58, 59, 60, 61, 62, 63, 64, 67, 68, 69] (by decide +kernel) (by decide +kernel)
set_option maxRecDepth 20000 in
theorem gX4_pairs_X4_fits : GoodIn wsX4_pairs (wsV RX4 28 RX4 yX4_fits wsX4_fits) := goodIn_app (goodIn_of _ (by decide +kernel)) ggX4_pairs_X4_fits
theorem dX4_pairs_0 : decode cX4_pairs 0 = .ok (.aload_n 1, 1) := by decide +kernel
theorem dX4_pairs_1 : decode cX4_pairs 1 = .ok (.invokevirtual 36, 3) := by decide +kernel
theorem dX4_pairs_4 : decode cX4_pairs 4 = .ok (.lstore_n 2, 1) := by decide +kernel
theorem dX4_pairs_5 : decode cX4_pairs 5 = .ok (.iconst 0, 1) := by decide +kernel
theorem dX4_pairs_6 : decode cX4_pairs 6 = .ok (.istore 4, 2) := by decide +kernel
theorem dX4_pairs_8 : decode cX4_pairs 8 = .ok (.iconst 0, 1) := by decide +kernel
theorem dX4_pairs_9 : decode cX4_pairs 9 = .ok (.istore 5, 2) := by decide +kernel
theorem dX4_pairs_11 : decode cX4_pairs 11 = .ok (.iload 5, 2) := by decide +kernel
theorem dX4_pairs_13 : decode cX4_pairs 13 = .ok (.bipush 64, 2) := by decide +kernel
theorem dX4_pairs_15 : decode cX4_pairs 15 = .ok (.if_icmp .ge 61, 3) := by decide +kernel
theorem dX4_pairs_18 : decode cX4_pairs 18 = .ok (.iload 5, 2) := by decide +kernel
theorem dX4_pairs_20 : decode cX4_pairs 20 = .ok (.iconst 1, 1) := by decide +kernel
theorem dX4_pairs_21 : decode cX4_pairs 21 = .ok (.iadd, 1) := by decide +kernel
theorem dX4_pairs_22 : decode cX4_pairs 22 = .ok (.istore 6, 2) := by decide +kernel
theorem dX4_pairs_24 : decode cX4_pairs 24 = .ok (.iload 6, 2) := by decide +kernel
theorem dX4_pairs_26 : decode cX4_pairs 26 = .ok (.bipush 64, 2) := by decide +kernel
theorem dX4_pairs_28 : decode cX4_pairs 28 = .ok (.if_icmp .ge 42, 3) := by decide +kernel
theorem dX4_pairs_31 : decode cX4_pairs 31 = .ok (.lload_n 2, 1) := by decide +kernel
theorem dX4_pairs_32 : decode cX4_pairs 32 = .ok (.iload 5, 2) := by decide +kernel
theorem dX4_pairs_34 : decode cX4_pairs 34 = .ok (.invokestatic 40, 3) := by decide +kernel
theorem dX4_pairs_37 : decode cX4_pairs 37 = .ok (.ifCond .eq 27, 3) := by decide +kernel
theorem dX4_pairs_40 : decode cX4_pairs 40 = .ok (.lload_n 2, 1) := by decide +kernel
theorem dX4_pairs_41 : decode cX4_pairs 41 = .ok (.iload 6, 2) := by decide +kernel
theorem dX4_pairs_43 : decode cX4_pairs 43 = .ok (.invokestatic 40, 3) := by decide +kernel
theorem dX4_pairs_46 : decode cX4_pairs 46 = .ok (.ifCond .eq 18, 3) := by decide +kernel
theorem dX4_pairs_49 : decode cX4_pairs 49 = .ok (.aload_n 0, 1) := by decide +kernel
theorem dX4_pairs_50 : decode cX4_pairs 50 = .ok (.aload_n 1, 1) := by decide +kernel
theorem dX4_pairs_51 : decode cX4_pairs 51 = .ok (.iload 5, 2) := by decide +kernel
theorem dX4_pairs_53 : decode cX4_pairs 53 = .ok (.iload 6, 2) := by decide +kernel
theorem dX4_pairs_55 : decode cX4_pairs 55 = .ok (.invokevirtual 28, 3) := by decide +kernel
theorem dX4_pairs_58 : decode cX4_pairs 58 = .ok (.ifCond .eq 6, 3) := by decide +kernel
theorem dX4_pairs_61 : decode cX4_pairs 61 = .ok (.iinc 4 1, 3) := by decide +kernel
theorem dX4_pairs_64 : decode cX4_pairs 64 = .ok (.iinc 6 1, 3) := by decide +kernel
theorem dX4_pairs_67 : decode cX4_pairs 67 = .ok (.goto (-43), 3) := by decide +kernel
theorem dX4_pairs_70 : decode cX4_pairs 70 = .ok (.iinc 5 1, 3) := by decide +kernel
theorem dX4_pairs_73 : decode cX4_pairs 73 = .ok (.goto (-62), 3) := by decide +kernel
theorem dX4_pairs_76 : decode cX4_pairs 76 = .ok (.iload 4, 2) := by decide +kernel
theorem dX4_pairs_78 : decode cX4_pairs 78 = .ok (.ireturn, 1) := by decide +kernel
set_option maxRecDepth 20000 in
theorem ggX4_couldBeOneOfTwo_X0_isSuspect : GoodIn wsX4_couldBeOneOfTwo wsX0_isSuspect := goodIn_r _ [11, 12, 13, 14, 15, 16, 17, 18, 9, 19, 20, 54, 55, 56, 57, 58, 59, 60, 61, 62, 63, 64, 65, 66] (by decide +kernel) (by decide +kernel)
set_option maxRecDepth 20000 in
theorem gX4_couldBeOneOfTwo_X0_isSuspect_n22 : GoodIn wsX4_couldBeOneOfTwo (wsX0_isSuspect) := ggX4_couldBeOneOfTwo_X0_isSuspect
set_option maxRecDepth 20000 in
theorem ggX4_couldBeOneOfTwo_X4_fits : GoodIn wsX4_couldBeOneOfTwo wsX4_fits := goodIn_r _ [25, 26, 27, 28, 3, 29, 30, 31, 32, 33, 34, 35, 36, 37, 38, 39, 40, 41, 42, 43, 44, 45, 14, 46, 47, 48, 49, 50, 51, 52, 53, 67, 68, 54, 55, 56, 57, 58, 59, 60, 61, 62, 63, 64, 65, 66, 69, 70, 71] (by decide +kernel) (by decide +kernel)
set_option maxRecDepth 20000 in
theorem gX4_couldBeOneOfTwo_X4_fits : GoodIn wsX4_couldBeOneOfTwo (wsV RX4 28 RX4 yX4_fits wsX4_fits) := goodIn_app (goodIn_of _ (by decide +kernel)) ggX4_couldBeOneOfTwo_X4_fits
theorem dX4_couldBeOneOfTwo_0 : decode cX4_couldBeOneOfTwo 0 = .ok (.aload_n 1, 1) := by decide +kernel
theorem dX4_couldBeOneOfTwo_1 : decode cX4_couldBeOneOfTwo 1 = .ok (.iload_n 2, 1) := by decide +kernel
theorem dX4_couldBeOneOfTwo_2 : decode cX4_couldBeOneOfTwo 2 = .ok (.invokevirtual 22, 3) := by decide +kernel
theorem dX4_couldBeOneOfTwo_5 : decode cX4_couldBeOneOfTwo 5 = .ok (.ifCond .ne 5, 3) := by decide +kernel
theorem dX4_couldBeOneOfTwo_8 : decode cX4_couldBeOneOfTwo 8 = .ok (.iconst 0, 1) := by decide +kernel
theorem dX4_couldBeOneOfTwo_9 : decode cX4_couldBeOneOfTwo 9 = .ok (.ireturn, 1) := by decide +kernel
theorem dX4_couldBeOneOfTwo_10 : decode cX4_couldBeOneOfTwo 10 = .ok (.iconst 0, 1) := by decide +kernel
theorem dX4_couldBeOneOfTwo_11 : decode cX4_couldBeOneOfTwo 11 = .ok (.istore_n 3, 1) := by decide +kernel
theorem dX4_couldBeOneOfTwo_12 : decode cX4_couldBeOneOfTwo 12 = .ok (.iload_n 3, 1) := by decide +kernel
theorem dX4_couldBeOneOfTwo_13 : decode cX4_couldBeOneOfTwo 13 = .ok (.bipush 64, 2) := by decide +kernel
theorem dX4_couldBeOneOfTwo_15 : decode cX4_couldBeOneOfTwo 15 = .ok (.if_icmp .ge 42, 3) := by decide +kernel
theorem dX4_couldBeOneOfTwo_18 : decode cX4_couldBeOneOfTwo 18 = .ok (.iload_n 3, 1) := by decide +kernel
theorem dX4_couldBeOneOfTwo_19 : decode cX4_couldBeOneOfTwo 19 = .ok (.iload_n 2, 1) := by decide +kernel
theorem dX4_couldBeOneOfTwo_20 : decode cX4_couldBeOneOfTwo 20 = .ok (.if_icmp .eq 31, 3) := by decide +kernel
theorem dX4_couldBeOneOfTwo_23 : decode cX4_couldBeOneOfTwo 23 = .ok (.aload_n 1, 1) := by decide +kernel
theorem dX4_couldBeOneOfTwo_24 : decode cX4_couldBeOneOfTwo 24 = .ok (.iload_n 3, 1) := by decide +kernel
theorem dX4_couldBeOneOfTwo_25 : decode cX4_couldBeOneOfTwo 25 = .ok (.invokevirtual 22, 3) := by decide +kernel
theorem dX4_couldBeOneOfTwo_28 : decode cX4_couldBeOneOfTwo 28 = .ok (.ifCond .eq 23, 3) := by decide +kernel
theorem dX4_couldBeOneOfTwo_31 : decode cX4_couldBeOneOfTwo 31 = .ok (.aload_n 0, 1) := by decide +kernel
theorem dX4_couldBeOneOfTwo_32 : decode cX4_couldBeOneOfTwo 32 = .ok (.aload_n 1, 1) := by decide +kernel
theorem dX4_couldBeOneOfTwo_33 : decode cX4_couldBeOneOfTwo 33 = .ok (.iload_n 2, 1) := by decide +kernel
theorem dX4_couldBeOneOfTwo_34 : decode cX4_couldBeOneOfTwo 34 = .ok (.iload_n 3, 1) := by decide +kernel
theorem dX4_couldBeOneOfTwo_35 : decode cX4_couldBeOneOfTwo 35 = .ok (.invokestatic 44, 3) := by decide +kernel
theorem dX4_couldBeOneOfTwo_38 : decode cX4_couldBeOneOfTwo 38 = .ok (.iload_n 2, 1) := by decide +kernel
theorem dX4_couldBeOneOfTwo_39 : decode cX4_couldBeOneOfTwo 39 = .ok (.iload_n 3, 1) := by decide +kernel
theorem dX4_couldBeOneOfTwo_40 : decode cX4_couldBeOneOfTwo 40 = .ok (.invokestatic 50, 3) := by decide +kernel
theorem dX4_couldBeOneOfTwo_43 : decode cX4_couldBeOneOfTwo 43 = .ok (.invokevirtual 28, 3) := by decide +kernel
theorem dX4_couldBeOneOfTwo_46 : decode cX4_couldBeOneOfTwo 46 = .ok (.ifCond .eq 5, 3) := by decide +kernel
theorem dX4_couldBeOneOfTwo_49 : decode cX4_couldBeOneOfTwo 49 = .ok (.iconst 1, 1) := by decide +kernel
theorem dX4_couldBeOneOfTwo_50 : decode cX4_couldBeOneOfTwo 50 = .ok (.ireturn, 1) := by decide +kernel
theorem dX4_couldBeOneOfTwo_51 : decode cX4_couldBeOneOfTwo 51 = .ok (.iinc 3 1, 3) := by decide +kernel
theorem dX4_couldBeOneOfTwo_54 : decode cX4_couldBeOneOfTwo 54 = .ok (.goto (-42), 3) := by decide +kernel
theorem dX4_couldBeOneOfTwo_57 : decode cX4_couldBeOneOfTwo 57 = .ok (.iconst 0, 1) := by decide +kernel
theorem dX4_couldBeOneOfTwo_58 : decode cX4_couldBeOneOfTwo 58 = .ok (.ireturn, 1) := by decide +kernel
set_option maxRecDepth 20000 in
theorem ggX4_fits_X1_follow : GoodIn wsX4_fits wsX1_follow := goodIn_r _ [9, 10, 11, 12, 13, 14, 15, 46, 47, 48] (by decide +kernel) (by decide +kernel)
set_option maxRecDepth 20000 in
theorem gX4_fits_X1_follow_n56 : GoodIn wsX4_fits (wsX1_follow) := ggX4_fits_X1_follow
set_option maxRecDepth 20000 in
theorem ggX4_fits_X1_warmthBy : GoodIn wsX4_fits wsX1_warmthBy := goodIn_r _ [18, 19, 20, 15, 10, 21, 22, 23, 24, 25, 26, 27, 46, 47, 48] (by decide +kernel) (by decide +kernel)
set_option maxRecDepth 20000 in
theorem gX4_fits_X1_warmthBy_n70 : GoodIn wsX4_fits (wsX1_warmthBy) := ggX4_fits_X1_warmthBy
set_option maxRecDepth 20000 in
theorem ggX4_fits_X5_readOf : GoodIn wsX4_fits wsX5_readOf := goodIn_r _ [29, 30] (by decide +kernel) (by decide +kernel)
set_option maxRecDepth 20000 in
theorem gX4_fits_X5_readOf_n74 : GoodIn wsX4_fits (wsX5_readOf) := ggX4_fits_X5_readOf
theorem dX4_fits_0 : decode cX4_fits 0 = .ok (.aload_n 0, 1) := by decide +kernel
theorem dX4_fits_1 : decode cX4_fits 1 = .ok (.getfield 12, 3) := by decide +kernel
theorem dX4_fits_4 : decode cX4_fits 4 = .ok (.aload_n 1, 1) := by decide +kernel
theorem dX4_fits_5 : decode cX4_fits 5 = .ok (.getfield 53, 3) := by decide +kernel
theorem dX4_fits_8 : decode cX4_fits 8 = .ok (.invokevirtual 56, 3) := by decide +kernel
theorem dX4_fits_11 : decode cX4_fits 11 = .ok (.iconst 0, 1) := by decide +kernel
theorem dX4_fits_12 : decode cX4_fits 12 = .ok (.istore 4, 2) := by decide +kernel
theorem dX4_fits_14 : decode cX4_fits 14 = .ok (.iload 4, 2) := by decide +kernel
theorem dX4_fits_16 : decode cX4_fits 16 = .ok (.aload_n 1, 1) := by decide +kernel
theorem dX4_fits_17 : decode cX4_fits 17 = .ok (.getfield 60, 3) := by decide +kernel
theorem dX4_fits_20 : decode cX4_fits 20 = .ok (.if_icmp .ge 93, 3) := by decide +kernel
theorem dX4_fits_23 : decode cX4_fits 23 = .ok (.aload_n 0, 1) := by decide +kernel
theorem dX4_fits_24 : decode cX4_fits 24 = .ok (.getfield 12, 3) := by decide +kernel
theorem dX4_fits_27 : decode cX4_fits 27 = .ok (.iload_n 2, 1) := by decide +kernel
theorem dX4_fits_28 : decode cX4_fits 28 = .ok (.aload_n 1, 1) := by decide +kernel
theorem dX4_fits_29 : decode cX4_fits 29 = .ok (.getfield 64, 3) := by decide +kernel
theorem dX4_fits_32 : decode cX4_fits 32 = .ok (.iload 4, 2) := by decide +kernel
theorem dX4_fits_34 : decode cX4_fits 34 = .ok (.iaload, 1) := by decide +kernel
theorem dX4_fits_35 : decode cX4_fits 35 = .ok (.aload_n 1, 1) := by decide +kernel
theorem dX4_fits_36 : decode cX4_fits 36 = .ok (.getfield 67, 3) := by decide +kernel
theorem dX4_fits_39 : decode cX4_fits 39 = .ok (.iload 4, 2) := by decide +kernel
theorem dX4_fits_41 : decode cX4_fits 41 = .ok (.iaload, 1) := by decide +kernel
theorem dX4_fits_42 : decode cX4_fits 42 = .ok (.invokevirtual 70, 3) := by decide +kernel
theorem dX4_fits_45 : decode cX4_fits 45 = .ok (.fstore 5, 2) := by decide +kernel
theorem dX4_fits_47 : decode cX4_fits 47 = .ok (.iload_n 3, 1) := by decide +kernel
theorem dX4_fits_48 : decode cX4_fits 48 = .ok (.bipush (-6), 2) := by decide +kernel
theorem dX4_fits_50 : decode cX4_fits 50 = .ok (.if_icmp .eq 30, 3) := by decide +kernel
theorem dX4_fits_53 : decode cX4_fits 53 = .ok (.fload 5, 2) := by decide +kernel
theorem dX4_fits_55 : decode cX4_fits 55 = .ok (.aload_n 0, 1) := by decide +kernel
theorem dX4_fits_56 : decode cX4_fits 56 = .ok (.getfield 12, 3) := by decide +kernel
theorem dX4_fits_59 : decode cX4_fits 59 = .ok (.iload_n 3, 1) := by decide +kernel
theorem dX4_fits_60 : decode cX4_fits 60 = .ok (.aload_n 1, 1) := by decide +kernel
theorem dX4_fits_61 : decode cX4_fits 61 = .ok (.getfield 64, 3) := by decide +kernel
theorem dX4_fits_64 : decode cX4_fits 64 = .ok (.iload 4, 2) := by decide +kernel
theorem dX4_fits_66 : decode cX4_fits 66 = .ok (.iaload, 1) := by decide +kernel
theorem dX4_fits_67 : decode cX4_fits 67 = .ok (.aload_n 1, 1) := by decide +kernel
theorem dX4_fits_68 : decode cX4_fits 68 = .ok (.getfield 67, 3) := by decide +kernel
theorem dX4_fits_71 : decode cX4_fits 71 = .ok (.iload 4, 2) := by decide +kernel
theorem dX4_fits_73 : decode cX4_fits 73 = .ok (.iaload, 1) := by decide +kernel
theorem dX4_fits_74 : decode cX4_fits 74 = .ok (.invokevirtual 70, 3) := by decide +kernel
theorem dX4_fits_77 : decode cX4_fits 77 = .ok (.fadd, 1) := by decide +kernel
theorem dX4_fits_78 : decode cX4_fits 78 = .ok (.fstore 5, 2) := by decide +kernel
theorem dX4_fits_80 : decode cX4_fits 80 = .ok (.fload 5, 2) := by decide +kernel
theorem dX4_fits_82 : decode cX4_fits 82 = .ok (.invokestatic 74, 3) := by decide +kernel
theorem dX4_fits_85 : decode cX4_fits 85 = .ok (.aload_n 1, 1) := by decide +kernel
theorem dX4_fits_86 : decode cX4_fits 86 = .ok (.getfield 78, 3) := by decide +kernel
theorem dX4_fits_89 : decode cX4_fits 89 = .ok (.iload 4, 2) := by decide +kernel
theorem dX4_fits_91 : decode cX4_fits 91 = .ok (.iaload, 1) := by decide +kernel
theorem dX4_fits_92 : decode cX4_fits 92 = .ok (.isub, 1) := by decide +kernel
theorem dX4_fits_93 : decode cX4_fits 93 = .ok (.invokestatic 81, 3) := by decide +kernel
theorem dX4_fits_96 : decode cX4_fits 96 = .ok (.aload_n 1, 1) := by decide +kernel
theorem dX4_fits_97 : decode cX4_fits 97 = .ok (.getfield 53, 3) := by decide +kernel
theorem dX4_fits_100 : decode cX4_fits 100 = .ok (.iconst 3, 1) := by decide +kernel
theorem dX4_fits_101 : decode cX4_fits 101 = .ok (.iaload, 1) := by decide +kernel
theorem dX4_fits_102 : decode cX4_fits 102 = .ok (.if_icmp .le 5, 3) := by decide +kernel
theorem dX4_fits_105 : decode cX4_fits 105 = .ok (.iconst 0, 1) := by decide +kernel
theorem dX4_fits_106 : decode cX4_fits 106 = .ok (.ireturn, 1) := by decide +kernel
theorem dX4_fits_107 : decode cX4_fits 107 = .ok (.iinc 4 1, 3) := by decide +kernel
theorem dX4_fits_110 : decode cX4_fits 110 = .ok (.goto (-96), 3) := by decide +kernel
theorem dX4_fits_113 : decode cX4_fits 113 = .ok (.iconst 1, 1) := by decide +kernel
theorem dX4_fits_114 : decode cX4_fits 114 = .ok (.ireturn, 1) := by decide +kernel
set_option maxRecDepth 20000 in
theorem ggX4_readBy_X1_follow : GoodIn wsX4_readBy wsX1_follow := goodIn_r _ [5, 6, 7, 8, 9, 10, 11, 42, 43, 44] (by decide +kernel) (by decide +kernel)
set_option maxRecDepth 20000 in
theorem gX4_readBy_X1_follow_n56 : GoodIn wsX4_readBy (wsX1_follow) := ggX4_readBy_X1_follow
set_option maxRecDepth 20000 in
theorem ggX4_readBy_X1_warmthBy : GoodIn wsX4_readBy wsX1_warmthBy := goodIn_r _ [14, 15, 16, 11, 6, 17, 18, 19, 20, 21, 22, 23, 42, 43, 44] (by decide +kernel) (by decide +kernel)
set_option maxRecDepth 20000 in
theorem gX4_readBy_X1_warmthBy_n70 : GoodIn wsX4_readBy (wsX1_warmthBy) := ggX4_readBy_X1_warmthBy
set_option maxRecDepth 20000 in
theorem ggX4_readBy_X5_readOf : GoodIn wsX4_readBy wsX5_readOf := goodIn_r _ [25, 26] (by decide +kernel) (by decide +kernel)
set_option maxRecDepth 20000 in
theorem gX4_readBy_X5_readOf_n74 : GoodIn wsX4_readBy (wsX5_readOf) := ggX4_readBy_X5_readOf
theorem dX4_readBy_0 : decode cX4_readBy 0 = .ok (.aload_n 0, 1) := by decide +kernel
theorem dX4_readBy_1 : decode cX4_readBy 1 = .ok (.getfield 12, 3) := by decide +kernel
theorem dX4_readBy_4 : decode cX4_readBy 4 = .ok (.aload_n 1, 1) := by decide +kernel
theorem dX4_readBy_5 : decode cX4_readBy 5 = .ok (.getfield 53, 3) := by decide +kernel
theorem dX4_readBy_8 : decode cX4_readBy 8 = .ok (.invokevirtual 56, 3) := by decide +kernel
theorem dX4_readBy_11 : decode cX4_readBy 11 = .ok (.aload_n 0, 1) := by decide +kernel
theorem dX4_readBy_12 : decode cX4_readBy 12 = .ok (.getfield 12, 3) := by decide +kernel
theorem dX4_readBy_15 : decode cX4_readBy 15 = .ok (.iload_n 2, 1) := by decide +kernel
theorem dX4_readBy_16 : decode cX4_readBy 16 = .ok (.aload_n 1, 1) := by decide +kernel
theorem dX4_readBy_17 : decode cX4_readBy 17 = .ok (.getfield 85, 3) := by decide +kernel
theorem dX4_readBy_20 : decode cX4_readBy 20 = .ok (.iload_n 3, 1) := by decide +kernel
theorem dX4_readBy_21 : decode cX4_readBy 21 = .ok (.invokevirtual 70, 3) := by decide +kernel
theorem dX4_readBy_24 : decode cX4_readBy 24 = .ok (.invokestatic 74, 3) := by decide +kernel
theorem dX4_readBy_27 : decode cX4_readBy 27 = .ok (.ireturn, 1) := by decide +kernel
set_option maxRecDepth 20000 in
theorem ggX5_init_X0_init : GoodIn wsX5_init wsX0_init := goodIn_r _ [25, 26, 2, 3, 27, 28, 29, 30, 31, 32, 33, 34, 35, 36, 37, 38, 39, 40, 41, 42, 43, 44, 45, 72, 73, 74, 75, 76, 77, 78, 79, 80, 81, 82, 83, 84] (by decide +kernel) (by decide +kernel)
set_option maxRecDepth 20000 in
theorem gX5_init_X0_init_n9 : GoodIn wsX5_init (wsX0_init) := ggX5_init_X0_init
set_option maxRecDepth 20000 in
theorem ggX5_init_X4_init : GoodIn wsX5_init wsX4_init := goodIn_r _ [47, 48, 2, 3, 49, 50, 51, 52, 27, 53, 54, 55, 56, 57, 58, 59, 60, 98, 99, 100, 92, 93] (by decide +kernel) (by decide +kernel)
set_option maxRecDepth 20000 in
theorem gX5_init_X4_init_n21 : GoodIn wsX5_init (wsX4_init) := ggX5_init_X4_init
set_option maxRecDepth 20000 in
theorem ggX5_init_X3_init : GoodIn wsX5_init wsX3_init := goodIn_r _ [62, 63, 2, 3, 64, 65, 66, 5, 6, 24, 25, 26, 27, 28, 29, 30, 31, 32, 33, 34, 35, 36, 37, 38, 39, 40, 41, 42, 43, 44, 45, 94, 95, 72, 73, 74, 75, 76, 77, 78, 79, 80, 81, 82, 83, 84] (by decide +kernel) (by decide +kernel)
set_option maxRecDepth 20000 in
theorem gX5_init_X3_init_n28 : GoodIn wsX5_init (wsX3_init) := ggX5_init_X3_init
set_option maxRecDepth 20000 in
theorem ggX5_init_X2_init : GoodIn wsX5_init wsX2_init := goodIn_r _ [68, 69, 2, 3, 27, 70, 71, 96, 97] (by decide +kernel) (by decide +kernel)
set_option maxRecDepth 20000 in
theorem gX5_init_X2_init_n35 : GoodIn wsX5_init (wsX2_init) := ggX5_init_X2_init
theorem dX5_init_0 : decode cX5_init 0 = .ok (.aload_n 0, 1) := by decide +kernel
theorem dX5_init_1 : decode cX5_init 1 = .ok (.invokespecial 1, 3) := by decide +kernel
theorem dX5_init_4 : decode cX5_init 4 = .ok (.aload_n 0, 1) := by decide +kernel
theorem dX5_init_5 : decode cX5_init 5 = .ok (.new 7, 3) := by decide +kernel
theorem dX5_init_8 : decode cX5_init 8 = .ok (.dup, 1) := by decide +kernel
theorem dX5_init_9 : decode cX5_init 9 = .ok (.invokespecial 9, 3) := by decide +kernel
theorem dX5_init_12 : decode cX5_init 12 = .ok (.putfield 10, 3) := by decide +kernel
theorem dX5_init_15 : decode cX5_init 15 = .ok (.aload_n 0, 1) := by decide +kernel
theorem dX5_init_16 : decode cX5_init 16 = .ok (.new 7, 3) := by decide +kernel
theorem dX5_init_19 : decode cX5_init 19 = .ok (.dup, 1) := by decide +kernel
theorem dX5_init_20 : decode cX5_init 20 = .ok (.invokespecial 9, 3) := by decide +kernel
theorem dX5_init_23 : decode cX5_init 23 = .ok (.putfield 16, 3) := by decide +kernel
theorem dX5_init_26 : decode cX5_init 26 = .ok (.aload_n 0, 1) := by decide +kernel
theorem dX5_init_27 : decode cX5_init 27 = .ok (.new 19, 3) := by decide +kernel
theorem dX5_init_30 : decode cX5_init 30 = .ok (.dup, 1) := by decide +kernel
theorem dX5_init_31 : decode cX5_init 31 = .ok (.invokespecial 21, 3) := by decide +kernel
theorem dX5_init_34 : decode cX5_init 34 = .ok (.putfield 22, 3) := by decide +kernel
theorem dX5_init_37 : decode cX5_init 37 = .ok (.aload_n 0, 1) := by decide +kernel
theorem dX5_init_38 : decode cX5_init 38 = .ok (.new 26, 3) := by decide +kernel
theorem dX5_init_41 : decode cX5_init 41 = .ok (.dup, 1) := by decide +kernel
theorem dX5_init_42 : decode cX5_init 42 = .ok (.invokespecial 28, 3) := by decide +kernel
theorem dX5_init_45 : decode cX5_init 45 = .ok (.putfield 29, 3) := by decide +kernel
theorem dX5_init_48 : decode cX5_init 48 = .ok (.aload_n 0, 1) := by decide +kernel
theorem dX5_init_49 : decode cX5_init 49 = .ok (.new 33, 3) := by decide +kernel
theorem dX5_init_52 : decode cX5_init 52 = .ok (.dup, 1) := by decide +kernel
theorem dX5_init_53 : decode cX5_init 53 = .ok (.invokespecial 35, 3) := by decide +kernel
theorem dX5_init_56 : decode cX5_init 56 = .ok (.putfield 36, 3) := by decide +kernel
theorem dX5_init_59 : decode cX5_init 59 = .ok (.aload_n 0, 1) := by decide +kernel
theorem dX5_init_60 : decode cX5_init 60 = .ok (.iconst 2, 1) := by decide +kernel
theorem dX5_init_61 : decode cX5_init 61 = .ok (.anewarray 7, 3) := by decide +kernel
theorem dX5_init_64 : decode cX5_init 64 = .ok (.putfield 40, 3) := by decide +kernel
theorem dX5_init_67 : decode cX5_init 67 = .ok (.aload_n 0, 1) := by decide +kernel
theorem dX5_init_68 : decode cX5_init 68 = .ok (.iconst 2, 1) := by decide +kernel
theorem dX5_init_69 : decode cX5_init 69 = .ok (.newarray .boolean, 2) := by decide +kernel
theorem dX5_init_71 : decode cX5_init 71 = .ok (.putfield 44, 3) := by decide +kernel
theorem dX5_init_74 : decode cX5_init 74 = .ok (.iconst 0, 1) := by decide +kernel
theorem dX5_init_75 : decode cX5_init 75 = .ok (.istore_n 1, 1) := by decide +kernel
theorem dX5_init_76 : decode cX5_init 76 = .ok (.iload_n 1, 1) := by decide +kernel
theorem dX5_init_77 : decode cX5_init 77 = .ok (.iconst 2, 1) := by decide +kernel
theorem dX5_init_78 : decode cX5_init 78 = .ok (.if_icmp .ge 22, 3) := by decide +kernel
theorem dX5_init_81 : decode cX5_init 81 = .ok (.aload_n 0, 1) := by decide +kernel
theorem dX5_init_82 : decode cX5_init 82 = .ok (.getfield 40, 3) := by decide +kernel
theorem dX5_init_85 : decode cX5_init 85 = .ok (.iload_n 1, 1) := by decide +kernel
theorem dX5_init_86 : decode cX5_init 86 = .ok (.new 7, 3) := by decide +kernel
theorem dX5_init_89 : decode cX5_init 89 = .ok (.dup, 1) := by decide +kernel
theorem dX5_init_90 : decode cX5_init 90 = .ok (.invokespecial 9, 3) := by decide +kernel
theorem dX5_init_93 : decode cX5_init 93 = .ok (.aastore, 1) := by decide +kernel
theorem dX5_init_94 : decode cX5_init 94 = .ok (.iinc 1 1, 3) := by decide +kernel
theorem dX5_init_97 : decode cX5_init 97 = .ok (.goto (-21), 3) := by decide +kernel
theorem dX5_init_100 : decode cX5_init 100 = .ok (.return_, 1) := by decide +kernel
set_option maxRecDepth 20000 in
theorem ggX5_set_X3_prepare : GoodIn wsX5_set wsX3_prepare := goodIn_r _ [6, 7, 8, 9, 10, 11, 12, 13, 14, 15, 16, 17, 18, 19, 20, 21, 22, 23, 24, 25, 26, 27, 28, 46, 47, 48, 49, 50, 51, 52, 53, 54, 55, 56, 57, 58, 59, 60] (by decide +kernel) (by decide +kernel)
set_option maxRecDepth 20000 in
theorem gX5_set_X3_prepare_n48 : GoodIn wsX5_set (wsX3_prepare) := ggX5_set_X3_prepare
set_option maxRecDepth 20000 in
theorem ggX5_set_X0_change : GoodIn wsX5_set wsX0_change := goodIn_r _ [31, 13, 32, 33, 34, 10, 35, 23, 25, 24, 48, 49, 50, 51, 52, 53, 54, 55, 56, 57, 58, 59, 60] (by decide +kernel) (by decide +kernel)
set_option maxRecDepth 20000 in
theorem gX5_set_X0_change_n52 : GoodIn wsX5_set (wsX0_change) := ggX5_set_X0_change
set_option maxRecDepth 20000 in
theorem ggX5_set_X3_kept : GoodIn wsX5_set wsX3_kept := goodIn_r _ [38, 8, 7, 46, 47] (by decide +kernel) (by decide +kernel)
set_option maxRecDepth 20000 in
theorem gX5_set_X3_kept_n56 : GoodIn wsX5_set (wsX3_kept) := ggX5_set_X3_kept
theorem dX5_set_0 : decode cX5_set 0 = .ok (.aload_n 0, 1) := by decide +kernel
theorem dX5_set_1 : decode cX5_set 1 = .ok (.getfield 29, 3) := by decide +kernel
theorem dX5_set_4 : decode cX5_set 4 = .ok (.aload_n 0, 1) := by decide +kernel
theorem dX5_set_5 : decode cX5_set 5 = .ok (.getfield 10, 3) := by decide +kernel
theorem dX5_set_8 : decode cX5_set 8 = .ok (.invokevirtual 48, 3) := by decide +kernel
theorem dX5_set_11 : decode cX5_set 11 = .ok (.aload_n 0, 1) := by decide +kernel
theorem dX5_set_12 : decode cX5_set 12 = .ok (.getfield 29, 3) := by decide +kernel
theorem dX5_set_15 : decode cX5_set 15 = .ok (.aload_n 0, 1) := by decide +kernel
theorem dX5_set_16 : decode cX5_set 16 = .ok (.getfield 10, 3) := by decide +kernel
theorem dX5_set_19 : decode cX5_set 19 = .ok (.iload_n 1, 1) := by decide +kernel
theorem dX5_set_20 : decode cX5_set 20 = .ok (.iload_n 2, 1) := by decide +kernel
theorem dX5_set_21 : decode cX5_set 21 = .ok (.invokevirtual 52, 3) := by decide +kernel
theorem dX5_set_24 : decode cX5_set 24 = .ok (.invokevirtual 56, 3) := by decide +kernel
theorem dX5_set_27 : decode cX5_set 27 = .ok (.ireturn, 1) := by decide +kernel
set_option maxRecDepth 20000 in
theorem ggX5_track_X3_prepare : GoodIn wsX5_track wsX3_prepare := goodIn_r _ [6, 7, 8, 9, 10, 11, 12, 13, 14, 15, 16, 17, 18, 19, 20, 21, 22, 23, 24, 25, 26, 27, 28, 60, 61, 62, 63, 64, 65, 66, 67, 68, 69, 70, 71, 72, 73, 74] (by decide +kernel) (by decide +kernel)
set_option maxRecDepth 20000 in
theorem gX5_track_X3_prepare_n48 : GoodIn wsX5_track (wsX3_prepare) := ggX5_track_X3_prepare
set_option maxRecDepth 20000 in
theorem ggX5_track_X0_lay : GoodIn wsX5_track wsX0_lay := goodIn_r _ [31, 18, 32, 33, 34, 35, 36, 37, 38, 39, 10, 40, 20, 21, 22, 41, 42, 43, 44, 45, 46, 47, 48, 49, 23, 25, 24, 62, 63, 64, 65, 66, 67, 68, 69, 70, 71, 72, 73, 74] (by decide +kernel) (by decide +kernel)
set_option maxRecDepth 20000 in
theorem gX5_track_X0_lay_n60 : GoodIn wsX5_track (wsX0_lay) := ggX5_track_X0_lay
set_option maxRecDepth 20000 in
theorem ggX5_track_X3_kept : GoodIn wsX5_track wsX3_kept := goodIn_r _ [52, 8, 7, 60, 61] (by decide +kernel) (by decide +kernel)
set_option maxRecDepth 20000 in
theorem gX5_track_X3_kept_n56 : GoodIn wsX5_track (wsX3_kept) := ggX5_track_X3_kept
theorem dX5_track_0 : decode cX5_track 0 = .ok (.aload_n 0, 1) := by decide +kernel
theorem dX5_track_1 : decode cX5_track 1 = .ok (.getfield 29, 3) := by decide +kernel
theorem dX5_track_4 : decode cX5_track 4 = .ok (.aload_n 0, 1) := by decide +kernel
theorem dX5_track_5 : decode cX5_track 5 = .ok (.getfield 10, 3) := by decide +kernel
theorem dX5_track_8 : decode cX5_track 8 = .ok (.invokevirtual 48, 3) := by decide +kernel
theorem dX5_track_11 : decode cX5_track 11 = .ok (.aload_n 0, 1) := by decide +kernel
theorem dX5_track_12 : decode cX5_track 12 = .ok (.getfield 29, 3) := by decide +kernel
theorem dX5_track_15 : decode cX5_track 15 = .ok (.aload_n 0, 1) := by decide +kernel
theorem dX5_track_16 : decode cX5_track 16 = .ok (.getfield 10, 3) := by decide +kernel
theorem dX5_track_19 : decode cX5_track 19 = .ok (.iload_n 1, 1) := by decide +kernel
theorem dX5_track_20 : decode cX5_track 20 = .ok (.iload_n 2, 1) := by decide +kernel
theorem dX5_track_21 : decode cX5_track 21 = .ok (.iload_n 3, 1) := by decide +kernel
theorem dX5_track_22 : decode cX5_track 22 = .ok (.invokevirtual 60, 3) := by decide +kernel
theorem dX5_track_25 : decode cX5_track 25 = .ok (.invokevirtual 56, 3) := by decide +kernel
theorem dX5_track_28 : decode cX5_track 28 = .ok (.ireturn, 1) := by decide +kernel
set_option maxRecDepth 20000 in
theorem ggX5_touch_X3_prepare : GoodIn wsX5_touch wsX3_prepare := goodIn_r _ [6, 7, 8, 9, 10, 11, 12, 13, 14, 15, 16, 17, 18, 19, 20, 21, 22, 23, 24, 25, 26, 27, 28, 61, 62, 63, 64, 65, 66, 67, 68, 69, 70, 71, 72, 73, 74, 75] (by decide +kernel) (by decide +kernel)
set_option maxRecDepth 20000 in
theorem gX5_touch_X3_prepare_n48 : GoodIn wsX5_touch (wsX3_prepare) := ggX5_touch_X3_prepare
set_option maxRecDepth 20000 in
theorem ggX5_touch_X0_join : GoodIn wsX5_touch wsX0_join := goodIn_r _ [31, 18, 20, 21, 22, 32, 33, 34, 35, 36, 37, 38, 39, 10, 40, 41, 42, 43, 44, 45, 46, 47, 48, 49, 50, 23, 25, 24, 63, 64, 65, 66, 67, 68, 69, 70, 71, 72, 73, 74, 75] (by decide +kernel) (by decide +kernel)
set_option maxRecDepth 20000 in
theorem gX5_touch_X0_join_n64 : GoodIn wsX5_touch (wsX0_join) := ggX5_touch_X0_join
set_option maxRecDepth 20000 in
theorem ggX5_touch_X3_kept : GoodIn wsX5_touch wsX3_kept := goodIn_r _ [53, 8, 7, 61, 62] (by decide +kernel) (by decide +kernel)
set_option maxRecDepth 20000 in
theorem gX5_touch_X3_kept_n56 : GoodIn wsX5_touch (wsX3_kept) := ggX5_touch_X3_kept
theorem dX5_touch_0 : decode cX5_touch 0 = .ok (.aload_n 0, 1) := by decide +kernel
theorem dX5_touch_1 : decode cX5_touch 1 = .ok (.getfield 29, 3) := by decide +kernel
theorem dX5_touch_4 : decode cX5_touch 4 = .ok (.aload_n 0, 1) := by decide +kernel
