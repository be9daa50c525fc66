theorem dX2_endOfPlaces_36 : decode cX2_endOfPlaces 36 = .ok (.iload_n 2, 1) := by decide +kernel
theorem dX2_endOfPlaces_37 : decode cX2_endOfPlaces 37 = .ok (.ireturn, 1) := by decide +kernel
set_option maxRecDepth 20000 in
theorem ggX2_endOfNumber_X2_isDigit : GoodIn wsX2_endOfNumber wsX2_isDigit := goodIn_r _ [5, 6, 7, 8, 4, 9, 10, 11, 12, 13] (by decide +kernel) (by decide +kernel)
set_option maxRecDepth 20000 in
theorem gX2_endOfNumber_X2_isDigit : GoodIn wsX2_endOfNumber (wsV RX2 61 RX2 yX2_isDigit wsX2_isDigit) := goodIn_app (goodIn_of _ (by decide +kernel)) ggX2_endOfNumber_X2_isDigit
set_option maxRecDepth 20000 in
theorem ggX2_endOfNumber_X2_codeAt : GoodIn wsX2_endOfNumber wsX2_codeAt := goodIn_r _ [9, 10, 11, 12, 13] (by decide +kernel) (by decide +kernel)
set_option maxRecDepth 20000 in
theorem gX2_endOfNumber_X2_codeAt : GoodIn wsX2_endOfNumber (wsV RX2 25 RX2 yX2_codeAt wsX2_codeAt) := goodIn_app (goodIn_of _ (by decide +kernel)) ggX2_endOfNumber_X2_codeAt
theorem dX2_endOfNumber_0 : decode cX2_endOfNumber 0 = .ok (.aload_n 0, 1) := by decide +kernel
theorem dX2_endOfNumber_1 : decode cX2_endOfNumber 1 = .ok (.iload_n 1, 1) := by decide +kernel
theorem dX2_endOfNumber_2 : decode cX2_endOfNumber 2 = .ok (.invokevirtual 61, 3) := by decide +kernel
theorem dX2_endOfNumber_5 : decode cX2_endOfNumber 5 = .ok (.ifCond .ne 7, 3) := by decide +kernel
theorem dX2_endOfNumber_8 : decode cX2_endOfNumber 8 = .ok (.iload_n 1, 1) := by decide +kernel
theorem dX2_endOfNumber_9 : decode cX2_endOfNumber 9 = .ok (.iconst (-1), 1) := by decide +kernel
theorem dX2_endOfNumber_10 : decode cX2_endOfNumber 10 = .ok (.ixor, 1) := by decide +kernel
theorem dX2_endOfNumber_11 : decode cX2_endOfNumber 11 = .ok (.ireturn, 1) := by decide +kernel
theorem dX2_endOfNumber_12 : decode cX2_endOfNumber 12 = .ok (.aload_n 0, 1) := by decide +kernel
theorem dX2_endOfNumber_13 : decode cX2_endOfNumber 13 = .ok (.iload_n 1, 1) := by decide +kernel
theorem dX2_endOfNumber_14 : decode cX2_endOfNumber 14 = .ok (.invokevirtual 25, 3) := by decide +kernel
theorem dX2_endOfNumber_17 : decode cX2_endOfNumber 17 = .ok (.bipush 48, 2) := by decide +kernel
theorem dX2_endOfNumber_19 : decode cX2_endOfNumber 19 = .ok (.if_icmp .eq 19, 3) := by decide +kernel
theorem dX2_endOfNumber_22 : decode cX2_endOfNumber 22 = .ok (.aload_n 0, 1) := by decide +kernel
theorem dX2_endOfNumber_23 : decode cX2_endOfNumber 23 = .ok (.iload_n 1, 1) := by decide +kernel
theorem dX2_endOfNumber_24 : decode cX2_endOfNumber 24 = .ok (.iconst 1, 1) := by decide +kernel
theorem dX2_endOfNumber_25 : decode cX2_endOfNumber 25 = .ok (.iadd, 1) := by decide +kernel
theorem dX2_endOfNumber_26 : decode cX2_endOfNumber 26 = .ok (.invokevirtual 61, 3) := by decide +kernel
theorem dX2_endOfNumber_29 : decode cX2_endOfNumber 29 = .ok (.ifCond .eq 9, 3) := by decide +kernel
theorem dX2_endOfNumber_32 : decode cX2_endOfNumber 32 = .ok (.iload_n 1, 1) := by decide +kernel
theorem dX2_endOfNumber_33 : decode cX2_endOfNumber 33 = .ok (.iconst 2, 1) := by decide +kernel
theorem dX2_endOfNumber_34 : decode cX2_endOfNumber 34 = .ok (.iadd, 1) := by decide +kernel
theorem dX2_endOfNumber_35 : decode cX2_endOfNumber 35 = .ok (.goto 6, 3) := by decide +kernel
theorem dX2_endOfNumber_38 : decode cX2_endOfNumber 38 = .ok (.iload_n 1, 1) := by decide +kernel
theorem dX2_endOfNumber_39 : decode cX2_endOfNumber 39 = .ok (.iconst 1, 1) := by decide +kernel
theorem dX2_endOfNumber_40 : decode cX2_endOfNumber 40 = .ok (.iadd, 1) := by decide +kernel
theorem dX2_endOfNumber_41 : decode cX2_endOfNumber 41 = .ok (.ireturn, 1) := by decide +kernel
set_option maxRecDepth 20000 in
theorem ggX2_numberIn_X2_digitAt : GoodIn wsX2_numberIn wsX2_digitAt := goodIn_r _ [5, 6, 7, 8, 4, 9, 10, 11, 12, 13] (by decide +kernel) (by decide +kernel)
set_option maxRecDepth 20000 in
theorem gX2_numberIn_X2_digitAt : GoodIn wsX2_numberIn (wsV RX2 68 RX2 yX2_digitAt wsX2_digitAt) := goodIn_app (goodIn_of _ (by decide +kernel)) ggX2_numberIn_X2_digitAt
theorem dX2_numberIn_0 : decode cX2_numberIn 0 = .ok (.iconst 0, 1) := by decide +kernel
theorem dX2_numberIn_1 : decode cX2_numberIn 1 = .ok (.istore_n 3, 1) := by decide +kernel
theorem dX2_numberIn_2 : decode cX2_numberIn 2 = .ok (.iload_n 1, 1) := by decide +kernel
theorem dX2_numberIn_3 : decode cX2_numberIn 3 = .ok (.istore 4, 2) := by decide +kernel
theorem dX2_numberIn_5 : decode cX2_numberIn 5 = .ok (.iload 4, 2) := by decide +kernel
theorem dX2_numberIn_7 : decode cX2_numberIn 7 = .ok (.iload_n 2, 1) := by decide +kernel
theorem dX2_numberIn_8 : decode cX2_numberIn 8 = .ok (.if_icmp .ge 21, 3) := by decide +kernel
theorem dX2_numberIn_11 : decode cX2_numberIn 11 = .ok (.bipush 10, 2) := by decide +kernel
theorem dX2_numberIn_13 : decode cX2_numberIn 13 = .ok (.iload_n 3, 1) := by decide +kernel
theorem dX2_numberIn_14 : decode cX2_numberIn 14 = .ok (.imul, 1) := by decide +kernel
theorem dX2_numberIn_15 : decode cX2_numberIn 15 = .ok (.aload_n 0, 1) := by decide +kernel
theorem dX2_numberIn_16 : decode cX2_numberIn 16 = .ok (.iload 4, 2) := by decide +kernel
theorem dX2_numberIn_18 : decode cX2_numberIn 18 = .ok (.invokevirtual 68, 3) := by decide +kernel
theorem dX2_numberIn_21 : decode cX2_numberIn 21 = .ok (.iadd, 1) := by decide +kernel
theorem dX2_numberIn_22 : decode cX2_numberIn 22 = .ok (.istore_n 3, 1) := by decide +kernel
theorem dX2_numberIn_23 : decode cX2_numberIn 23 = .ok (.iinc 4 1, 3) := by decide +kernel
theorem dX2_numberIn_26 : decode cX2_numberIn 26 = .ok (.goto (-21), 3) := by decide +kernel
theorem dX2_numberIn_29 : decode cX2_numberIn 29 = .ok (.iload_n 3, 1) := by decide +kernel
theorem dX2_numberIn_30 : decode cX2_numberIn 30 = .ok (.ireturn, 1) := by decide +kernel
set_option maxRecDepth 20000 in
theorem ggX2_ordersIn_X2_codeAt : GoodIn wsX2_ordersIn wsX2_codeAt := goodIn_r _ [5, 6, 7, 8, 9] (by decide +kernel) (by decide +kernel)
set_option maxRecDepth 20000 in
theorem gX2_ordersIn_X2_codeAt : GoodIn wsX2_ordersIn (wsV RX2 25 RX2 yX2_codeAt wsX2_codeAt) := goodIn_app (goodIn_of _ (by decide +kernel)) ggX2_ordersIn_X2_codeAt
theorem dX2_ordersIn_0 : decode cX2_ordersIn 0 = .ok (.aload_n 0, 1) := by decide +kernel
theorem dX2_ordersIn_1 : decode cX2_ordersIn 1 = .ok (.iload_n 1, 1) := by decide +kernel
theorem dX2_ordersIn_2 : decode cX2_ordersIn 2 = .ok (.invokevirtual 25, 3) := by decide +kernel
theorem dX2_ordersIn_5 : decode cX2_ordersIn 5 = .ok (.bipush 116, 2) := by decide +kernel
theorem dX2_ordersIn_7 : decode cX2_ordersIn 7 = .ok (.if_icmp .ne 13, 3) := by decide +kernel
theorem dX2_ordersIn_10 : decode cX2_ordersIn 10 = .ok (.iload_n 2, 1) := by decide +kernel
theorem dX2_ordersIn_11 : decode cX2_ordersIn 11 = .ok (.iload_n 1, 1) := by decide +kernel
theorem dX2_ordersIn_12 : decode cX2_ordersIn 12 = .ok (.isub, 1) := by decide +kernel
theorem dX2_ordersIn_13 : decode cX2_ordersIn 13 = .ok (.iconst 2, 1) := by decide +kernel
theorem dX2_ordersIn_14 : decode cX2_ordersIn 14 = .ok (.isub, 1) := by decide +kernel
theorem dX2_ordersIn_15 : decode cX2_ordersIn 15 = .ok (.iconst 2, 1) := by decide +kernel
theorem dX2_ordersIn_16 : decode cX2_ordersIn 16 = .ok (.idiv, 1) := by decide +kernel
theorem dX2_ordersIn_17 : decode cX2_ordersIn 17 = .ok (.goto 4, 3) := by decide +kernel
theorem dX2_ordersIn_20 : decode cX2_ordersIn 20 = .ok (.iconst 1, 1) := by decide +kernel
theorem dX2_ordersIn_21 : decode cX2_ordersIn 21 = .ok (.ireturn, 1) := by decide +kernel
set_option maxRecDepth 20000 in
theorem ggX3_init_X0_init : GoodIn wsX3_init wsX0_init := goodIn_r _ [10, 11, 2, 3, 12, 13, 14, 15, 16, 17, 18, 19, 20, 21, 22, 23, 24, 25, 26, 27, 28, 29, 30, 33, 34, 35, 36, 37, 38, 39, 40, 41, 42, 43, 44, 45] (by decide +kernel) (by decide +kernel)
set_option maxRecDepth 20000 in
theorem gX3_init_X0_init_n21 : GoodIn wsX3_init (wsX0_init) := ggX3_init_X0_init
theorem dX3_init_0 : decode cX3_init 0 = .ok (.aload_n 0, 1) := by decide +kernel
theorem dX3_init_1 : decode cX3_init 1 = .ok (.invokespecial 3, 3) := by decide +kernel
theorem dX3_init_4 : decode cX3_init 4 = .ok (.aload_n 0, 1) := by decide +kernel
theorem dX3_init_5 : decode cX3_init 5 = .ok (.bipush 7, 2) := by decide +kernel
theorem dX3_init_7 : decode cX3_init 7 = .ok (.anewarray 9, 3) := by decide +kernel
theorem dX3_init_10 : decode cX3_init 10 = .ok (.putfield 11, 3) := by decide +kernel
theorem dX3_init_13 : decode cX3_init 13 = .ok (.aload_n 0, 1) := by decide +kernel
theorem dX3_init_14 : decode cX3_init 14 = .ok (.iconst 0, 1) := by decide +kernel
theorem dX3_init_15 : decode cX3_init 15 = .ok (.putfield 17, 3) := by decide +kernel
theorem dX3_init_18 : decode cX3_init 18 = .ok (.iconst 0, 1) := by decide +kernel
theorem dX3_init_19 : decode cX3_init 19 = .ok (.istore_n 1, 1) := by decide +kernel
theorem dX3_init_20 : decode cX3_init 20 = .ok (.iload_n 1, 1) := by decide +kernel
theorem dX3_init_21 : decode cX3_init 21 = .ok (.bipush 6, 2) := by decide +kernel
theorem dX3_init_23 : decode cX3_init 23 = .ok (.if_icmp .gt 22, 3) := by decide +kernel
theorem dX3_init_26 : decode cX3_init 26 = .ok (.aload_n 0, 1) := by decide +kernel
theorem dX3_init_27 : decode cX3_init 27 = .ok (.getfield 11, 3) := by decide +kernel
theorem dX3_init_30 : decode cX3_init 30 = .ok (.iload_n 1, 1) := by decide +kernel
theorem dX3_init_31 : decode cX3_init 31 = .ok (.new 9, 3) := by decide +kernel
theorem dX3_init_34 : decode cX3_init 34 = .ok (.dup, 1) := by decide +kernel
theorem dX3_init_35 : decode cX3_init 35 = .ok (.invokespecial 21, 3) := by decide +kernel
theorem dX3_init_38 : decode cX3_init 38 = .ok (.aastore, 1) := by decide +kernel
theorem dX3_init_39 : decode cX3_init 39 = .ok (.iinc 1 1, 3) := by decide +kernel
theorem dX3_init_42 : decode cX3_init 42 = .ok (.goto (-22), 3) := by decide +kernel
theorem dX3_init_45 : decode cX3_init 45 = .ok (.return_, 1) := by decide +kernel
set_option maxRecDepth 20000 in
theorem ggX3_prepare_X0_takeOver : GoodIn wsX3_prepare wsX0_takeOver := goodIn_r _ [6, 7, 8, 9, 10, 11, 12, 13, 14, 15, 16, 17, 18, 19, 20, 21, 22, 25, 26, 27, 28, 29, 30, 31, 32, 33, 34, 35, 36, 37] (by decide +kernel) (by decide +kernel)
set_option maxRecDepth 20000 in
theorem gX3_prepare_X0_takeOver_n22 : GoodIn wsX3_prepare (wsX0_takeOver) := ggX3_prepare_X0_takeOver
theorem dX3_prepare_0 : decode cX3_prepare 0 = .ok (.aload_n 0, 1) := by decide +kernel
theorem dX3_prepare_1 : decode cX3_prepare 1 = .ok (.getfield 11, 3) := by decide +kernel
theorem dX3_prepare_4 : decode cX3_prepare 4 = .ok (.aload_n 0, 1) := by decide +kernel
theorem dX3_prepare_5 : decode cX3_prepare 5 = .ok (.getfield 17, 3) := by decide +kernel
theorem dX3_prepare_8 : decode cX3_prepare 8 = .ok (.aaload, 1) := by decide +kernel
theorem dX3_prepare_9 : decode cX3_prepare 9 = .ok (.aload_n 1, 1) := by decide +kernel
theorem dX3_prepare_10 : decode cX3_prepare 10 = .ok (.invokevirtual 22, 3) := by decide +kernel
theorem dX3_prepare_13 : decode cX3_prepare 13 = .ok (.return_, 1) := by decide +kernel
theorem dX3_kept_0 : decode cX3_kept 0 = .ok (.iload_n 1, 1) := by decide +kernel
theorem dX3_kept_1 : decode cX3_kept 1 = .ok (.ifCond .ge 5, 3) := by decide +kernel
theorem dX3_kept_4 : decode cX3_kept 4 = .ok (.iload_n 1, 1) := by decide +kernel
theorem dX3_kept_5 : decode cX3_kept 5 = .ok (.ireturn, 1) := by decide +kernel
theorem dX3_kept_6 : decode cX3_kept 6 = .ok (.aload_n 0, 1) := by decide +kernel
theorem dX3_kept_7 : decode cX3_kept 7 = .ok (.getfield 17, 3) := by decide +kernel
theorem dX3_kept_10 : decode cX3_kept 10 = .ok (.bipush 6, 2) := by decide +kernel
theorem dX3_kept_12 : decode cX3_kept 12 = .ok (.if_icmp .ge 15, 3) := by decide +kernel
theorem dX3_kept_15 : decode cX3_kept 15 = .ok (.aload_n 0, 1) := by decide +kernel
theorem dX3_kept_16 : decode cX3_kept 16 = .ok (.dup, 1) := by decide +kernel
theorem dX3_kept_17 : decode cX3_kept 17 = .ok (.getfield 17, 3) := by decide +kernel
theorem dX3_kept_20 : decode cX3_kept 20 = .ok (.iconst 1, 1) := by decide +kernel
theorem dX3_kept_21 : decode cX3_kept 21 = .ok (.iadd, 1) := by decide +kernel
theorem dX3_kept_22 : decode cX3_kept 22 = .ok (.putfield 17, 3) := by decide +kernel
theorem dX3_kept_25 : decode cX3_kept 25 = .ok (.iload_n 1, 1) := by decide +kernel
theorem dX3_kept_26 : decode cX3_kept 26 = .ok (.ireturn, 1) := by decide +kernel
theorem dX3_kept_27 : decode cX3_kept 27 = .ok (.aload_n 0, 1) := by decide +kernel
theorem dX3_kept_28 : decode cX3_kept 28 = .ok (.getfield 11, 3) := by decide +kernel
theorem dX3_kept_31 : decode cX3_kept 31 = .ok (.iconst 0, 1) := by decide +kernel
theorem dX3_kept_32 : decode cX3_kept 32 = .ok (.aaload, 1) := by decide +kernel
theorem dX3_kept_33 : decode cX3_kept 33 = .ok (.astore_n 2, 1) := by decide +kernel
theorem dX3_kept_34 : decode cX3_kept 34 = .ok (.iconst 0, 1) := by decide +kernel
theorem dX3_kept_35 : decode cX3_kept 35 = .ok (.istore_n 3, 1) := by decide +kernel
theorem dX3_kept_36 : decode cX3_kept 36 = .ok (.iload_n 3, 1) := by decide +kernel
theorem dX3_kept_37 : decode cX3_kept 37 = .ok (.bipush 6, 2) := by decide +kernel
theorem dX3_kept_39 : decode cX3_kept 39 = .ok (.if_icmp .ge 23, 3) := by decide +kernel
theorem dX3_kept_42 : decode cX3_kept 42 = .ok (.aload_n 0, 1) := by decide +kernel
theorem dX3_kept_43 : decode cX3_kept 43 = .ok (.getfield 11, 3) := by decide +kernel
theorem dX3_kept_46 : decode cX3_kept 46 = .ok (.iload_n 3, 1) := by decide +kernel
theorem dX3_kept_47 : decode cX3_kept 47 = .ok (.aload_n 0, 1) := by decide +kernel
theorem dX3_kept_48 : decode cX3_kept 48 = .ok (.getfield 11, 3) := by decide +kernel
theorem dX3_kept_51 : decode cX3_kept 51 = .ok (.iload_n 3, 1) := by decide +kernel
theorem dX3_kept_52 : decode cX3_kept 52 = .ok (.iconst 1, 1) := by decide +kernel
theorem dX3_kept_53 : decode cX3_kept 53 = .ok (.iadd, 1) := by decide +kernel
theorem dX3_kept_54 : decode cX3_kept 54 = .ok (.aaload, 1) := by decide +kernel
theorem dX3_kept_55 : decode cX3_kept 55 = .ok (.aastore, 1) := by decide +kernel
theorem dX3_kept_56 : decode cX3_kept 56 = .ok (.iinc 3 1, 3) := by decide +kernel
theorem dX3_kept_59 : decode cX3_kept 59 = .ok (.goto (-23), 3) := by decide +kernel
theorem dX3_kept_62 : decode cX3_kept 62 = .ok (.aload_n 0, 1) := by decide +kernel
theorem dX3_kept_63 : decode cX3_kept 63 = .ok (.getfield 11, 3) := by decide +kernel
theorem dX3_kept_66 : decode cX3_kept 66 = .ok (.bipush 6, 2) := by decide +kernel
theorem dX3_kept_68 : decode cX3_kept 68 = .ok (.aload_n 2, 1) := by decide +kernel
theorem dX3_kept_69 : decode cX3_kept 69 = .ok (.aastore, 1) := by decide +kernel
theorem dX3_kept_70 : decode cX3_kept 70 = .ok (.iload_n 1, 1) := by decide +kernel
theorem dX3_kept_71 : decode cX3_kept 71 = .ok (.ireturn, 1) := by decide +kernel
set_option maxRecDepth 20000 in
theorem ggX3_goBack_X0_takeOver : GoodIn wsX3_goBack wsX0_takeOver := goodIn_r _ [6, 7, 8, 9, 10, 11, 12, 13, 14, 15, 16, 17, 18, 19, 20, 21, 22, 25, 26, 27, 28, 29, 30, 31, 32, 33, 34, 35, 36, 37] (by decide +kernel) (by decide +kernel)
set_option maxRecDepth 20000 in
theorem gX3_goBack_X0_takeOver_n22 : GoodIn wsX3_goBack (wsX0_takeOver) := ggX3_goBack_X0_takeOver
theorem dX3_goBack_0 : decode cX3_goBack 0 = .ok (.aload_n 0, 1) := by decide +kernel
theorem dX3_goBack_1 : decode cX3_goBack 1 = .ok (.getfield 17, 3) := by decide +kernel
theorem dX3_goBack_4 : decode cX3_goBack 4 = .ok (.ifCond .ne 6, 3) := by decide +kernel
theorem dX3_goBack_7 : decode cX3_goBack 7 = .ok (.bipush (-5), 2) := by decide +kernel
theorem dX3_goBack_9 : decode cX3_goBack 9 = .ok (.ireturn, 1) := by decide +kernel
theorem dX3_goBack_10 : decode cX3_goBack 10 = .ok (.aload_n 0, 1) := by decide +kernel
theorem dX3_goBack_11 : decode cX3_goBack 11 = .ok (.dup, 1) := by decide +kernel
theorem dX3_goBack_12 : decode cX3_goBack 12 = .ok (.getfield 17, 3) := by decide +kernel
theorem dX3_goBack_15 : decode cX3_goBack 15 = .ok (.iconst 1, 1) := by decide +kernel
theorem dX3_goBack_16 : decode cX3_goBack 16 = .ok (.isub, 1) := by decide +kernel
theorem dX3_goBack_17 : decode cX3_goBack 17 = .ok (.putfield 17, 3) := by decide +kernel
theorem dX3_goBack_20 : decode cX3_goBack 20 = .ok (.aload_n 1, 1) := by decide +kernel
theorem dX3_goBack_21 : decode cX3_goBack 21 = .ok (.aload_n 0, 1) := by decide +kernel
theorem dX3_goBack_22 : decode cX3_goBack 22 = .ok (.getfield 11, 3) := by decide +kernel
theorem dX3_goBack_25 : decode cX3_goBack 25 = .ok (.aload_n 0, 1) := by decide +kernel
theorem dX3_goBack_26 : decode cX3_goBack 26 = .ok (.getfield 17, 3) := by decide +kernel
theorem dX3_goBack_29 : decode cX3_goBack 29 = .ok (.aaload, 1) := by decide +kernel
theorem dX3_goBack_30 : decode cX3_goBack 30 = .ok (.invokevirtual 22, 3) := by decide +kernel
theorem dX3_goBack_33 : decode cX3_goBack 33 = .ok (.aload_n 0, 1) := by decide +kernel
theorem dX3_goBack_34 : decode cX3_goBack 34 = .ok (.getfield 17, 3) := by decide +kernel
theorem dX3_goBack_37 : decode cX3_goBack 37 = .ok (.ireturn, 1) := by decide +kernel
set_option maxRecDepth 20000 in
theorem ggX4_init_X1_init : GoodIn wsX4_init wsX1_init := goodIn_r _ [11, 12, 2, 3, 8, 13, 14, 15, 16, 17, 18, 19] (by decide +kernel) (by decide +kernel)
set_option maxRecDepth 20000 in
theorem gX4_init_X1_init_n11 : GoodIn wsX4_init (wsX1_init) := ggX4_init_X1_init
theorem dX4_init_0 : decode cX4_init 0 = .ok (.aload_n 0, 1) := by decide +kernel
theorem dX4_init_1 : decode cX4_init 1 = .ok (.invokespecial 3, 3) := by decide +kernel
theorem dX4_init_4 : decode cX4_init 4 = .ok (.aload_n 0, 1) := by decide +kernel
theorem dX4_init_5 : decode cX4_init 5 = .ok (.new 9, 3) := by decide +kernel
theorem dX4_init_8 : decode cX4_init 8 = .ok (.dup, 1) := by decide +kernel
theorem dX4_init_9 : decode cX4_init 9 = .ok (.invokespecial 11, 3) := by decide +kernel
theorem dX4_init_12 : decode cX4_init 12 = .ok (.putfield 12, 3) := by decide +kernel
theorem dX4_init_15 : decode cX4_init 15 = .ok (.aload_n 0, 1) := by decide +kernel
theorem dX4_init_16 : decode cX4_init 16 = .ok (.bipush 64, 2) := by decide +kernel
theorem dX4_init_18 : decode cX4_init 18 = .ok (.newarray .int, 2) := by decide +kernel
theorem dX4_init_20 : decode cX4_init 20 = .ok (.putfield 18, 3) := by decide +kernel
theorem dX4_init_23 : decode cX4_init 23 = .ok (.return_, 1) := by decide +kernel
set_option maxRecDepth 20000 in
theorem ggX4_couldBe_X0_isSuspect : GoodIn wsX4_couldBe wsX0_isSuspect := goodIn_r _ [4, 5, 6, 7, 8, 9, 10, 11, 2, 12, 13, 48, 49, 50, 51, 52, 53, 54, 55, 56, 57, 58, 59, 60] (by decide +kernel) (by decide +kernel)
set_option maxRecDepth 20000 in
theorem gX4_couldBe_X0_isSuspect_n22 : GoodIn wsX4_couldBe (wsX0_isSuspect) := ggX4_couldBe_X0_isSuspect
set_option maxRecDepth 20000 in
theorem ggX4_couldBe_X4_fits : GoodIn wsX4_couldBe wsX4_fits := goodIn_r _ [18, 19, 20, 21, 22, 23, 24, 25, 26, 27, 28, 29, 30, 31, 32, 33, 34, 35, 36, 37, 38, 39, 7, 40, 41, 42, 43, 44, 45, 46, 47, 61, 62, 48, 49, 50, 51, 52, 53, 54, 55, 56, 57, 58, 59, 60, 63, 64, 65] (by decide +kernel) (by decide +kernel)
set_option maxRecDepth 20000 in
theorem gX4_couldBe_X4_fits : GoodIn wsX4_couldBe (wsV RX4 28 RX4 yX4_fits wsX4_fits) := goodIn_app (goodIn_of _ (by decide +kernel)) ggX4_couldBe_X4_fits
theorem dX4_couldBe_0 : decode cX4_couldBe 0 = .ok (.aload_n 1, 1) := by decide +kernel
theorem dX4_couldBe_1 : decode cX4_couldBe 1 = .ok (.iload_n 2, 1) := by decide +kernel
theorem dX4_couldBe_2 : decode cX4_couldBe 2 = .ok (.invokevirtual 22, 3) := by decide +kernel
theorem dX4_couldBe_5 : decode cX4_couldBe 5 = .ok (.ifCond .eq 18, 3) := by decide +kernel
theorem dX4_couldBe_8 : decode cX4_couldBe 8 = .ok (.aload_n 0, 1) := by decide +kernel
theorem dX4_couldBe_9 : decode cX4_couldBe 9 = .ok (.aload_n 1, 1) := by decide +kernel
theorem dX4_couldBe_10 : decode cX4_couldBe 10 = .ok (.iload_n 2, 1) := by decide +kernel
theorem dX4_couldBe_11 : decode cX4_couldBe 11 = .ok (.bipush (-6), 2) := by decide +kernel
theorem dX4_couldBe_13 : decode cX4_couldBe 13 = .ok (.invokevirtual 28, 3) := by decide +kernel
theorem dX4_couldBe_16 : decode cX4_couldBe 16 = .ok (.ifCond .eq 7, 3) := by decide +kernel
theorem dX4_couldBe_19 : decode cX4_couldBe 19 = .ok (.iconst 1, 1) := by decide +kernel
theorem dX4_couldBe_20 : decode cX4_couldBe 20 = .ok (.goto 4, 3) := by decide +kernel
theorem dX4_couldBe_23 : decode cX4_couldBe 23 = .ok (.iconst 0, 1) := by decide +kernel
theorem dX4_couldBe_24 : decode cX4_couldBe 24 = .ok (.ireturn, 1) := by decide +kernel
set_option maxRecDepth 20000 in
theorem ggX4_fitting_X4_couldBe : GoodIn wsX4_fitting wsX4_couldBe := goodIn_r _ [5, 6, 7, 8, 9, 10, 11, 12, 13, 14, 15, 16, 17, 18, 19, 20, 21, 4, 22, 23, 24, 25, 26, 27, 28, 29, 30, 31, 32, 33, 34, 35, 36, 37, 38, 39, 40, 41, 42, 43, 44, 45, 46, 47, 48, 49, 50, 51, 52, 53, 54, 55, 56, 57, 58, 59, 60, 61, 62, 63, 64, 65, 66, 67, 68, 69] (by decide +kernel) (by decide +kernel)
set_option maxRecDepth 20000 in
theorem gX4_fitting_X4_couldBe : GoodIn wsX4_fitting (wsV RX4 32 RX4 yX4_couldBe wsX4_couldBe) := goodIn_app (goodIn_of _ (by decide +kernel)) ggX4_fitting_X4_couldBe
theorem dX4_fitting_0 : decode cX4_fitting 0 = .ok (.lconst 0, 1) := by decide +kernel
theorem dX4_fitting_1 : decode cX4_fitting 1 = .ok (.lstore_n 2, 1) := by decide +kernel
theorem dX4_fitting_2 : decode cX4_fitting 2 = .ok (.iconst 0, 1) := by decide +kernel
theorem dX4_fitting_3 : decode cX4_fitting 3 = .ok (.istore 4, 2) := by decide +kernel
theorem dX4_fitting_5 : decode cX4_fitting 5 = .ok (.iload 4, 2) := by decide +kernel
theorem dX4_fitting_7 : decode cX4_fitting 7 = .ok (.bipush 64, 2) := by decide +kernel
theorem dX4_fitting_9 : decode cX4_fitting 9 = .ok (.if_icmp .ge 26, 3) := by decide +kernel
theorem dX4_fitting_12 : decode cX4_fitting 12 = .ok (.aload_n 0, 1) := by decide +kernel
theorem dX4_fitting_13 : decode cX4_fitting 13 = .ok (.aload_n 1, 1) := by decide +kernel
theorem dX4_fitting_14 : decode cX4_fitting 14 = .ok (.iload 4, 2) := by decide +kernel
theorem dX4_fitting_16 : decode cX4_fitting 16 = .ok (.invokevirtual 32, 3) := by decide +kernel
theorem dX4_fitting_19 : decode cX4_fitting 19 = .ok (.ifCond .eq 10, 3) := by decide +kernel
theorem dX4_fitting_22 : decode cX4_fitting 22 = .ok (.lload_n 2, 1) := by decide +kernel
theorem dX4_fitting_23 : decode cX4_fitting 23 = .ok (.lconst 1, 1) := by decide +kernel
theorem dX4_fitting_24 : decode cX4_fitting 24 = .ok (.iload 4, 2) := by decide +kernel
theorem dX4_fitting_26 : decode cX4_fitting 26 = .ok (.lshl, 1) := by decide +kernel
theorem dX4_fitting_27 : decode cX4_fitting 27 = .ok (.lor, 1) := by decide +kernel
theorem dX4_fitting_28 : decode cX4_fitting 28 = .ok (.lstore_n 2, 1) := by decide +kernel
theorem dX4_fitting_29 : decode cX4_fitting 29 = .ok (.iinc 4 1, 3) := by decide +kernel
theorem dX4_fitting_32 : decode cX4_fitting 32 = .ok (.goto (-27), 3) := by decide +kernel
theorem dX4_fitting_35 : decode cX4_fitting 35 = .ok (.lload_n 2, 1) := by decide +kernel
theorem dX4_fitting_36 : decode cX4_fitting 36 = .ok (.lreturn, 1) := by decide +kernel
set_option maxRecDepth 20000 in
theorem ggX4_pairs_X0_suspects : GoodIn wsX4_pairs wsX0_suspects := goodIn_r _ [4, 5, 6, 7, 2, 8, 9, 10, 11, 12, 13, 14, 15, 16, 17, 52, 53, 54, 55, 56, 57, 58, 59, 60, 61, 62, 63, 64] (by decide +kernel) (by decide +kernel)
set_option maxRecDepth 20000 in
theorem gX4_pairs_X0_suspects_n36 : GoodIn wsX4_pairs (wsX0_suspects) := ggX4_pairs_X0_suspects
set_option maxRecDepth 20000 in
theorem ggX4_pairs_X5_isIn : GoodIn wsX4_pairs wsX5_isIn := goodIn_r _ [19] (by decide +kernel) (by decide +kernel)
set_option maxRecDepth 20000 in
theorem gX4_pairs_X5_isIn_n40 : GoodIn wsX4_pairs (wsX5_isIn) := ggX4_pairs_X5_isIn
set_option maxRecDepth 20000 in
theorem ggX4_pairs_X4_fits : GoodIn wsX4_pairs wsX4_fits := goodIn_r _ [24, 25, 26, 27, 28, 29, 30, 31, 32, 33, 34, 35, 36, 37, 38, 39, 40, 41, 42, 43, 44, 45, 11, 46, 47, 48, 18, 19, 49, 50, 51, 65, 66, 52, 53, 54, 55, 56, 57, 58, 59, 60, 61, 62, 63, 64, 67, 68, 69] (by decide +kernel) (by decide +kernel)
set_option maxRecDepth 20000 in
theorem gX4_pairs_X4_fits : GoodIn wsX4_pairs (wsV RX4 28 RX4 yX4_fits wsX4_fits) := goodIn_app (goodIn_of _ (by decide +kernel)) ggX4_pairs_X4_fits
theorem dX4_pairs_0 : decode cX4_pairs 0 = .ok (.aload_n 1, 1) := by decide +kernel
theorem dX4_pairs_1 : decode cX4_pairs 1 = .ok (.invokevirtual 36, 3) := by decide +kernel
theorem dX4_pairs_4 : decode cX4_pairs 4 = .ok (.lstore_n 2, 1) := by decide +kernel
theorem dX4_pairs_5 : decode cX4_pairs 5 = .ok (.iconst 0, 1) := by decide +kernel
theorem dX4_pairs_6 : decode cX4_pairs 6 = .ok (.istore 4, 2) := by decide +kernel
theorem dX4_pairs_8 : decode cX4_pairs 8 = .ok (.iconst 0, 1) := by decide +kernel
theorem dX4_pairs_9 : decode cX4_pairs 9 = .ok (.istore 5, 2) := by decide +kernel
theorem dX4_pairs_11 : decode cX4_pairs 11 = .ok (.iload 5, 2) := by decide +kernel
theorem dX4_pairs_13 : decode cX4_pairs 13 = .ok (.bipush 64, 2) := by decide +kernel
theorem dX4_pairs_15 : decode cX4_pairs 15 = .ok (.if_icmp .ge 61, 3) := by decide +kernel
theorem dX4_pairs_18 : decode cX4_pairs 18 = .ok (.iload 5, 2) := by decide +kernel
theorem dX4_pairs_20 : decode cX4_pairs 20 = .ok (.iconst 1, 1) := by decide +kernel
theorem dX4_pairs_21 : decode cX4_pairs 21 = .ok (.iadd, 1) := by decide +kernel
theorem dX4_pairs_22 : decode cX4_pairs 22 = .ok (.istore 6, 2) := by decide +kernel
theorem dX4_pairs_24 : decode cX4_pairs 24 = .ok (.iload 6, 2) := by decide +kernel
theorem dX4_pairs_26 : decode cX4_pairs 26 = .ok (.bipush 64, 2) := by decide +kernel
theorem dX4_pairs_28 : decode cX4_pairs 28 = .ok (.if_icmp .ge 42, 3) := by decide +kernel
theorem dX4_pairs_31 : decode cX4_pairs 31 = .ok (.lload_n 2, 1) := by decide +kernel
theorem dX4_pairs_32 : decode cX4_pairs 32 = .ok (.iload 5, 2) := by decide +kernel
theorem dX4_pairs_34 : decode cX4_pairs 34 = .ok (.invokestatic 40, 3) := by decide +kernel
theorem dX4_pairs_37 : decode cX4_pairs 37 = .ok (.ifCond .eq 27, 3) := by decide +kernel
theorem dX4_pairs_40 : decode cX4_pairs 40 = .ok (.lload_n 2, 1) := by decide +kernel
theorem dX4_pairs_41 : decode cX4_pairs 41 = .ok (.iload 6, 2) := by decide +kernel
theorem dX4_pairs_43 : decode cX4_pairs 43 = .ok (.invokestatic 40, 3) := by decide +kernel
theorem dX4_pairs_46 : decode cX4_pairs 46 = .ok (.ifCond .eq 18, 3) := by decide +kernel
theorem dX4_pairs_49 : decode cX4_pairs 49 = .ok (.aload_n 0, 1) := by decide +kernel
theorem dX4_pairs_50 : decode cX4_pairs 50 = .ok (.aload_n 1, 1) := by decide +kernel
theorem dX4_pairs_51 : decode cX4_pairs 51 = .ok (.iload 5, 2) := by decide +kernel
theorem dX4_pairs_53 : decode cX4_pairs 53 = .ok (.iload 6, 2) := by decide +kernel
theorem dX4_pairs_55 : decode cX4_pairs 55 = .ok (.invokevirtual 28, 3) := by decide +kernel
theorem dX4_pairs_58 : decode cX4_pairs 58 = .ok (.ifCond .eq 6, 3) := by decide +kernel
theorem dX4_pairs_61 : decode cX4_pairs 61 = .ok (.iinc 4 1, 3) := by decide +kernel
theorem dX4_pairs_64 : decode cX4_pairs 64 = .ok (.iinc 6 1, 3) := by decide +kernel
theorem dX4_pairs_67 : decode cX4_pairs 67 = .ok (.goto (-43), 3) := by decide +kernel
theorem dX4_pairs_70 : decode cX4_pairs 70 = .ok (.iinc 5 1, 3) := by decide +kernel
theorem dX4_pairs_73 : decode cX4_pairs 73 = .ok (.goto (-62), 3) := by decide +kernel
theorem dX4_pairs_76 : decode cX4_pairs 76 = .ok (.iload 4, 2) := by decide +kernel
theorem dX4_pairs_78 : decode cX4_pairs 78 = .ok (.ireturn, 1) := by decide +kernel
set_option maxRecDepth 20000 in
theorem ggX4_couldBeOneOfTwo_X0_isSuspect : GoodIn wsX4_couldBeOneOfTwo wsX0_isSuspect := goodIn_r _ [11, 12, 13, 14, 15, 16, 17, 18, 9, 19, 20, 54, 55, 56, 57, 58, 59, 60, 61, 62, 63, 64, 65, 66] (by decide +kernel) (by decide +kernel)
set_option maxRecDepth 20000 in
theorem gX4_couldBeOneOfTwo_X0_isSuspect_n22 : GoodIn wsX4_couldBeOneOfTwo (wsX0_isSuspect) := ggX4_couldBeOneOfTwo_X0_isSuspect
set_option maxRecDepth 20000 in
theorem ggX4_couldBeOneOfTwo_X4_fits : GoodIn wsX4_couldBeOneOfTwo wsX4_fits := goodIn_r _ [25, 26, 27, 28, 3, 29, 30, 31, 32, 33, 34, 35, 36, 37, 38, 39, 40, 41, 42, 43, 44, 45, 14, 46, 47, 48, 49, 50, 51, 52, 53, 67, 68, 54, 55, 56, 57, 58, 59, 60, 61, 62, 63, 64, 65, 66, 69, 70, 71] (by decide +kernel) (by decide +kernel)
set_option maxRecDepth 20000 in
theorem gX4_couldBeOneOfTwo_X4_fits : GoodIn wsX4_couldBeOneOfTwo (wsV RX4 28 RX4 yX4_fits wsX4_fits) := goodIn_app (goodIn_of _ (by decide +kernel)) ggX4_couldBeOneOfTwo_X4_fits
theorem dX4_couldBeOneOfTwo_0 : decode cX4_couldBeOneOfTwo 0 = .ok (.aload_n 1, 1) := by decide +kernel
theorem dX4_couldBeOneOfTwo_1 : decode cX4_couldBeOneOfTwo 1 = .ok (.iload_n 2, 1) := by decide +kernel
theorem dX4_couldBeOneOfTwo_2 : decode cX4_couldBeOneOfTwo 2 = .ok (.invokevirtual 22, 3) := by decide +kernel
theorem dX4_couldBeOneOfTwo_5 : decode cX4_couldBeOneOfTwo 5 = .ok (.ifCond .ne 5, 3) := by decide +kernel
theorem dX4_couldBeOneOfTwo_8 : decode cX4_couldBeOneOfTwo 8 = .ok (.iconst 0, 1) := by decide +kernel
theorem dX4_couldBeOneOfTwo_9 : decode cX4_couldBeOneOfTwo 9 = .ok (.ireturn, 1) := by decide +kernel
theorem dX4_couldBeOneOfTwo_10 : decode cX4_couldBeOneOfTwo 10 = .ok (.iconst 0, 1) := by decide +kernel
theorem dX4_couldBeOneOfTwo_11 : decode cX4_couldBeOneOfTwo 11 = .ok (.istore_n 3, 1) := by decide +kernel
theorem dX4_couldBeOneOfTwo_12 : decode cX4_couldBeOneOfTwo 12 = .ok (.iload_n 3, 1) := by decide +kernel
theorem dX4_couldBeOneOfTwo_13 : decode cX4_couldBeOneOfTwo 13 = .ok (.bipush 64, 2) := by decide +kernel
theorem dX4_couldBeOneOfTwo_15 : decode cX4_couldBeOneOfTwo 15 = .ok (.if_icmp .ge 42, 3) := by decide +kernel
theorem dX4_couldBeOneOfTwo_18 : decode cX4_couldBeOneOfTwo 18 = .ok (.iload_n 3, 1) := by decide +kernel
theorem dX4_couldBeOneOfTwo_19 : decode cX4_couldBeOneOfTwo 19 = .ok (.iload_n 2, 1) := by decide +kernel
theorem dX4_couldBeOneOfTwo_20 : decode cX4_couldBeOneOfTwo 20 = .ok (.if_icmp .eq 31, 3) := by decide +kernel
theorem dX4_couldBeOneOfTwo_23 : decode cX4_couldBeOneOfTwo 23 = .ok (.aload_n 1, 1) := by decide +kernel
theorem dX4_couldBeOneOfTwo_24 : decode cX4_couldBeOneOfTwo 24 = .ok (.iload_n 3, 1) := by decide +kernel
theorem dX4_couldBeOneOfTwo_25 : decode cX4_couldBeOneOfTwo 25 = .ok (.invokevirtual 22, 3) := by decide +kernel
theorem dX4_couldBeOneOfTwo_28 : decode cX4_couldBeOneOfTwo 28 = .ok (.ifCond .eq 23, 3) := by decide +kernel
theorem dX4_couldBeOneOfTwo_31 : decode cX4_couldBeOneOfTwo 31 = .ok (.aload_n 0, 1) := by decide +kernel
theorem dX4_couldBeOneOfTwo_32 : decode cX4_couldBeOneOfTwo 32 = .ok (.aload_n 1, 1) := by decide +kernel
theorem dX4_couldBeOneOfTwo_33 : decode cX4_couldBeOneOfTwo 33 = .ok (.iload_n 2, 1) := by decide +kernel
theorem dX4_couldBeOneOfTwo_34 : decode cX4_couldBeOneOfTwo 34 = .ok (.iload_n 3, 1) := by decide +kernel
theorem dX4_couldBeOneOfTwo_35 : decode cX4_couldBeOneOfTwo 35 = .ok (.invokestatic 44, 3) := by decide +kernel
theorem dX4_couldBeOneOfTwo_38 : decode cX4_couldBeOneOfTwo 38 = .ok (.iload_n 2, 1) := by decide +kernel
theorem dX4_couldBeOneOfTwo_39 : decode cX4_couldBeOneOfTwo 39 = .ok (.iload_n 3, 1) := by decide +kernel
theorem dX4_couldBeOneOfTwo_40 : decode cX4_couldBeOneOfTwo 40 = .ok (.invokestatic 50, 3) := by decide +kernel
theorem dX4_couldBeOneOfTwo_43 : decode cX4_couldBeOneOfTwo 43 = .ok (.invokevirtual 28, 3) := by decide +kernel
theorem dX4_couldBeOneOfTwo_46 : decode cX4_couldBeOneOfTwo 46 = .ok (.ifCond .eq 5, 3) := by decide +kernel
theorem dX4_couldBeOneOfTwo_49 : decode cX4_couldBeOneOfTwo 49 = .ok (.iconst 1, 1) := by decide +kernel
theorem dX4_couldBeOneOfTwo_50 : decode cX4_couldBeOneOfTwo 50 = .ok (.ireturn, 1) := by decide +kernel
theorem dX4_couldBeOneOfTwo_51 : decode cX4_couldBeOneOfTwo 51 = .ok (.iinc 3 1, 3) := by decide +kernel
theorem dX4_couldBeOneOfTwo_54 : decode cX4_couldBeOneOfTwo 54 = .ok (.goto (-42), 3) := by decide +kernel
theorem dX4_couldBeOneOfTwo_57 : decode cX4_couldBeOneOfTwo 57 = .ok (.iconst 0, 1) := by decide +kernel
theorem dX4_couldBeOneOfTwo_58 : decode cX4_couldBeOneOfTwo 58 = .ok (.ireturn, 1) := by decide +kernel
set_option maxRecDepth 20000 in
theorem ggX4_fits_X1_follow : GoodIn wsX4_fits wsX1_follow := goodIn_r _ [9, 10, 11, 12, 13, 14, 15, 46, 47, 48] (by decide +kernel) (by decide +kernel)
set_option maxRecDepth 20000 in
theorem gX4_fits_X1_follow_n56 : GoodIn wsX4_fits (wsX1_follow) := ggX4_fits_X1_follow
set_option maxRecDepth 20000 in
theorem ggX4_fits_X1_warmthBy : GoodIn wsX4_fits wsX1_warmthBy := goodIn_r _ [18, 19, 20, 15, 10, 21, 22, 23, 24, 25, 26, 27, 46, 47, 48] (by decide +kernel) (by decide +kernel)
set_option maxRecDepth 20000 in
theorem gX4_fits_X1_warmthBy_n70 : GoodIn wsX4_fits (wsX1_warmthBy) := ggX4_fits_X1_warmthBy
set_option maxRecDepth 20000 in
theorem ggX4_fits_X5_readOf : GoodIn wsX4_fits wsX5_readOf := goodIn_r _ [29, 30] (by decide +kernel) (by decide +kernel)
set_option maxRecDepth 20000 in
theorem gX4_fits_X5_readOf_n74 : GoodIn wsX4_fits (wsX5_readOf) := ggX4_fits_X5_readOf
theorem dX4_fits_0 : decode cX4_fits 0 = .ok (.aload_n 0, 1) := by decide +kernel
theorem dX4_fits_1 : decode cX4_fits 1 = .ok (.getfield 12, 3) := by decide +kernel
theorem dX4_fits_4 : decode cX4_fits 4 = .ok (.aload_n 1, 1) := by decide +kernel
theorem dX4_fits_5 : decode cX4_fits 5 = .ok (.getfield 53, 3) := by decide +kernel
theorem dX4_fits_8 : decode cX4_fits 8 = .ok (.invokevirtual 56, 3) := by decide +kernel
theorem dX4_fits_11 : decode cX4_fits 11 = .ok (.iconst 0, 1) := by decide +kernel
theorem dX4_fits_12 : decode cX4_fits 12 = .ok (.istore 4, 2) := by decide +kernel
theorem dX4_fits_14 : decode cX4_fits 14 = .ok (.iload 4, 2) := by decide +kernel
theorem dX4_fits_16 : decode cX4_fits 16 = .ok (.aload_n 1, 1) := by decide +kernel
theorem dX4_fits_17 : decode cX4_fits 17 = .ok (.getfield 60, 3) := by decide +kernel
theorem dX4_fits_20 : decode cX4_fits 20 = .ok (.if_icmp .ge 93, 3) := by decide +kernel
theorem dX4_fits_23 : decode cX4_fits 23 = .ok (.aload_n 0, 1) := by decide +kernel
theorem dX4_fits_24 : decode cX4_fits 24 = .ok (.getfield 12, 3) := by decide +kernel
theorem dX4_fits_27 : decode cX4_fits 27 = .ok (.iload_n 2, 1) := by decide +kernel
theorem dX4_fits_28 : decode cX4_fits 28 = .ok (.aload_n 1, 1) := by decide +kernel
theorem dX4_fits_29 : decode cX4_fits 29 = .ok (.getfield 64, 3) := by decide +kernel
theorem dX4_fits_32 : decode cX4_fits 32 = .ok (.iload 4, 2) := by decide +kernel
theorem dX4_fits_34 : decode cX4_fits 34 = .ok (.iaload, 1) := by decide +kernel
theorem dX4_fits_35 : decode cX4_fits 35 = .ok (.aload_n 1, 1) := by decide +kernel
theorem dX4_fits_36 : decode cX4_fits 36 = .ok (.getfield 67, 3) := by decide +kernel
theorem dX4_fits_39 : decode cX4_fits 39 = .ok (.iload 4, 2) := by decide +kernel
theorem dX4_fits_41 : decode cX4_fits 41 = .ok (.iaload, 1) := by decide +kernel
theorem dX4_fits_42 : decode cX4_fits 42 = .ok (.invokevirtual 70, 3) := by decide +kernel
theorem dX4_fits_45 : decode cX4_fits 45 = .ok (.fstore 5, 2) := by decide +kernel
theorem dX4_fits_47 : decode cX4_fits 47 = .ok (.iload_n 3, 1) := by decide +kernel
theorem dX4_fits_48 : decode cX4_fits 48 = .ok (.bipush (-6), 2) := by decide +kernel
theorem dX4_fits_50 : decode cX4_fits 50 = .ok (.if_icmp .eq 30, 3) := by decide +kernel
theorem dX4_fits_53 : decode cX4_fits 53 = .ok (.fload 5, 2) := by decide +kernel
theorem dX4_fits_55 : decode cX4_fits 55 = .ok (.aload_n 0, 1) := by decide +kernel
theorem dX4_fits_56 : decode cX4_fits 56 = .ok (.getfield 12, 3) := by decide +kernel
theorem dX4_fits_59 : decode cX4_fits 59 = .ok (.iload_n 3, 1) := by decide +kernel
theorem dX4_fits_60 : decode cX4_fits 60 = .ok (.aload_n 1, 1) := by decide +kernel
theorem dX4_fits_61 : decode cX4_fits 61 = .ok (.getfield 64, 3) := by decide +kernel
theorem dX4_fits_64 : decode cX4_fits 64 = .ok (.iload 4, 2) := by decide +kernel
theorem dX4_fits_66 : decode cX4_fits 66 = .ok (.iaload, 1) := by decide +kernel
theorem dX4_fits_67 : decode cX4_fits 67 = .ok (.aload_n 1, 1) := by decide +kernel
theorem dX4_fits_68 : decode cX4_fits 68 = .ok (.getfield 67, 3) := by decide +kernel
theorem dX4_fits_71 : decode cX4_fits 71 = .ok (.iload 4, 2) := by decide +kernel
theorem dX4_fits_73 : decode cX4_fits 73 = .ok (.iaload, 1) := by decide +kernel
theorem dX4_fits_74 : decode cX4_fits 74 = .ok (.invokevirtual 70, 3) := by decide +kernel
theorem dX4_fits_77 : decode cX4_fits 77 = .ok (.fadd, 1) := by decide +kernel
theorem dX4_fits_78 : decode cX4_fits 78 = .ok (.fstore 5, 2) := by decide +kernel
theorem dX4_fits_80 : decode cX4_fits 80 = .ok (.fload 5, 2) := by decide +kernel
theorem dX4_fits_82 : decode cX4_fits 82 = .ok (.invokestatic 74, 3) := by decide +kernel
theorem dX4_fits_85 : decode cX4_fits 85 = .ok (.aload_n 1, 1) := by decide +kernel
theorem dX4_fits_86 : decode cX4_fits 86 = .ok (.getfield 78, 3) := by decide +kernel
theorem dX4_fits_89 : decode cX4_fits 89 = .ok (.iload 4, 2) := by decide +kernel
theorem dX4_fits_91 : decode cX4_fits 91 = .ok (.iaload, 1) := by decide +kernel
theorem dX4_fits_92 : decode cX4_fits 92 = .ok (.isub, 1) := by decide +kernel
theorem dX4_fits_93 : decode cX4_fits 93 = .ok (.invokestatic 81, 3) := by decide +kernel
theorem dX4_fits_96 : decode cX4_fits 96 = .ok (.aload_n 1, 1) := by decide +kernel
theorem dX4_fits_97 : decode cX4_fits 97 = .ok (.getfield 53, 3) := by decide +kernel
theorem dX4_fits_100 : decode cX4_fits 100 = .ok (.iconst 3, 1) := by decide +kernel
theorem dX4_fits_101 : decode cX4_fits 101 = .ok (.iaload, 1) := by decide +kernel
theorem dX4_fits_102 : decode cX4_fits 102 = .ok (.if_icmp .le 5, 3) := by decide +kernel
theorem dX4_fits_105 : decode cX4_fits 105 = .ok (.iconst 0, 1) := by decide +kernel
theorem dX4_fits_106 : decode cX4_fits 106 = .ok (.ireturn, 1) := by decide +kernel
theorem dX4_fits_107 : decode cX4_fits 107 = .ok (.iinc 4 1, 3) := by decide +kernel
theorem dX4_fits_110 : decode cX4_fits 110 = .ok (.goto (-96), 3) := by decide +kernel
theorem dX4_fits_113 : decode cX4_fits 113 = .ok (.iconst 1, 1) := by decide +kernel
theorem dX4_fits_114 : decode cX4_fits 114 = .ok (.ireturn, 1) := by decide +kernel
set_option maxRecDepth 20000 in
theorem ggX4_readBy_X1_follow : GoodIn wsX4_readBy wsX1_follow := goodIn_r _ [5, 6, 7, 8, 9, 10, 11, 42, 43, 44] (by decide +kernel) (by decide +kernel)
set_option maxRecDepth 20000 in
theorem gX4_readBy_X1_follow_n56 : GoodIn wsX4_readBy (wsX1_follow) := ggX4_readBy_X1_follow
set_option maxRecDepth 20000 in
theorem ggX4_readBy_X1_warmthBy : GoodIn wsX4_readBy wsX1_warmthBy := goodIn_r _ [14, 15, 16, 11, 6, 17, 18, 19, 20, 21, 22, 23, 42, 43, 44] (by decide +kernel) (by decide +kernel)
set_option maxRecDepth 20000 in
theorem gX4_readBy_X1_warmthBy_n70 : GoodIn wsX4_readBy (wsX1_warmthBy) := ggX4_readBy_X1_warmthBy
set_option maxRecDepth 20000 in
theorem ggX4_readBy_X5_readOf : GoodIn wsX4_readBy wsX5_readOf := goodIn_r _ [25, 26] (by decide +kernel) (by decide +kernel)
set_option maxRecDepth 20000 in
theorem gX4_readBy_X5_readOf_n74 : GoodIn wsX4_readBy (wsX5_readOf) := ggX4_readBy_X5_readOf
theorem dX4_readBy_0 : decode cX4_readBy 0 = .ok (.aload_n 0, 1) := by decide +kernel
theorem dX4_readBy_1 : decode cX4_readBy 1 = .ok (.getfield 12, 3) := by decide +kernel
theorem dX4_readBy_4 : decode cX4_readBy 4 = .ok (.aload_n 1, 1) := by decide +kernel
theorem dX4_readBy_5 : decode cX4_readBy 5 = .ok (.getfield 53, 3) := by decide +kernel
theorem dX4_readBy_8 : decode cX4_readBy 8 = .ok (.invokevirtual 56, 3) := by decide +kernel
theorem dX4_readBy_11 : decode cX4_readBy 11 = .ok (.aload_n 0, 1) := by decide +kernel
theorem dX4_readBy_12 : decode cX4_readBy 12 = .ok (.getfield 12, 3) := by decide +kernel
theorem dX4_readBy_15 : decode cX4_readBy 15 = .ok (.iload_n 2, 1) := by decide +kernel
theorem dX4_readBy_16 : decode cX4_readBy 16 = .ok (.aload_n 1, 1) := by decide +kernel
theorem dX4_readBy_17 : decode cX4_readBy 17 = .ok (.getfield 85, 3) := by decide +kernel
theorem dX4_readBy_20 : decode cX4_readBy 20 = .ok (.iload_n 3, 1) := by decide +kernel
theorem dX4_readBy_21 : decode cX4_readBy 21 = .ok (.invokevirtual 70, 3) := by decide +kernel
theorem dX4_readBy_24 : decode cX4_readBy 24 = .ok (.invokestatic 74, 3) := by decide +kernel
theorem dX4_readBy_27 : decode cX4_readBy 27 = .ok (.ireturn, 1) := by decide +kernel
set_option maxRecDepth 20000 in
theorem ggX4_unlikeReads_X5_isIn : GoodIn wsX4_unlikeReads wsX5_isIn := goodIn_r _ [4] (by decide +kernel) (by decide +kernel)
set_option maxRecDepth 20000 in
theorem gX4_unlikeReads_X5_isIn_n40 : GoodIn wsX4_unlikeReads (wsX5_isIn) := ggX4_unlikeReads_X5_isIn
set_option maxRecDepth 20000 in
theorem ggX4_unlikeReads_X4_readBy : GoodIn wsX4_unlikeReads wsX4_readBy := goodIn_r _ [9, 10, 11, 12, 13, 14, 15, 16, 17, 18, 19, 20, 21, 22, 23, 24, 25, 26, 3, 27, 28, 29, 2, 4, 30, 31, 32, 37, 38, 39, 40, 41, 42, 43, 44, 45, 46, 47, 48, 49, 50, 51, 52, 53, 54] (by decide +kernel) (by decide +kernel)
set_option maxRecDepth 20000 in
theorem gX4_unlikeReads_X4_readBy : GoodIn wsX4_unlikeReads (wsV RX4 88 RX4 yX4_readBy wsX4_readBy) := goodIn_app (goodIn_of _ (by decide +kernel)) ggX4_unlikeReads_X4_readBy
set_option maxRecDepth 20000 in
theorem ggX4_unlikeReads_X4_isAmong : GoodIn wsX4_unlikeReads wsX4_isAmong := goodIn_r _ [36, 1, 37, 38] (by decide +kernel) (by decide +kernel)
set_option maxRecDepth 20000 in
theorem gX4_unlikeReads_X4_isAmong : GoodIn wsX4_unlikeReads (wsV RX4 92 RX4 yX4_isAmong wsX4_isAmong) := goodIn_app (goodIn_of _ (by decide +kernel)) ggX4_unlikeReads_X4_isAmong
theorem dX4_unlikeReads_0 : decode cX4_unlikeReads 0 = .ok (.iconst 0, 1) := by decide +kernel
theorem dX4_unlikeReads_1 : decode cX4_unlikeReads 1 = .ok (.istore 5, 2) := by decide +kernel
theorem dX4_unlikeReads_3 : decode cX4_unlikeReads 3 = .ok (.iconst 0, 1) := by decide +kernel
theorem dX4_unlikeReads_4 : decode cX4_unlikeReads 4 = .ok (.istore 6, 2) := by decide +kernel
theorem dX4_unlikeReads_6 : decode cX4_unlikeReads 6 = .ok (.iload 6, 2) := by decide +kernel
theorem dX4_unlikeReads_8 : decode cX4_unlikeReads 8 = .ok (.bipush 64, 2) := by decide +kernel
theorem dX4_unlikeReads_10 : decode cX4_unlikeReads 10 = .ok (.if_icmp .ge 52, 3) := by decide +kernel
theorem dX4_unlikeReads_13 : decode cX4_unlikeReads 13 = .ok (.lload_n 2, 1) := by decide +kernel
theorem dX4_unlikeReads_14 : decode cX4_unlikeReads 14 = .ok (.iload 6, 2) := by decide +kernel
theorem dX4_unlikeReads_16 : decode cX4_unlikeReads 16 = .ok (.invokestatic 40, 3) := by decide +kernel
theorem dX4_unlikeReads_19 : decode cX4_unlikeReads 19 = .ok (.ifCond .eq 37, 3) := by decide +kernel
theorem dX4_unlikeReads_22 : decode cX4_unlikeReads 22 = .ok (.aload_n 0, 1) := by decide +kernel
theorem dX4_unlikeReads_23 : decode cX4_unlikeReads 23 = .ok (.aload_n 1, 1) := by decide +kernel
theorem dX4_unlikeReads_24 : decode cX4_unlikeReads 24 = .ok (.iload 6, 2) := by decide +kernel
theorem dX4_unlikeReads_26 : decode cX4_unlikeReads 26 = .ok (.iload 4, 2) := by decide +kernel
theorem dX4_unlikeReads_28 : decode cX4_unlikeReads 28 = .ok (.invokevirtual 88, 3) := by decide +kernel
theorem dX4_unlikeReads_31 : decode cX4_unlikeReads 31 = .ok (.istore 7, 2) := by decide +kernel
theorem dX4_unlikeReads_33 : decode cX4_unlikeReads 33 = .ok (.aload_n 0, 1) := by decide +kernel
theorem dX4_unlikeReads_34 : decode cX4_unlikeReads 34 = .ok (.iload 5, 2) := by decide +kernel
theorem dX4_unlikeReads_36 : decode cX4_unlikeReads 36 = .ok (.iload 7, 2) := by decide +kernel
theorem dX4_unlikeReads_38 : decode cX4_unlikeReads 38 = .ok (.invokevirtual 92, 3) := by decide +kernel
theorem dX4_unlikeReads_41 : decode cX4_unlikeReads 41 = .ok (.ifCond .ne 15, 3) := by decide +kernel
theorem dX4_unlikeReads_44 : decode cX4_unlikeReads 44 = .ok (.aload_n 0, 1) := by decide +kernel
theorem dX4_unlikeReads_45 : decode cX4_unlikeReads 45 = .ok (.getfield 18, 3) := by decide +kernel
theorem dX4_unlikeReads_48 : decode cX4_unlikeReads 48 = .ok (.iload 5, 2) := by decide +kernel
theorem dX4_unlikeReads_50 : decode cX4_unlikeReads 50 = .ok (.iload 7, 2) := by decide +kernel
theorem dX4_unlikeReads_52 : decode cX4_unlikeReads 52 = .ok (.iastore, 1) := by decide +kernel
theorem dX4_unlikeReads_53 : decode cX4_unlikeReads 53 = .ok (.iinc 5 1, 3) := by decide +kernel
theorem dX4_unlikeReads_56 : decode cX4_unlikeReads 56 = .ok (.iinc 6 1, 3) := by decide +kernel
theorem dX4_unlikeReads_59 : decode cX4_unlikeReads 59 = .ok (.goto (-53), 3) := by decide +kernel
theorem dX4_unlikeReads_62 : decode cX4_unlikeReads 62 = .ok (.iload 5, 2) := by decide +kernel
theorem dX4_unlikeReads_64 : decode cX4_unlikeReads 64 = .ok (.ireturn, 1) := by decide +kernel
theorem dX4_isAmong_0 : decode cX4_isAmong 0 = .ok (.iconst 0, 1) := by decide +kernel
theorem dX4_isAmong_1 : decode cX4_isAmong 1 = .ok (.istore_n 3, 1) := by decide +kernel
theorem dX4_isAmong_2 : decode cX4_isAmong 2 = .ok (.iload_n 3, 1) := by decide +kernel
theorem dX4_isAmong_3 : decode cX4_isAmong 3 = .ok (.iload_n 1, 1) := by decide +kernel
theorem dX4_isAmong_4 : decode cX4_isAmong 4 = .ok (.if_icmp .ge 21, 3) := by decide +kernel
theorem dX4_isAmong_7 : decode cX4_isAmong 7 = .ok (.aload_n 0, 1) := by decide +kernel
theorem dX4_isAmong_8 : decode cX4_isAmong 8 = .ok (.getfield 18, 3) := by decide +kernel
theorem dX4_isAmong_11 : decode cX4_isAmong 11 = .ok (.iload_n 3, 1) := by decide +kernel
theorem dX4_isAmong_12 : decode cX4_isAmong 12 = .ok (.iaload, 1) := by decide +kernel
theorem dX4_isAmong_13 : decode cX4_isAmong 13 = .ok (.iload_n 2, 1) := by decide +kernel
theorem dX4_isAmong_14 : decode cX4_isAmong 14 = .ok (.if_icmp .ne 5, 3) := by decide +kernel
theorem dX4_isAmong_17 : decode cX4_isAmong 17 = .ok (.iconst 1, 1) := by decide +kernel
theorem dX4_isAmong_18 : decode cX4_isAmong 18 = .ok (.ireturn, 1) := by decide +kernel
theorem dX4_isAmong_19 : decode cX4_isAmong 19 = .ok (.iinc 3 1, 3) := by decide +kernel
theorem dX4_isAmong_22 : decode cX4_isAmong 22 = .ok (.goto (-20), 3) := by decide +kernel
theorem dX4_isAmong_25 : decode cX4_isAmong 25 = .ok (.iconst 0, 1) := by decide +kernel
theorem dX4_isAmong_26 : decode cX4_isAmong 26 = .ok (.ireturn, 1) := by decide +kernel
set_option maxRecDepth 20000 in
theorem ggX5_init_X0_init : GoodIn wsX5_init wsX0_init := goodIn_r _ [25, 26, 2, 3, 27, 28, 29, 30, 31, 32, 33, 34, 35, 36, 37, 38, 39, 40, 41, 42, 43, 44, 45, 72, 73, 74, 75, 76, 77, 78, 79, 80, 81, 82, 83, 84] (by decide +kernel) (by decide +kernel)
set_option maxRecDepth 20000 in
theorem gX5_init_X0_init_n9 : GoodIn wsX5_init (wsX0_init) := ggX5_init_X0_init
set_option maxRecDepth 20000 in
theorem ggX5_init_X4_init : GoodIn wsX5_init wsX4_init := goodIn_r _ [47, 48, 2, 3, 49, 50, 51, 52, 27, 53, 54, 55, 56, 57, 58, 59, 60, 98, 99, 100, 92, 93] (by decide +kernel) (by decide +kernel)
set_option maxRecDepth 20000 in
theorem gX5_init_X4_init_n21 : GoodIn wsX5_init (wsX4_init) := ggX5_init_X4_init
set_option maxRecDepth 20000 in
theorem ggX5_init_X3_init : GoodIn wsX5_init wsX3_init := goodIn_r _ [62, 63, 2, 3, 64, 65, 66, 5, 6, 24, 25, 26, 27, 28, 29, 30, 31, 32, 33, 34, 35, 36, 37, 38, 39, 40, 41, 42, 43, 44, 45, 94, 95, 72, 73, 74, 75, 76, 77, 78, 79, 80, 81, 82, 83, 84] (by decide +kernel) (by decide +kernel)
set_option maxRecDepth 20000 in
theorem gX5_init_X3_init_n28 : GoodIn wsX5_init (wsX3_init) := ggX5_init_X3_init
set_option maxRecDepth 20000 in
theorem ggX5_init_X2_init : GoodIn wsX5_init wsX2_init := goodIn_r _ [68, 69, 2, 3, 27, 70, 71, 96, 97] (by decide +kernel) (by decide +kernel)
set_option maxRecDepth 20000 in
theorem gX5_init_X2_init_n35 : GoodIn wsX5_init (wsX2_init) := ggX5_init_X2_init
theorem dX5_init_0 : decode cX5_init 0 = .ok (.aload_n 0, 1) := by decide +kernel
theorem dX5_init_1 : decode cX5_init 1 = .ok (.invokespecial 1, 3) := by decide +kernel
theorem dX5_init_4 : decode cX5_init 4 = .ok (.aload_n 0, 1) := by decide +kernel
theorem dX5_init_5 : decode cX5_init 5 = .ok (.new 7, 3) := by decide +kernel
theorem dX5_init_8 : decode cX5_init 8 = .ok (.dup, 1) := by decide +kernel
theorem dX5_init_9 : decode cX5_init 9 = .ok (.invokespecial 9, 3) := by decide +kernel
theorem dX5_init_12 : decode cX5_init 12 = .ok (.putfield 10, 3) := by decide +kernel
theorem dX5_init_15 : decode cX5_init 15 = .ok (.aload_n 0, 1) := by decide +kernel
theorem dX5_init_16 : decode cX5_init 16 = .ok (.new 7, 3) := by decide +kernel
theorem dX5_init_19 : decode cX5_init 19 = .ok (.dup, 1) := by decide +kernel
theorem dX5_init_20 : decode cX5_init 20 = .ok (.invokespecial 9, 3) := by decide +kernel
theorem dX5_init_23 : decode cX5_init 23 = .ok (.putfield 16, 3) := by decide +kernel
theorem dX5_init_26 : decode cX5_init 26 = .ok (.aload_n 0, 1) := by decide +kernel
theorem dX5_init_27 : decode cX5_init 27 = .ok (.new 19, 3) := by decide +kernel
theorem dX5_init_30 : decode cX5_init 30 = .ok (.dup, 1) := by decide +kernel
theorem dX5_init_31 : decode cX5_init 31 = .ok (.invokespecial 21, 3) := by decide +kernel
theorem dX5_init_34 : decode cX5_init 34 = .ok (.putfield 22, 3) := by decide +kernel
theorem dX5_init_37 : decode cX5_init 37 = .ok (.aload_n 0, 1) := by decide +kernel
theorem dX5_init_38 : decode cX5_init 38 = .ok (.new 26, 3) := by decide +kernel
theorem dX5_init_41 : decode cX5_init 41 = .ok (.dup, 1) := by decide +kernel
theorem dX5_init_42 : decode cX5_init 42 = .ok (.invokespecial 28, 3) := by decide +kernel
theorem dX5_init_45 : decode cX5_init 45 = .ok (.putfield 29, 3) := by decide +kernel
theorem dX5_init_48 : decode cX5_init 48 = .ok (.aload_n 0, 1) := by decide +kernel
theorem dX5_init_49 : decode cX5_init 49 = .ok (.new 33, 3) := by decide +kernel
theorem dX5_init_52 : decode cX5_init 52 = .ok (.dup, 1) := by decide +kernel
theorem dX5_init_53 : decode cX5_init 53 = .ok (.invokespecial 35, 3) := by decide +kernel
theorem dX5_init_56 : decode cX5_init 56 = .ok (.putfield 36, 3) := by decide +kernel
theorem dX5_init_59 : decode cX5_init 59 = .ok (.aload_n 0, 1) := by decide +kernel
theorem dX5_init_60 : decode cX5_init 60 = .ok (.iconst 2, 1) := by decide +kernel
theorem dX5_init_61 : decode cX5_init 61 = .ok (.anewarray 7, 3) := by decide +kernel
theorem dX5_init_64 : decode cX5_init 64 = .ok (.putfield 40, 3) := by decide +kernel
theorem dX5_init_67 : decode cX5_init 67 = .ok (.aload_n 0, 1) := by decide +kernel
theorem dX5_init_68 : decode cX5_init 68 = .ok (.iconst 2, 1) := by decide +kernel
theorem dX5_init_69 : decode cX5_init 69 = .ok (.newarray .boolean, 2) := by decide +kernel
theorem dX5_init_71 : decode cX5_init 71 = .ok (.putfield 44, 3) := by decide +kernel
theorem dX5_init_74 : decode cX5_init 74 = .ok (.iconst 0, 1) := by decide +kernel
theorem dX5_init_75 : decode cX5_init 75 = .ok (.istore_n 1, 1) := by decide +kernel
theorem dX5_init_76 : decode cX5_init 76 = .ok (.iload_n 1, 1) := by decide +kernel
theorem dX5_init_77 : decode cX5_init 77 = .ok (.iconst 2, 1) := by decide +kernel
theorem dX5_init_78 : decode cX5_init 78 = .ok (.if_icmp .ge 22, 3) := by decide +kernel
theorem dX5_init_81 : decode cX5_init 81 = .ok (.aload_n 0, 1) := by decide +kernel
theorem dX5_init_82 : decode cX5_init 82 = .ok (.getfield 40, 3) := by decide +kernel
theorem dX5_init_85 : decode cX5_init 85 = .ok (.iload_n 1, 1) := by decide +kernel
theorem dX5_init_86 : decode cX5_init 86 = .ok (.new 7, 3) := by decide +kernel
theorem dX5_init_89 : decode cX5_init 89 = .ok (.dup, 1) := by decide +kernel
theorem dX5_init_90 : decode cX5_init 90 = .ok (.invokespecial 9, 3) := by decide +kernel
theorem dX5_init_93 : decode cX5_init 93 = .ok (.aastore, 1) := by decide +kernel
theorem dX5_init_94 : decode cX5_init 94 = .ok (.iinc 1 1, 3) := by decide +kernel
theorem dX5_init_97 : decode cX5_init 97 = .ok (.goto (-21), 3) := by decide +kernel
theorem dX5_init_100 : decode cX5_init 100 = .ok (.return_, 1) := by decide +kernel
set_option maxRecDepth 20000 in
theorem ggX5_set_X3_prepare : GoodIn wsX5_set wsX3_prepare := goodIn_r _ [6, 7, 8, 9, 10, 11, 12, 13, 14, 15, 16, 17, 18, 19, 20, 21, 22, 23, 24, 25, 26, 27, 28, 46, 47, 48, 49, 50, 51, 52, 53, 54, 55, 56, 57, 58, 59, 60] (by decide +kernel) (by decide +kernel)
set_option maxRecDepth 20000 in
theorem gX5_set_X3_prepare_n48 : GoodIn wsX5_set (wsX3_prepare) := ggX5_set_X3_prepare
set_option maxRecDepth 20000 in
theorem ggX5_set_X0_change : GoodIn wsX5_set wsX0_change := goodIn_r _ [31, 13, 32, 33, 34, 10, 35, 23, 25, 24, 48, 49, 50, 51, 52, 53, 54, 55, 56, 57, 58, 59, 60] (by decide +kernel) (by decide +kernel)
set_option maxRecDepth 20000 in
theorem gX5_set_X0_change_n52 : GoodIn wsX5_set (wsX0_change) := ggX5_set_X0_change
set_option maxRecDepth 20000 in
theorem ggX5_set_X3_kept : GoodIn wsX5_set wsX3_kept := goodIn_r _ [38, 8, 7, 46, 47] (by decide +kernel) (by decide +kernel)
set_option maxRecDepth 20000 in
theorem gX5_set_X3_kept_n56 : GoodIn wsX5_set (wsX3_kept) := ggX5_set_X3_kept
theorem dX5_set_0 : decode cX5_set 0 = .ok (.aload_n 0, 1) := by decide +kernel
theorem dX5_set_1 : decode cX5_set 1 = .ok (.getfield 29, 3) := by decide +kernel
theorem dX5_set_4 : decode cX5_set 4 = .ok (.aload_n 0, 1) := by decide +kernel
theorem dX5_set_5 : decode cX5_set 5 = .ok (.getfield 10, 3) := by decide +kernel
theorem dX5_set_8 : decode cX5_set 8 = .ok (.invokevirtual 48, 3) := by decide +kernel
theorem dX5_set_11 : decode cX5_set 11 = .ok (.aload_n 0, 1) := by decide +kernel
theorem dX5_set_12 : decode cX5_set 12 = .ok (.getfield 29, 3) := by decide +kernel
theorem dX5_set_15 : decode cX5_set 15 = .ok (.aload_n 0, 1) := by decide +kernel
theorem dX5_set_16 : decode cX5_set 16 = .ok (.getfield 10, 3) := by decide +kernel
theorem dX5_set_19 : decode cX5_set 19 = .ok (.iload_n 1, 1) := by decide +kernel
theorem dX5_set_20 : decode cX5_set 20 = .ok (.iload_n 2, 1) := by decide +kernel
theorem dX5_set_21 : decode cX5_set 21 = .ok (.invokevirtual 52, 3) := by decide +kernel
theorem dX5_set_24 : decode cX5_set 24 = .ok (.invokevirtual 56, 3) := by decide +kernel
theorem dX5_set_27 : decode cX5_set 27 = .ok (.ireturn, 1) := by decide +kernel
set_option maxRecDepth 20000 in
theorem ggX5_track_X3_prepare : GoodIn wsX5_track wsX3_prepare := goodIn_r _ [6, 7, 8, 9, 10, 11, 12, 13, 14, 15, 16, 17, 18, 19, 20, 21, 22, 23, 24, 25, 26, 27, 28, 60, 61, 62, 63, 64, 65, 66, 67, 68, 69, 70, 71, 72, 73, 74] (by decide +kernel) (by decide +kernel)
set_option maxRecDepth 20000 in
theorem gX5_track_X3_prepare_n48 : GoodIn wsX5_track (wsX3_prepare) := ggX5_track_X3_prepare
set_option maxRecDepth 20000 in
theorem ggX5_track_X0_lay : GoodIn wsX5_track wsX0_lay := goodIn_r _ [31, 18, 32, 33, 34, 35, 36, 37, 38, 39, 10, 40, 20, 21, 22, 41, 42, 43, 44, 45, 46, 47, 48, 49, 23, 25, 24, 62, 63, 64, 65, 66, 67, 68, 69, 70, 71, 72, 73, 74] (by decide +kernel) (by decide +kernel)
set_option maxRecDepth 20000 in
theorem gX5_track_X0_lay_n60 : GoodIn wsX5_track (wsX0_lay) := ggX5_track_X0_lay
set_option maxRecDepth 20000 in
theorem ggX5_track_X3_kept : GoodIn wsX5_track wsX3_kept := goodIn_r _ [52, 8, 7, 60, 61] (by decide +kernel) (by decide +kernel)
set_option maxRecDepth 20000 in
theorem gX5_track_X3_kept_n56 : GoodIn wsX5_track (wsX3_kept) := ggX5_track_X3_kept
theorem dX5_track_0 : decode cX5_track 0 = .ok (.aload_n 0, 1) := by decide +kernel
theorem dX5_track_1 : decode cX5_track 1 = .ok (.getfield 29, 3) := by decide +kernel
theorem dX5_track_4 : decode cX5_track 4 = .ok (.aload_n 0, 1) := by decide +kernel
theorem dX5_track_5 : decode cX5_track 5 = .ok (.getfield 10, 3) := by decide +kernel
theorem dX5_track_8 : decode cX5_track 8 = .ok (.invokevirtual 48, 3) := by decide +kernel
theorem dX5_track_11 : decode cX5_track 11 = .ok (.aload_n 0, 1) := by decide +kernel
theorem dX5_track_12 : decode cX5_track 12 = .ok (.getfield 29, 3) := by decide +kernel
theorem dX5_track_15 : decode cX5_track 15 = .ok (.aload_n 0, 1) := by decide +kernel
theorem dX5_track_16 : decode cX5_track 16 = .ok (.getfield 10, 3) := by decide +kernel
theorem dX5_track_19 : decode cX5_track 19 = .ok (.iload_n 1, 1) := by decide +kernel
theorem dX5_track_20 : decode cX5_track 20 = .ok (.iload_n 2, 1) := by decide +kernel
theorem dX5_track_21 : decode cX5_track 21 = .ok (.iload_n 3, 1) := by decide +kernel
theorem dX5_track_22 : decode cX5_track 22 = .ok (.invokevirtual 60, 3) := by decide +kernel
theorem dX5_track_25 : decode cX5_track 25 = .ok (.invokevirtual 56, 3) := by decide +kernel
theorem dX5_track_28 : decode cX5_track 28 = .ok (.ireturn, 1) := by decide +kernel
set_option maxRecDepth 20000 in
theorem ggX5_touch_X3_prepare : GoodIn wsX5_touch wsX3_prepare := goodIn_r _ [6, 7, 8, 9, 10, 11, 12, 13, 14, 15, 16, 17, 18, 19, 20, 21, 22, 23, 24, 25, 26, 27, 28, 61, 62, 63, 64, 65, 66, 67, 68, 69, 70, 71, 72, 73, 74, 75] (by decide +kernel) (by decide +kernel)
set_option maxRecDepth 20000 in
theorem gX5_touch_X3_prepare_n48 : GoodIn wsX5_touch (wsX3_prepare) := ggX5_touch_X3_prepare
set_option maxRecDepth 20000 in
theorem ggX5_touch_X0_join : GoodIn wsX5_touch wsX0_join := goodIn_r _ [31, 18, 20, 21, 22, 32, 33, 34, 35, 36, 37, 38, 39, 10, 40, 41, 42, 43, 44, 45, 46, 47, 48, 49, 50, 23, 25, 24, 63, 64, 65, 66, 67, 68, 69, 70, 71, 72, 73, 74, 75] (by decide +kernel) (by decide +kernel)
set_option maxRecDepth 20000 in
theorem gX5_touch_X0_join_n64 : GoodIn wsX5_touch (wsX0_join) := ggX5_touch_X0_join
set_option maxRecDepth 20000 in
theorem ggX5_touch_X3_kept : GoodIn wsX5_touch wsX3_kept := goodIn_r _ [53, 8, 7, 61, 62] (by decide +kernel) (by decide +kernel)
set_option maxRecDepth 20000 in
theorem gX5_touch_X3_kept_n56 : GoodIn wsX5_touch (wsX3_kept) := ggX5_touch_X3_kept
theorem dX5_touch_0 : decode cX5_touch 0 = .ok (.aload_n 0, 1) := by decide +kernel
theorem dX5_touch_1 : decode cX5_touch 1 = .ok (.getfield 29, 3) := by decide +kernel
theorem dX5_touch_4 : decode cX5_touch 4 = .ok (.aload_n 0, 1) := by decide +kernel
theorem dX5_touch_5 : decode cX5_touch 5 = .ok (.getfield 10, 3) := by decide +kernel
theorem dX5_touch_8 : decode cX5_touch 8 = .ok (.invokevirtual 48, 3) := by decide +kernel
theorem dX5_touch_11 : decode cX5_touch 11 = .ok (.aload_n 0, 1) := by decide +kernel
theorem dX5_touch_12 : decode cX5_touch 12 = .ok (.getfield 29, 3) := by decide +kernel
theorem dX5_touch_15 : decode cX5_touch 15 = .ok (.aload_n 0, 1) := by decide +kernel
theorem dX5_touch_16 : decode cX5_touch 16 = .ok (.getfield 10, 3) := by decide +kernel
theorem dX5_touch_19 : decode cX5_touch 19 = .ok (.iload_n 1, 1) := by decide +kernel
theorem dX5_touch_20 : decode cX5_touch 20 = .ok (.iload_n 2, 1) := by decide +kernel
theorem dX5_touch_21 : decode cX5_touch 21 = .ok (.iload_n 3, 1) := by decide +kernel
theorem dX5_touch_22 : decode cX5_touch 22 = .ok (.invokevirtual 64, 3) := by decide +kernel
theorem dX5_touch_25 : decode cX5_touch 25 = .ok (.invokevirtual 56, 3) := by decide +kernel
theorem dX5_touch_28 : decode cX5_touch 28 = .ok (.ireturn, 1) := by decide +kernel
set_option maxRecDepth 20000 in
theorem ggX5_mend_X3_prepare : GoodIn wsX5_mend wsX3_prepare := goodIn_r _ [6, 7, 8, 9, 10, 11, 12, 13, 14, 15, 16, 17, 18, 19, 20, 21, 22, 23, 24, 25, 26, 27, 28, 46, 47, 48, 49, 50, 51, 52, 53, 54, 55, 56, 57, 58, 59, 60] (by decide +kernel) (by decide +kernel)
set_option maxRecDepth 20000 in
theorem gX5_mend_X3_prepare_n48 : GoodIn wsX5_mend (wsX3_prepare) := ggX5_mend_X3_prepare
set_option maxRecDepth 20000 in
theorem ggX5_mend_X0_part : GoodIn wsX5_mend wsX0_part := goodIn_r _ [31, 20, 21, 22, 32, 33, 34, 10, 35, 23, 25, 24, 48, 49, 50, 51, 52, 53, 54, 55, 56, 57, 58, 59, 60] (by decide +kernel) (by decide +kernel)
set_option maxRecDepth 20000 in
theorem gX5_mend_X0_part_n67 : GoodIn wsX5_mend (wsX0_part) := ggX5_mend_X0_part
set_option maxRecDepth 20000 in
theorem ggX5_mend_X3_kept : GoodIn wsX5_mend wsX3_kept := goodIn_r _ [38, 8, 7, 46, 47] (by decide +kernel) (by decide +kernel)
set_option maxRecDepth 20000 in
theorem gX5_mend_X3_kept_n56 : GoodIn wsX5_mend (wsX3_kept) := ggX5_mend_X3_kept
theorem dX5_mend_0 : decode cX5_mend 0 = .ok (.aload_n 0, 1) := by decide +kernel
theorem dX5_mend_1 : decode cX5_mend 1 = .ok (.getfield 29, 3) := by decide +kernel
theorem dX5_mend_4 : decode cX5_mend 4 = .ok (.aload_n 0, 1) := by decide +kernel
theorem dX5_mend_5 : decode cX5_mend 5 = .ok (.getfield 10, 3) := by decide +kernel
theorem dX5_mend_8 : decode cX5_mend 8 = .ok (.invokevirtual 48, 3) := by decide +kernel
theorem dX5_mend_11 : decode cX5_mend 11 = .ok (.aload_n 0, 1) := by decide +kernel
theorem dX5_mend_12 : decode cX5_mend 12 = .ok (.getfield 29, 3) := by decide +kernel
theorem dX5_mend_15 : decode cX5_mend 15 = .ok (.aload_n 0, 1) := by decide +kernel
theorem dX5_mend_16 : decode cX5_mend 16 = .ok (.getfield 10, 3) := by decide +kernel
theorem dX5_mend_19 : decode cX5_mend 19 = .ok (.iload_n 1, 1) := by decide +kernel
theorem dX5_mend_20 : decode cX5_mend 20 = .ok (.invokevirtual 67, 3) := by decide +kernel
theorem dX5_mend_23 : decode cX5_mend 23 = .ok (.invokevirtual 56, 3) := by decide +kernel
theorem dX5_mend_26 : decode cX5_mend 26 = .ok (.ireturn, 1) := by decide +kernel
set_option maxRecDepth 20000 in
theorem ggX5_feed_X3_prepare : GoodIn wsX5_feed wsX3_prepare := goodIn_r _ [6, 7, 8, 9, 10, 11, 12, 13, 14, 15, 16, 17, 18, 19, 20, 21, 22, 23, 24, 25, 26, 27, 28, 53, 54, 55, 56, 57, 58, 59, 60, 61, 62, 63, 64, 65, 66, 67] (by decide +kernel) (by decide +kernel)
set_option maxRecDepth 20000 in
theorem gX5_feed_X3_prepare_n48 : GoodIn wsX5_feed (wsX3_prepare) := ggX5_feed_X3_prepare
set_option maxRecDepth 20000 in
theorem ggX5_feed_X0_turnPair : GoodIn wsX5_feed wsX0_turnPair := goodIn_r _ [31, 19, 32, 33, 34, 35, 36, 37, 10, 38, 23, 25, 24, 39, 40, 41, 42, 55, 56, 57, 58, 59, 60, 61, 62, 63, 64, 65, 66, 67] (by decide +kernel) (by decide +kernel)
set_option maxRecDepth 20000 in
theorem gX5_feed_X0_turnPair_n70 : GoodIn wsX5_feed (wsX0_turnPair) := ggX5_feed_X0_turnPair
set_option maxRecDepth 20000 in
theorem ggX5_feed_X3_kept : GoodIn wsX5_feed wsX3_kept := goodIn_r _ [45, 8, 7, 53, 54] (by decide +kernel) (by decide +kernel)
set_option maxRecDepth 20000 in
theorem gX5_feed_X3_kept_n56 : GoodIn wsX5_feed (wsX3_kept) := ggX5_feed_X3_kept
theorem dX5_feed_0 : decode cX5_feed 0 = .ok (.aload_n 0, 1) := by decide +kernel
theorem dX5_feed_1 : decode cX5_feed 1 = .ok (.getfield 29, 3) := by decide +kernel
theorem dX5_feed_4 : decode cX5_feed 4 = .ok (.aload_n 0, 1) := by decide +kernel
theorem dX5_feed_5 : decode cX5_feed 5 = .ok (.getfield 10, 3) := by decide +kernel
theorem dX5_feed_8 : decode cX5_feed 8 = .ok (.invokevirtual 48, 3) := by decide +kernel
theorem dX5_feed_11 : decode cX5_feed 11 = .ok (.aload_n 0, 1) := by decide +kernel
theorem dX5_feed_12 : decode cX5_feed 12 = .ok (.getfield 29, 3) := by decide +kernel
theorem dX5_feed_15 : decode cX5_feed 15 = .ok (.aload_n 0, 1) := by decide +kernel
theorem dX5_feed_16 : decode cX5_feed 16 = .ok (.getfield 10, 3) := by decide +kernel
theorem dX5_feed_19 : decode cX5_feed 19 = .ok (.iload_n 1, 1) := by decide +kernel
theorem dX5_feed_20 : decode cX5_feed 20 = .ok (.iload_n 2, 1) := by decide +kernel
theorem dX5_feed_21 : decode cX5_feed 21 = .ok (.invokevirtual 70, 3) := by decide +kernel
theorem dX5_feed_24 : decode cX5_feed 24 = .ok (.invokevirtual 56, 3) := by decide +kernel
theorem dX5_feed_27 : decode cX5_feed 27 = .ok (.ireturn, 1) := by decide +kernel
set_option maxRecDepth 20000 in
theorem ggX5_cool_X3_prepare : GoodIn wsX5_cool wsX3_prepare := goodIn_r _ [6, 7, 8, 9, 10, 11, 12, 13, 14, 15, 16, 17, 18, 19, 20, 21, 22, 23, 24, 25, 26, 27, 28, 55, 56, 42, 43, 44, 45, 46, 47, 48, 49, 50, 51, 52, 53, 54] (by decide +kernel) (by decide +kernel)
set_option maxRecDepth 20000 in
theorem gX5_cool_X3_prepare_n48 : GoodIn wsX5_cool (wsX3_prepare) := ggX5_cool_X3_prepare
set_option maxRecDepth 20000 in
theorem ggX5_cool_X0_beginRun : GoodIn wsX5_cool wsX0_beginRun := goodIn_r _ [31, 23, 25, 24, 42, 43, 44, 45, 46, 47, 48, 49, 50, 51, 52, 53, 54] (by decide +kernel) (by decide +kernel)
set_option maxRecDepth 20000 in
theorem gX5_cool_X0_beginRun_n77 : GoodIn wsX5_cool (wsX0_beginRun) := ggX5_cool_X0_beginRun
set_option maxRecDepth 20000 in
theorem ggX5_cool_X3_kept : GoodIn wsX5_cool wsX3_kept := goodIn_r _ [34, 8, 7, 55, 56] (by decide +kernel) (by decide +kernel)
set_option maxRecDepth 20000 in
theorem gX5_cool_X3_kept_n56 : GoodIn wsX5_cool (wsX3_kept) := ggX5_cool_X3_kept
theorem dX5_cool_0 : decode cX5_cool 0 = .ok (.aload_n 0, 1) := by decide +kernel
theorem dX5_cool_1 : decode cX5_cool 1 = .ok (.getfield 29, 3) := by decide +kernel
theorem dX5_cool_4 : decode cX5_cool 4 = .ok (.aload_n 0, 1) := by decide +kernel
theorem dX5_cool_5 : decode cX5_cool 5 = .ok (.getfield 10, 3) := by decide +kernel
theorem dX5_cool_8 : decode cX5_cool 8 = .ok (.invokevirtual 48, 3) := by decide +kernel
theorem dX5_cool_11 : decode cX5_cool 11 = .ok (.aload_n 0, 1) := by decide +kernel
theorem dX5_cool_12 : decode cX5_cool 12 = .ok (.getfield 10, 3) := by decide +kernel
theorem dX5_cool_15 : decode cX5_cool 15 = .ok (.getfield 73, 3) := by decide +kernel
theorem dX5_cool_18 : decode cX5_cool 18 = .ok (.istore_n 1, 1) := by decide +kernel
theorem dX5_cool_19 : decode cX5_cool 19 = .ok (.aload_n 0, 1) := by decide +kernel
theorem dX5_cool_20 : decode cX5_cool 20 = .ok (.getfield 10, 3) := by decide +kernel
theorem dX5_cool_23 : decode cX5_cool 23 = .ok (.invokevirtual 77, 3) := by decide +kernel
theorem dX5_cool_26 : decode cX5_cool 26 = .ok (.aload_n 0, 1) := by decide +kernel
theorem dX5_cool_27 : decode cX5_cool 27 = .ok (.getfield 29, 3) := by decide +kernel
theorem dX5_cool_30 : decode cX5_cool 30 = .ok (.iload_n 1, 1) := by decide +kernel
theorem dX5_cool_31 : decode cX5_cool 31 = .ok (.invokevirtual 56, 3) := by decide +kernel
theorem dX5_cool_34 : decode cX5_cool 34 = .ok (.ireturn, 1) := by decide +kernel
set_option maxRecDepth 20000 in
theorem ggX5_warm_X3_prepare : GoodIn wsX5_warm wsX3_prepare := goodIn_r _ [6, 7, 8, 9, 10, 11, 12, 13, 14, 15, 16, 17, 18, 19, 20, 21, 22, 23, 24, 25, 26, 27, 28, 66, 67, 68, 69, 70, 71, 72, 73, 74, 75, 76, 77, 78, 79, 80] (by decide +kernel) (by decide +kernel)
set_option maxRecDepth 20000 in
theorem gX5_warm_X3_prepare_n48 : GoodIn wsX5_warm (wsX3_prepare) := ggX5_warm_X3_prepare
set_option maxRecDepth 20000 in
theorem ggX5_warm_X0_letPass : GoodIn wsX5_warm wsX0_letPass := goodIn_r _ [31, 23, 32, 33, 34, 10, 35, 20, 21, 36, 37, 38, 39, 18, 22, 40, 41, 42, 43, 19, 44, 45, 46, 47, 24, 48, 13, 14, 15, 16, 17, 49, 50, 51, 52, 53, 54, 55, 68, 69, 70, 71, 72, 73, 74, 75, 76, 77, 78, 79, 80] (by decide +kernel) (by decide +kernel)
set_option maxRecDepth 20000 in
theorem gX5_warm_X0_letPass_n80 : GoodIn wsX5_warm (wsX0_letPass) := ggX5_warm_X0_letPass
set_option maxRecDepth 20000 in
theorem ggX5_warm_X3_kept : GoodIn wsX5_warm wsX3_kept := goodIn_r _ [58, 8, 7, 66, 67] (by decide +kernel) (by decide +kernel)
set_option maxRecDepth 20000 in
theorem gX5_warm_X3_kept_n56 : GoodIn wsX5_warm (wsX3_kept) := ggX5_warm_X3_kept
theorem dX5_warm_0 : decode cX5_warm 0 = .ok (.aload_n 0, 1) := by decide +kernel
theorem dX5_warm_1 : decode cX5_warm 1 = .ok (.getfield 29, 3) := by decide +kernel
theorem dX5_warm_4 : decode cX5_warm 4 = .ok (.aload_n 0, 1) := by decide +kernel
theorem dX5_warm_5 : decode cX5_warm 5 = .ok (.getfield 10, 3) := by decide +kernel
theorem dX5_warm_8 : decode cX5_warm 8 = .ok (.invokevirtual 48, 3) := by decide +kernel
theorem dX5_warm_11 : decode cX5_warm 11 = .ok (.aload_n 0, 1) := by decide +kernel
theorem dX5_warm_12 : decode cX5_warm 12 = .ok (.getfield 29, 3) := by decide +kernel
theorem dX5_warm_15 : decode cX5_warm 15 = .ok (.aload_n 0, 1) := by decide +kernel
theorem dX5_warm_16 : decode cX5_warm 16 = .ok (.getfield 10, 3) := by decide +kernel
theorem dX5_warm_19 : decode cX5_warm 19 = .ok (.iload_n 1, 1) := by decide +kernel
theorem dX5_warm_20 : decode cX5_warm 20 = .ok (.invokevirtual 80, 3) := by decide +kernel
theorem dX5_warm_23 : decode cX5_warm 23 = .ok (.invokevirtual 56, 3) := by decide +kernel
theorem dX5_warm_26 : decode cX5_warm 26 = .ok (.ireturn, 1) := by decide +kernel
set_option maxRecDepth 20000 in
theorem ggX5_probe_X3_prepare : GoodIn wsX5_probe wsX3_prepare := goodIn_r _ [6, 7, 8, 9, 10, 11, 12, 13, 14, 15, 16, 17, 18, 19, 20, 21, 22, 23, 24, 25, 26, 27, 28, 48, 49, 50, 51, 52, 53, 54, 55, 56, 57, 58, 59, 60, 61, 62] (by decide +kernel) (by decide +kernel)
set_option maxRecDepth 20000 in
theorem gX5_probe_X3_prepare_n48 : GoodIn wsX5_probe (wsX3_prepare) := ggX5_probe_X3_prepare
set_option maxRecDepth 20000 in
theorem ggX5_probe_X0_measure : GoodIn wsX5_probe wsX0_measure := goodIn_r _ [31, 25, 24, 26, 27, 28, 23, 32, 33, 34, 35, 36, 37, 50, 51, 52, 53, 54, 55, 56, 57, 58, 59, 60, 61, 62] (by decide +kernel) (by decide +kernel)
set_option maxRecDepth 20000 in
theorem gX5_probe_X0_measure_n83 : GoodIn wsX5_probe (wsX0_measure) := ggX5_probe_X0_measure
set_option maxRecDepth 20000 in
theorem ggX5_probe_X3_kept : GoodIn wsX5_probe wsX3_kept := goodIn_r _ [40, 8, 7, 48, 49] (by decide +kernel) (by decide +kernel)
set_option maxRecDepth 20000 in
theorem gX5_probe_X3_kept_n56 : GoodIn wsX5_probe (wsX3_kept) := ggX5_probe_X3_kept
theorem dX5_probe_0 : decode cX5_probe 0 = .ok (.aload_n 0, 1) := by decide +kernel
theorem dX5_probe_1 : decode cX5_probe 1 = .ok (.getfield 29, 3) := by decide +kernel
theorem dX5_probe_4 : decode cX5_probe 4 = .ok (.aload_n 0, 1) := by decide +kernel
theorem dX5_probe_5 : decode cX5_probe 5 = .ok (.getfield 10, 3) := by decide +kernel
theorem dX5_probe_8 : decode cX5_probe 8 = .ok (.invokevirtual 48, 3) := by decide +kernel
theorem dX5_probe_11 : decode cX5_probe 11 = .ok (.aload_n 0, 1) := by decide +kernel
theorem dX5_probe_12 : decode cX5_probe 12 = .ok (.getfield 29, 3) := by decide +kernel
theorem dX5_probe_15 : decode cX5_probe 15 = .ok (.aload_n 0, 1) := by decide +kernel
theorem dX5_probe_16 : decode cX5_probe 16 = .ok (.getfield 10, 3) := by decide +kernel
theorem dX5_probe_19 : decode cX5_probe 19 = .ok (.iload_n 1, 1) := by decide +kernel
theorem dX5_probe_20 : decode cX5_probe 20 = .ok (.iload_n 2, 1) := by decide +kernel
theorem dX5_probe_21 : decode cX5_probe 21 = .ok (.invokevirtual 83, 3) := by decide +kernel
theorem dX5_probe_24 : decode cX5_probe 24 = .ok (.invokevirtual 56, 3) := by decide +kernel
theorem dX5_probe_27 : decode cX5_probe 27 = .ok (.ireturn, 1) := by decide +kernel
set_option maxRecDepth 20000 in
theorem ggX5_at_X5_placeOf : GoodIn wsX5_at wsX5_placeOf := goodIn_r _ [6] (by decide +kernel) (by decide +kernel)
set_option maxRecDepth 20000 in
theorem gX5_at_X5_placeOf : GoodIn wsX5_at (va_wsS RX5 86 yX5_placeOf wsX5_placeOf) := goodIn_app (goodIn_of _ (by decide +kernel)) ggX5_at_X5_placeOf
set_option maxRecDepth 20000 in
theorem ggX5_at_X5_bitsOfFloat : GoodIn wsX5_at wsX5_bitsOfFloat := goodIn_r _ [9, 10, 11] (by decide +kernel) (by decide +kernel)
set_option maxRecDepth 20000 in
theorem gX5_at_X5_bitsOfFloat : GoodIn wsX5_at (va_wsS RX5 97 yX5_bitsOfFloat wsX5_bitsOfFloat) := goodIn_app (goodIn_of _ (by decide +kernel)) ggX5_at_X5_bitsOfFloat
set_option maxRecDepth 20000 in
theorem ggX5_at_X5_readOf : GoodIn wsX5_at wsX5_readOf := goodIn_r _ [14, 15] (by decide +kernel) (by decide +kernel)
set_option maxRecDepth 20000 in
theorem gX5_at_X5_readOf : GoodIn wsX5_at (va_wsS RX5 101 yX5_readOf wsX5_readOf) := goodIn_app (goodIn_of _ (by decide +kernel)) ggX5_at_X5_readOf
set_option maxRecDepth 20000 in
theorem ggX5_at_X0_isSuspect : GoodIn wsX5_at wsX0_isSuspect := goodIn_r _ [19, 20, 21, 5, 22, 23, 24, 25, 17, 26, 27, 83, 84, 85, 86, 87, 88, 89, 90, 91, 92, 93, 94, 95] (by decide +kernel) (by decide +kernel)
set_option maxRecDepth 20000 in
theorem gX5_at_X0_isSuspect_n104 : GoodIn wsX5_at (wsX0_isSuspect) := ggX5_at_X0_isSuspect
set_option maxRecDepth 20000 in
theorem ggX5_at_X4_couldBe : GoodIn wsX5_at wsX4_couldBe := goodIn_r _ [31, 16, 17, 18, 19, 20, 21, 5, 22, 23, 24, 25, 26, 27, 32, 33, 34, 29, 35, 36, 37, 38, 39, 40, 41, 42, 43, 44, 45, 46, 47, 48, 49, 50, 51, 52, 53, 54, 55, 56, 57, 58, 59, 60, 61, 13, 14, 15, 83, 84, 85, 86, 87, 88, 89, 90, 91, 92, 93, 94, 95, 96, 97, 98, 99, 100] (by decide +kernel) (by decide +kernel)
set_option maxRecDepth 20000 in
theorem gX5_at_X4_couldBe_n108 : GoodIn wsX5_at (wsX4_couldBe) := ggX5_at_X4_couldBe
set_option maxRecDepth 20000 in
theorem ggX5_at_X4_couldBeOneOfTwo : GoodIn wsX5_at wsX4_couldBeOneOfTwo := goodIn_r _ [64, 65, 66, 39, 67, 68, 69, 70, 16, 17, 18, 19, 20, 21, 5, 22, 23, 24, 25, 26, 27, 32, 33, 34, 29, 35, 36, 37, 38, 40, 41, 42, 43, 44, 45, 46, 47, 48, 49, 50, 51, 52, 53, 54, 55, 56, 57, 58, 59, 60, 61, 13, 14, 15, 83, 84, 85, 86, 87, 88, 89, 90, 91, 92, 93, 94, 95, 96, 97, 98, 99, 100] (by decide +kernel) (by decide +kernel)
set_option maxRecDepth 20000 in
theorem gX5_at_X4_couldBeOneOfTwo_n112 : GoodIn wsX5_at (wsX4_couldBeOneOfTwo) := ggX5_at_X4_couldBeOneOfTwo
set_option maxRecDepth 20000 in
theorem ggX5_at_X0_touchAt : GoodIn wsX5_at wsX0_touchAt := goodIn_r _ [73, 74, 75, 83, 84, 85, 86, 87, 88, 89, 90, 91, 92, 93, 94, 95] (by decide +kernel) (by decide +kernel)
set_option maxRecDepth 20000 in
theorem gX5_at_X0_touchAt_n115 : GoodIn wsX5_at (wsX0_touchAt) := ggX5_at_X0_touchAt
theorem dX5_at_0 : decode cX5_at 0 = .ok (.iload_n 1, 1) := by decide +kernel
theorem dX5_at_1 : decode cX5_at 1 = .ok (.iload_n 2, 1) := by decide +kernel
theorem dX5_at_2 : decode cX5_at 2 = .ok (.invokestatic 86, 3) := by decide +kernel
theorem dX5_at_5 : decode cX5_at 5 = .ok (.istore 4, 2) := by decide +kernel
theorem dX5_at_7 : decode cX5_at 7 = .ok (.iload 4, 2) := by decide +kernel
theorem dX5_at_9 : decode cX5_at 9 = .ok (.ifCond .ge 5, 3) := by decide +kernel
theorem dX5_at_12 : decode cX5_at 12 = .ok (.iconst (-1), 1) := by decide +kernel
theorem dX5_at_13 : decode cX5_at 13 = .ok (.ireturn, 1) := by decide +kernel
theorem dX5_at_14 : decode cX5_at 14 = .ok (.iload_n 3, 1) := by decide +kernel
theorem dX5_at_15 : decode cX5_at 15 = .ok (.tableswitch 152 0 6 #[41, 52, 66, 80, 98, 120, 142], 41) := by decide +kernel
theorem dX5_at_56 : decode cX5_at 56 = .ok (.aload_n 0, 1) := by decide +kernel
theorem dX5_at_57 : decode cX5_at 57 = .ok (.getfield 10, 3) := by decide +kernel
theorem dX5_at_60 : decode cX5_at 60 = .ok (.getfield 89, 3) := by decide +kernel
theorem dX5_at_63 : decode cX5_at 63 = .ok (.iload 4, 2) := by decide +kernel
theorem dX5_at_65 : decode cX5_at 65 = .ok (.iaload, 1) := by decide +kernel
theorem dX5_at_66 : decode cX5_at 66 = .ok (.ireturn, 1) := by decide +kernel
theorem dX5_at_67 : decode cX5_at 67 = .ok (.aload_n 0, 1) := by decide +kernel
theorem dX5_at_68 : decode cX5_at 68 = .ok (.getfield 10, 3) := by decide +kernel
theorem dX5_at_71 : decode cX5_at 71 = .ok (.getfield 93, 3) := by decide +kernel
theorem dX5_at_74 : decode cX5_at 74 = .ok (.iload 4, 2) := by decide +kernel
theorem dX5_at_76 : decode cX5_at 76 = .ok (.faload, 1) := by decide +kernel
theorem dX5_at_77 : decode cX5_at 77 = .ok (.invokestatic 97, 3) := by decide +kernel
theorem dX5_at_80 : decode cX5_at 80 = .ok (.ireturn, 1) := by decide +kernel
theorem dX5_at_81 : decode cX5_at 81 = .ok (.aload_n 0, 1) := by decide +kernel
theorem dX5_at_82 : decode cX5_at 82 = .ok (.getfield 10, 3) := by decide +kernel
theorem dX5_at_85 : decode cX5_at 85 = .ok (.getfield 93, 3) := by decide +kernel
theorem dX5_at_88 : decode cX5_at 88 = .ok (.iload 4, 2) := by decide +kernel
theorem dX5_at_90 : decode cX5_at 90 = .ok (.faload, 1) := by decide +kernel
theorem dX5_at_91 : decode cX5_at 91 = .ok (.invokestatic 101, 3) := by decide +kernel
theorem dX5_at_94 : decode cX5_at 94 = .ok (.ireturn, 1) := by decide +kernel
theorem dX5_at_95 : decode cX5_at 95 = .ok (.aload_n 0, 1) := by decide +kernel
theorem dX5_at_96 : decode cX5_at 96 = .ok (.getfield 10, 3) := by decide +kernel
theorem dX5_at_99 : decode cX5_at 99 = .ok (.iload 4, 2) := by decide +kernel
theorem dX5_at_101 : decode cX5_at 101 = .ok (.invokevirtual 104, 3) := by decide +kernel
theorem dX5_at_104 : decode cX5_at 104 = .ok (.ifCond .eq 7, 3) := by decide +kernel
theorem dX5_at_107 : decode cX5_at 107 = .ok (.iconst 1, 1) := by decide +kernel
theorem dX5_at_108 : decode cX5_at 108 = .ok (.goto 4, 3) := by decide +kernel
theorem dX5_at_111 : decode cX5_at 111 = .ok (.iconst 0, 1) := by decide +kernel
theorem dX5_at_112 : decode cX5_at 112 = .ok (.ireturn, 1) := by decide +kernel
theorem dX5_at_113 : decode cX5_at 113 = .ok (.aload_n 0, 1) := by decide +kernel
theorem dX5_at_114 : decode cX5_at 114 = .ok (.getfield 22, 3) := by decide +kernel
theorem dX5_at_117 : decode cX5_at 117 = .ok (.aload_n 0, 1) := by decide +kernel
theorem dX5_at_118 : decode cX5_at 118 = .ok (.getfield 10, 3) := by decide +kernel
theorem dX5_at_121 : decode cX5_at 121 = .ok (.iload 4, 2) := by decide +kernel
theorem dX5_at_123 : decode cX5_at 123 = .ok (.invokevirtual 108, 3) := by decide +kernel
theorem dX5_at_126 : decode cX5_at 126 = .ok (.ifCond .eq 7, 3) := by decide +kernel
theorem dX5_at_129 : decode cX5_at 129 = .ok (.iconst 1, 1) := by decide +kernel
theorem dX5_at_130 : decode cX5_at 130 = .ok (.goto 4, 3) := by decide +kernel
theorem dX5_at_133 : decode cX5_at 133 = .ok (.iconst 0, 1) := by decide +kernel
theorem dX5_at_134 : decode cX5_at 134 = .ok (.ireturn, 1) := by decide +kernel
theorem dX5_at_135 : decode cX5_at 135 = .ok (.aload_n 0, 1) := by decide +kernel
theorem dX5_at_136 : decode cX5_at 136 = .ok (.getfield 22, 3) := by decide +kernel
theorem dX5_at_139 : decode cX5_at 139 = .ok (.aload_n 0, 1) := by decide +kernel
theorem dX5_at_140 : decode cX5_at 140 = .ok (.getfield 10, 3) := by decide +kernel
theorem dX5_at_143 : decode cX5_at 143 = .ok (.iload 4, 2) := by decide +kernel
theorem dX5_at_145 : decode cX5_at 145 = .ok (.invokevirtual 112, 3) := by decide +kernel
theorem dX5_at_148 : decode cX5_at 148 = .ok (.ifCond .eq 7, 3) := by decide +kernel
theorem dX5_at_151 : decode cX5_at 151 = .ok (.iconst 1, 1) := by decide +kernel
theorem dX5_at_152 : decode cX5_at 152 = .ok (.goto 4, 3) := by decide +kernel
theorem dX5_at_155 : decode cX5_at 155 = .ok (.iconst 0, 1) := by decide +kernel
theorem dX5_at_156 : decode cX5_at 156 = .ok (.ireturn, 1) := by decide +kernel
theorem dX5_at_157 : decode cX5_at 157 = .ok (.aload_n 0, 1) := by decide +kernel
theorem dX5_at_158 : decode cX5_at 158 = .ok (.getfield 10, 3) := by decide +kernel
theorem dX5_at_161 : decode cX5_at 161 = .ok (.iload 4, 2) := by decide +kernel
theorem dX5_at_163 : decode cX5_at 163 = .ok (.invokevirtual 115, 3) := by decide +kernel
theorem dX5_at_166 : decode cX5_at 166 = .ok (.ireturn, 1) := by decide +kernel
theorem dX5_at_167 : decode cX5_at 167 = .ok (.bipush (-2), 2) := by decide +kernel
theorem dX5_at_169 : decode cX5_at 169 = .ok (.ireturn, 1) := by decide +kernel
set_option maxRecDepth 20000 in
theorem ggX5_row_X0_tracked : GoodIn wsX5_row wsX0_tracked := goodIn_r _ [6, 7, 75, 76, 77, 78, 79, 80, 81, 82, 83, 84, 85, 86, 87] (by decide +kernel) (by decide +kernel)
set_option maxRecDepth 20000 in
theorem gX5_row_X0_tracked_n118 : GoodIn wsX5_row (wsX0_tracked) := ggX5_row_X0_tracked
set_option maxRecDepth 20000 in
theorem ggX5_row_X5_columnsOf : GoodIn wsX5_row wsX5_columnsOf := goodIn_r _ [11, 12] (by decide +kernel) (by decide +kernel)
set_option maxRecDepth 20000 in
theorem gX5_row_X5_columnsOf : GoodIn wsX5_row (va_wsS RX5 122 yX5_columnsOf wsX5_columnsOf) := goodIn_app (goodIn_of _ (by decide +kernel)) ggX5_row_X5_columnsOf
set_option maxRecDepth 20000 in
theorem ggX5_row_X0_suspects : GoodIn wsX5_row wsX0_suspects := goodIn_r _ [15, 16, 17, 18, 4, 19, 7, 20, 10, 21, 22, 23, 24, 25, 26, 75, 76, 77, 78, 79, 80, 81, 82, 83, 84, 85, 86, 87] (by decide +kernel) (by decide +kernel)
set_option maxRecDepth 20000 in
theorem gX5_row_X0_suspects_n126 : GoodIn wsX5_row (wsX0_suspects) := ggX5_row_X0_suspects
set_option maxRecDepth 20000 in
theorem ggX5_row_X4_fitting : GoodIn wsX5_row wsX4_fitting := goodIn_r _ [30, 31, 32, 33, 28, 34, 17, 4, 18, 19, 7, 20, 10, 21, 22, 23, 24, 25, 26, 35, 36, 37, 38, 39, 40, 41, 42, 43, 44, 45, 46, 47, 48, 49, 50, 51, 52, 53, 54, 55, 56, 57, 58, 59, 60, 61, 62, 63, 64, 65, 66, 67, 75, 76, 77, 78, 79, 80, 81, 82, 83, 84, 85, 86, 87, 88, 89, 90, 91, 92] (by decide +kernel) (by decide +kernel)
set_option maxRecDepth 20000 in
theorem gX5_row_X4_fitting_n129 : GoodIn wsX5_row (wsX4_fitting) := ggX5_row_X4_fitting
theorem dX5_row_0 : decode cX5_row 0 = .ok (.iload_n 1, 1) := by decide +kernel
theorem dX5_row_1 : decode cX5_row 1 = .ok (.ifCond .lt 9, 3) := by decide +kernel
theorem dX5_row_4 : decode cX5_row 4 = .ok (.iload_n 1, 1) := by decide +kernel
theorem dX5_row_5 : decode cX5_row 5 = .ok (.bipush 8, 2) := by decide +kernel
theorem dX5_row_7 : decode cX5_row 7 = .ok (.if_icmp .lt 5, 3) := by decide +kernel
theorem dX5_row_10 : decode cX5_row 10 = .ok (.iconst (-1), 1) := by decide +kernel
theorem dX5_row_11 : decode cX5_row 11 = .ok (.ireturn, 1) := by decide +kernel
theorem dX5_row_12 : decode cX5_row 12 = .ok (.iload_n 2, 1) := by decide +kernel
theorem dX5_row_13 : decode cX5_row 13 = .ok (.tableswitch 67 0 2 #[27, 39, 51], 27) := by decide +kernel
theorem dX5_row_40 : decode cX5_row 40 = .ok (.aload_n 0, 1) := by decide +kernel
theorem dX5_row_41 : decode cX5_row 41 = .ok (.getfield 10, 3) := by decide +kernel
theorem dX5_row_44 : decode cX5_row 44 = .ok (.invokevirtual 118, 3) := by decide +kernel
theorem dX5_row_47 : decode cX5_row 47 = .ok (.iload_n 1, 1) := by decide +kernel
theorem dX5_row_48 : decode cX5_row 48 = .ok (.invokestatic 122, 3) := by decide +kernel
theorem dX5_row_51 : decode cX5_row 51 = .ok (.ireturn, 1) := by decide +kernel
theorem dX5_row_52 : decode cX5_row 52 = .ok (.aload_n 0, 1) := by decide +kernel
theorem dX5_row_53 : decode cX5_row 53 = .ok (.getfield 10, 3) := by decide +kernel
theorem dX5_row_56 : decode cX5_row 56 = .ok (.invokevirtual 126, 3) := by decide +kernel
theorem dX5_row_59 : decode cX5_row 59 = .ok (.iload_n 1, 1) := by decide +kernel
theorem dX5_row_60 : decode cX5_row 60 = .ok (.invokestatic 122, 3) := by decide +kernel
theorem dX5_row_63 : decode cX5_row 63 = .ok (.ireturn, 1) := by decide +kernel
theorem dX5_row_64 : decode cX5_row 64 = .ok (.aload_n 0, 1) := by decide +kernel
theorem dX5_row_65 : decode cX5_row 65 = .ok (.getfield 22, 3) := by decide +kernel
theorem dX5_row_68 : decode cX5_row 68 = .ok (.aload_n 0, 1) := by decide +kernel
theorem dX5_row_69 : decode cX5_row 69 = .ok (.getfield 10, 3) := by decide +kernel
theorem dX5_row_72 : decode cX5_row 72 = .ok (.invokevirtual 129, 3) := by decide +kernel
theorem dX5_row_75 : decode cX5_row 75 = .ok (.iload_n 1, 1) := by decide +kernel
theorem dX5_row_76 : decode cX5_row 76 = .ok (.invokestatic 122, 3) := by decide +kernel
theorem dX5_row_79 : decode cX5_row 79 = .ok (.ireturn, 1) := by decide +kernel
theorem dX5_row_80 : decode cX5_row 80 = .ok (.bipush (-2), 2) := by decide +kernel
theorem dX5_row_82 : decode cX5_row 82 = .ok (.ireturn, 1) := by decide +kernel
set_option maxRecDepth 20000 in
theorem ggX5_ofTouch_X0_isLive : GoodIn wsX5_ofTouch wsX0_isLive := goodIn_r _ [5, 6, 7, 8, 9, 10, 11, 3, 12, 13, 21, 22, 23, 24, 25, 26, 27, 28, 29, 30, 31, 32, 33] (by decide +kernel) (by decide +kernel)
set_option maxRecDepth 20000 in
theorem gX5_ofTouch_X0_isLive_n142 : GoodIn wsX5_ofTouch (wsX0_isLive) := ggX5_ofTouch_X0_isLive
theorem dX5_ofTouch_0 : decode cX5_ofTouch 0 = .ok (.iload_n 1, 1) := by decide +kernel
theorem dX5_ofTouch_1 : decode cX5_ofTouch 1 = .ok (.ifCond .lt 14, 3) := by decide +kernel
theorem dX5_ofTouch_4 : decode cX5_ofTouch 4 = .ok (.iload_n 1, 1) := by decide +kernel
theorem dX5_ofTouch_5 : decode cX5_ofTouch 5 = .ok (.aload_n 0, 1) := by decide +kernel
theorem dX5_ofTouch_6 : decode cX5_ofTouch 6 = .ok (.getfield 10, 3) := by decide +kernel
theorem dX5_ofTouch_9 : decode cX5_ofTouch 9 = .ok (.getfield 133, 3) := by decide +kernel
theorem dX5_ofTouch_12 : decode cX5_ofTouch 12 = .ok (.if_icmp .lt 5, 3) := by decide +kernel
theorem dX5_ofTouch_15 : decode cX5_ofTouch 15 = .ok (.iconst (-1), 1) := by decide +kernel
theorem dX5_ofTouch_16 : decode cX5_ofTouch 16 = .ok (.ireturn, 1) := by decide +kernel
theorem dX5_ofTouch_17 : decode cX5_ofTouch 17 = .ok (.iload_n 2, 1) := by decide +kernel
theorem dX5_ofTouch_18 : decode cX5_ofTouch 18 = .ok (.tableswitch 85 0 3 #[30, 40, 58, 68], 30) := by decide +kernel
theorem dX5_ofTouch_48 : decode cX5_ofTouch 48 = .ok (.aload_n 0, 1) := by decide +kernel
theorem dX5_ofTouch_49 : decode cX5_ofTouch 49 = .ok (.getfield 10, 3) := by decide +kernel
theorem dX5_ofTouch_52 : decode cX5_ofTouch 52 = .ok (.getfield 136, 3) := by decide +kernel
theorem dX5_ofTouch_55 : decode cX5_ofTouch 55 = .ok (.iload_n 1, 1) := by decide +kernel
theorem dX5_ofTouch_56 : decode cX5_ofTouch 56 = .ok (.iaload, 1) := by decide +kernel
theorem dX5_ofTouch_57 : decode cX5_ofTouch 57 = .ok (.ireturn, 1) := by decide +kernel
theorem dX5_ofTouch_58 : decode cX5_ofTouch 58 = .ok (.aload_n 0, 1) := by decide +kernel
theorem dX5_ofTouch_59 : decode cX5_ofTouch 59 = .ok (.getfield 10, 3) := by decide +kernel
theorem dX5_ofTouch_62 : decode cX5_ofTouch 62 = .ok (.getfield 89, 3) := by decide +kernel
theorem dX5_ofTouch_65 : decode cX5_ofTouch 65 = .ok (.aload_n 0, 1) := by decide +kernel
theorem dX5_ofTouch_66 : decode cX5_ofTouch 66 = .ok (.getfield 10, 3) := by decide +kernel
theorem dX5_ofTouch_69 : decode cX5_ofTouch 69 = .ok (.getfield 136, 3) := by decide +kernel
theorem dX5_ofTouch_72 : decode cX5_ofTouch 72 = .ok (.iload_n 1, 1) := by decide +kernel
theorem dX5_ofTouch_73 : decode cX5_ofTouch 73 = .ok (.iaload, 1) := by decide +kernel
theorem dX5_ofTouch_74 : decode cX5_ofTouch 74 = .ok (.iaload, 1) := by decide +kernel
theorem dX5_ofTouch_75 : decode cX5_ofTouch 75 = .ok (.ireturn, 1) := by decide +kernel
theorem dX5_ofTouch_76 : decode cX5_ofTouch 76 = .ok (.aload_n 0, 1) := by decide +kernel
theorem dX5_ofTouch_77 : decode cX5_ofTouch 77 = .ok (.getfield 10, 3) := by decide +kernel
theorem dX5_ofTouch_80 : decode cX5_ofTouch 80 = .ok (.getfield 139, 3) := by decide +kernel
theorem dX5_ofTouch_83 : decode cX5_ofTouch 83 = .ok (.iload_n 1, 1) := by decide +kernel
theorem dX5_ofTouch_84 : decode cX5_ofTouch 84 = .ok (.iaload, 1) := by decide +kernel
theorem dX5_ofTouch_85 : decode cX5_ofTouch 85 = .ok (.ireturn, 1) := by decide +kernel
theorem dX5_ofTouch_86 : decode cX5_ofTouch 86 = .ok (.aload_n 0, 1) := by decide +kernel
theorem dX5_ofTouch_87 : decode cX5_ofTouch 87 = .ok (.getfield 10, 3) := by decide +kernel
theorem dX5_ofTouch_90 : decode cX5_ofTouch 90 = .ok (.iload_n 1, 1) := by decide +kernel
theorem dX5_ofTouch_91 : decode cX5_ofTouch 91 = .ok (.invokevirtual 142, 3) := by decide +kernel
theorem dX5_ofTouch_94 : decode cX5_ofTouch 94 = .ok (.ifCond .eq 7, 3) := by decide +kernel
theorem dX5_ofTouch_97 : decode cX5_ofTouch 97 = .ok (.iconst 1, 1) := by decide +kernel
theorem dX5_ofTouch_98 : decode cX5_ofTouch 98 = .ok (.goto 4, 3) := by decide +kernel
theorem dX5_ofTouch_101 : decode cX5_ofTouch 101 = .ok (.iconst 0, 1) := by decide +kernel
theorem dX5_ofTouch_102 : decode cX5_ofTouch 102 = .ok (.ireturn, 1) := by decide +kernel
theorem dX5_ofTouch_103 : decode cX5_ofTouch 103 = .ok (.bipush (-2), 2) := by decide +kernel
theorem dX5_ofTouch_105 : decode cX5_ofTouch 105 = .ok (.ireturn, 1) := by decide +kernel
theorem dX5_reading_0 : decode cX5_reading 0 = .ok (.iload_n 1, 1) := by decide +kernel
theorem dX5_reading_1 : decode cX5_reading 1 = .ok (.ifCond .lt 14, 3) := by decide +kernel
theorem dX5_reading_4 : decode cX5_reading 4 = .ok (.iload_n 1, 1) := by decide +kernel
theorem dX5_reading_5 : decode cX5_reading 5 = .ok (.aload_n 0, 1) := by decide +kernel
theorem dX5_reading_6 : decode cX5_reading 6 = .ok (.getfield 10, 3) := by decide +kernel
theorem dX5_reading_9 : decode cX5_reading 9 = .ok (.getfield 145, 3) := by decide +kernel
theorem dX5_reading_12 : decode cX5_reading 12 = .ok (.if_icmp .lt 5, 3) := by decide +kernel
theorem dX5_reading_15 : decode cX5_reading 15 = .ok (.iconst (-1), 1) := by decide +kernel
theorem dX5_reading_16 : decode cX5_reading 16 = .ok (.ireturn, 1) := by decide +kernel
theorem dX5_reading_17 : decode cX5_reading 17 = .ok (.iload_n 2, 1) := by decide +kernel
theorem dX5_reading_18 : decode cX5_reading 18 = .ok (.tableswitch 56 0 2 #[26, 36, 46], 26) := by decide +kernel
theorem dX5_reading_44 : decode cX5_reading 44 = .ok (.aload_n 0, 1) := by decide +kernel
theorem dX5_reading_45 : decode cX5_reading 45 = .ok (.getfield 10, 3) := by decide +kernel
theorem dX5_reading_48 : decode cX5_reading 48 = .ok (.getfield 148, 3) := by decide +kernel
theorem dX5_reading_51 : decode cX5_reading 51 = .ok (.iload_n 1, 1) := by decide +kernel
theorem dX5_reading_52 : decode cX5_reading 52 = .ok (.iaload, 1) := by decide +kernel
theorem dX5_reading_53 : decode cX5_reading 53 = .ok (.ireturn, 1) := by decide +kernel
theorem dX5_reading_54 : decode cX5_reading 54 = .ok (.aload_n 0, 1) := by decide +kernel
theorem dX5_reading_55 : decode cX5_reading 55 = .ok (.getfield 10, 3) := by decide +kernel
theorem dX5_reading_58 : decode cX5_reading 58 = .ok (.getfield 151, 3) := by decide +kernel
theorem dX5_reading_61 : decode cX5_reading 61 = .ok (.iload_n 1, 1) := by decide +kernel
theorem dX5_reading_62 : decode cX5_reading 62 = .ok (.iaload, 1) := by decide +kernel
theorem dX5_reading_63 : decode cX5_reading 63 = .ok (.ireturn, 1) := by decide +kernel
theorem dX5_reading_64 : decode cX5_reading 64 = .ok (.aload_n 0, 1) := by decide +kernel
theorem dX5_reading_65 : decode cX5_reading 65 = .ok (.getfield 10, 3) := by decide +kernel
theorem dX5_reading_68 : decode cX5_reading 68 = .ok (.getfield 154, 3) := by decide +kernel
theorem dX5_reading_71 : decode cX5_reading 71 = .ok (.iload_n 1, 1) := by decide +kernel
theorem dX5_reading_72 : decode cX5_reading 72 = .ok (.iaload, 1) := by decide +kernel
theorem dX5_reading_73 : decode cX5_reading 73 = .ok (.ireturn, 1) := by decide +kernel
theorem dX5_reading_74 : decode cX5_reading 74 = .ok (.bipush (-2), 2) := by decide +kernel
theorem dX5_reading_76 : decode cX5_reading 76 = .ok (.ireturn, 1) := by decide +kernel
set_option maxRecDepth 20000 in
theorem ggX5_ofNet_X5_isNet : GoodIn wsX5_ofNet wsX5_isNet := goodIn_r _ [5] (by decide +kernel) (by decide +kernel)
set_option maxRecDepth 20000 in
theorem gX5_ofNet_X5_isNet : GoodIn wsX5_ofNet (va_wsS RX5 157 yX5_isNet wsX5_isNet) := goodIn_app (goodIn_of _ (by decide +kernel)) ggX5_ofNet_X5_isNet
set_option maxRecDepth 20000 in
theorem ggX5_ofNet_X0_placesOf : GoodIn wsX5_ofNet wsX0_placesOf := goodIn_r _ [9, 10, 27, 28, 29, 30, 31, 32, 33, 34, 35, 36, 37, 38, 39] (by decide +kernel) (by decide +kernel)
set_option maxRecDepth 20000 in
theorem gX5_ofNet_X0_placesOf_n160 : GoodIn wsX5_ofNet (wsX0_placesOf) := ggX5_ofNet_X0_placesOf
set_option maxRecDepth 20000 in
theorem ggX5_ofNet_X0_warmthOf : GoodIn wsX5_ofNet wsX0_warmthOf := goodIn_r _ [13, 10, 14, 27, 28, 29, 30, 31, 32, 33, 34, 35, 36, 37, 38, 39] (by decide +kernel) (by decide +kernel)
set_option maxRecDepth 20000 in
theorem gX5_ofNet_X0_warmthOf_n166 : GoodIn wsX5_ofNet (wsX0_warmthOf) := ggX5_ofNet_X0_warmthOf
set_option maxRecDepth 20000 in
theorem ggX5_ofNet_X5_bitsOfFloat : GoodIn wsX5_ofNet wsX5_bitsOfFloat := goodIn_r _ [17, 18, 19] (by decide +kernel) (by decide +kernel)
set_option maxRecDepth 20000 in
theorem gX5_ofNet_X5_bitsOfFloat : GoodIn wsX5_ofNet (va_wsS RX5 97 yX5_bitsOfFloat wsX5_bitsOfFloat) := goodIn_app (goodIn_of _ (by decide +kernel)) ggX5_ofNet_X5_bitsOfFloat
theorem dX5_ofNet_0 : decode cX5_ofNet 0 = .ok (.iload_n 1, 1) := by decide +kernel
theorem dX5_ofNet_1 : decode cX5_ofNet 1 = .ok (.invokestatic 157, 3) := by decide +kernel
theorem dX5_ofNet_4 : decode cX5_ofNet 4 = .ok (.ifCond .ne 5, 3) := by decide +kernel
theorem dX5_ofNet_7 : decode cX5_ofNet 7 = .ok (.iconst (-1), 1) := by decide +kernel
theorem dX5_ofNet_8 : decode cX5_ofNet 8 = .ok (.ireturn, 1) := by decide +kernel
theorem dX5_ofNet_9 : decode cX5_ofNet 9 = .ok (.iload_n 2, 1) := by decide +kernel
theorem dX5_ofNet_10 : decode cX5_ofNet 10 = .ok (.tableswitch 57 0 2 #[26, 35, 45], 26) := by decide +kernel
theorem dX5_ofNet_36 : decode cX5_ofNet 36 = .ok (.aload_n 0, 1) := by decide +kernel
theorem dX5_ofNet_37 : decode cX5_ofNet 37 = .ok (.getfield 10, 3) := by decide +kernel
theorem dX5_ofNet_40 : decode cX5_ofNet 40 = .ok (.iload_n 1, 1) := by decide +kernel
theorem dX5_ofNet_41 : decode cX5_ofNet 41 = .ok (.invokevirtual 160, 3) := by decide +kernel
theorem dX5_ofNet_44 : decode cX5_ofNet 44 = .ok (.ireturn, 1) := by decide +kernel
theorem dX5_ofNet_45 : decode cX5_ofNet 45 = .ok (.aload_n 0, 1) := by decide +kernel
theorem dX5_ofNet_46 : decode cX5_ofNet 46 = .ok (.getfield 10, 3) := by decide +kernel
theorem dX5_ofNet_49 : decode cX5_ofNet 49 = .ok (.getfield 163, 3) := by decide +kernel
theorem dX5_ofNet_52 : decode cX5_ofNet 52 = .ok (.iload_n 1, 1) := by decide +kernel
theorem dX5_ofNet_53 : decode cX5_ofNet 53 = .ok (.iaload, 1) := by decide +kernel
theorem dX5_ofNet_54 : decode cX5_ofNet 54 = .ok (.ireturn, 1) := by decide +kernel
theorem dX5_ofNet_55 : decode cX5_ofNet 55 = .ok (.aload_n 0, 1) := by decide +kernel
theorem dX5_ofNet_56 : decode cX5_ofNet 56 = .ok (.getfield 10, 3) := by decide +kernel
theorem dX5_ofNet_59 : decode cX5_ofNet 59 = .ok (.iload_n 1, 1) := by decide +kernel
theorem dX5_ofNet_60 : decode cX5_ofNet 60 = .ok (.invokevirtual 166, 3) := by decide +kernel
theorem dX5_ofNet_63 : decode cX5_ofNet 63 = .ok (.invokestatic 97, 3) := by decide +kernel
theorem dX5_ofNet_66 : decode cX5_ofNet 66 = .ok (.ireturn, 1) := by decide +kernel
theorem dX5_ofNet_67 : decode cX5_ofNet 67 = .ok (.bipush (-2), 2) := by decide +kernel
theorem dX5_ofNet_69 : decode cX5_ofNet 69 = .ok (.ireturn, 1) := by decide +kernel
set_option maxRecDepth 20000 in
theorem ggX5_count_X0_heated : GoodIn wsX5_count wsX0_heated := goodIn_r _ [8, 9, 10, 11, 12, 13, 6, 14, 15, 16, 17, 18, 19, 20, 21, 97, 98, 99, 100, 101, 102, 103, 104, 105, 106, 107, 108, 109] (by decide +kernel) (by decide +kernel)
set_option maxRecDepth 20000 in
theorem gX5_count_X0_heated_n170 : GoodIn wsX5_count (wsX0_heated) := ggX5_count_X0_heated
set_option maxRecDepth 20000 in
theorem ggX5_count_J13_bitCount_95d88 : GoodIn wsX5_count wsJ13_bitCount_95d88 := goodIn_r _ [25, 26, 27, 28] (by decide +kernel) (by decide +kernel)
set_option maxRecDepth 20000 in
theorem gX5_count_J13_bitCount_95d88 : GoodIn wsX5_count (va_wsS RX5 173 yJ13_bitCount_95d88 wsJ13_bitCount_95d88) := goodIn_app (goodIn_of _ (by decide +kernel)) ggX5_count_J13_bitCount_95d88
set_option maxRecDepth 20000 in
theorem ggX5_count_X0_tracked : GoodIn wsX5_count wsX0_tracked := goodIn_r _ [31, 15, 97, 98, 99, 100, 101, 102, 103, 104, 105, 106, 107, 108, 109] (by decide +kernel) (by decide +kernel)
set_option maxRecDepth 20000 in
theorem gX5_count_X0_tracked_n118 : GoodIn wsX5_count (wsX0_tracked) := ggX5_count_X0_tracked
set_option maxRecDepth 20000 in
theorem ggX5_count_X0_suspects : GoodIn wsX5_count wsX0_suspects := goodIn_r _ [34, 35, 36, 37, 6, 38, 15, 39, 40, 41, 17, 18, 19, 20, 21, 97, 98, 99, 100, 101, 102, 103, 104, 105, 106, 107, 108, 109] (by decide +kernel) (by decide +kernel)
set_option maxRecDepth 20000 in
theorem gX5_count_X0_suspects_n126 : GoodIn wsX5_count (wsX0_suspects) := ggX5_count_X0_suspects
set_option maxRecDepth 20000 in
theorem ggX5_count_X4_fitting : GoodIn wsX5_count wsX4_fitting := goodIn_r _ [45, 46, 47, 48, 43, 49, 36, 6, 37, 38, 15, 39, 40, 41, 17, 18, 19, 20, 21, 50, 51, 52, 53, 54, 55, 56, 57, 58, 59, 60, 61, 62, 63, 64, 65, 66, 67, 68, 69, 70, 71, 72, 73, 74, 75, 76, 77, 78, 79, 80, 81, 82, 97, 98, 99, 100, 101, 102, 103, 104, 105, 106, 107, 108, 109, 114, 115, 116, 117, 118] (by decide +kernel) (by decide +kernel)
set_option maxRecDepth 20000 in
theorem gX5_count_X4_fitting_n129 : GoodIn wsX5_count (wsX4_fitting) := ggX5_count_X4_fitting
set_option maxRecDepth 20000 in
theorem ggX5_count_X4_pairs : GoodIn wsX5_count wsX4_pairs := goodIn_r _ [85, 32, 6, 33, 34, 35, 36, 37, 38, 15, 39, 40, 41, 17, 18, 19, 20, 21, 78, 79, 50, 51, 52, 43, 53, 54, 55, 56, 57, 58, 59, 60, 61, 62, 63, 64, 65, 66, 67, 68, 69, 70, 71, 72, 73, 74, 75, 76, 77, 80, 81, 82, 97, 98, 99, 100, 101, 102, 103, 104, 105, 106, 107, 108, 109, 114, 115, 116, 117, 118] (by decide +kernel) (by decide +kernel)
set_option maxRecDepth 20000 in
theorem gX5_count_X4_pairs_n179 : GoodIn wsX5_count (wsX4_pairs) := ggX5_count_X4_pairs
set_option maxRecDepth 20000 in
theorem ggX5_count_X0_warmest : GoodIn wsX5_count wsX0_warmest := goodIn_r _ [88, 89, 97, 98, 99, 100, 101, 102, 103, 104, 105, 106, 107, 108, 109] (by decide +kernel) (by decide +kernel)
set_option maxRecDepth 20000 in
theorem gX5_count_X0_warmest_n183 : GoodIn wsX5_count (wsX0_warmest) := ggX5_count_X0_warmest
theorem dX5_count_0 : decode cX5_count 0 = .ok (.iload_n 1, 1) := by decide +kernel
theorem dX5_count_1 : decode cX5_count 1 = .ok (.tableswitch 196 0 14 #[75, 83, 91, 102, 110, 121, 132, 147, 159, 167, 167, 167, 167, 180, 188], 75) := by decide +kernel
theorem dX5_count_76 : decode cX5_count 76 = .ok (.aload_n 0, 1) := by decide +kernel
theorem dX5_count_77 : decode cX5_count 77 = .ok (.getfield 10, 3) := by decide +kernel
theorem dX5_count_80 : decode cX5_count 80 = .ok (.getfield 73, 3) := by decide +kernel
theorem dX5_count_83 : decode cX5_count 83 = .ok (.ireturn, 1) := by decide +kernel
theorem dX5_count_84 : decode cX5_count 84 = .ok (.aload_n 0, 1) := by decide +kernel
theorem dX5_count_85 : decode cX5_count 85 = .ok (.getfield 10, 3) := by decide +kernel
theorem dX5_count_88 : decode cX5_count 88 = .ok (.getfield 133, 3) := by decide +kernel
theorem dX5_count_91 : decode cX5_count 91 = .ok (.ireturn, 1) := by decide +kernel
theorem dX5_count_92 : decode cX5_count 92 = .ok (.aload_n 0, 1) := by decide +kernel
theorem dX5_count_93 : decode cX5_count 93 = .ok (.getfield 10, 3) := by decide +kernel
theorem dX5_count_96 : decode cX5_count 96 = .ok (.invokevirtual 170, 3) := by decide +kernel
theorem dX5_count_99 : decode cX5_count 99 = .ok (.invokestatic 173, 3) := by decide +kernel
theorem dX5_count_102 : decode cX5_count 102 = .ok (.ireturn, 1) := by decide +kernel
theorem dX5_count_103 : decode cX5_count 103 = .ok (.aload_n 0, 1) := by decide +kernel
theorem dX5_count_104 : decode cX5_count 104 = .ok (.getfield 10, 3) := by decide +kernel
theorem dX5_count_107 : decode cX5_count 107 = .ok (.getfield 145, 3) := by decide +kernel
theorem dX5_count_110 : decode cX5_count 110 = .ok (.ireturn, 1) := by decide +kernel
theorem dX5_count_111 : decode cX5_count 111 = .ok (.aload_n 0, 1) := by decide +kernel
theorem dX5_count_112 : decode cX5_count 112 = .ok (.getfield 10, 3) := by decide +kernel
theorem dX5_count_115 : decode cX5_count 115 = .ok (.invokevirtual 118, 3) := by decide +kernel
theorem dX5_count_118 : decode cX5_count 118 = .ok (.invokestatic 173, 3) := by decide +kernel
theorem dX5_count_121 : decode cX5_count 121 = .ok (.ireturn, 1) := by decide +kernel
theorem dX5_count_122 : decode cX5_count 122 = .ok (.aload_n 0, 1) := by decide +kernel
theorem dX5_count_123 : decode cX5_count 123 = .ok (.getfield 10, 3) := by decide +kernel
theorem dX5_count_126 : decode cX5_count 126 = .ok (.invokevirtual 126, 3) := by decide +kernel
theorem dX5_count_129 : decode cX5_count 129 = .ok (.invokestatic 173, 3) := by decide +kernel
theorem dX5_count_132 : decode cX5_count 132 = .ok (.ireturn, 1) := by decide +kernel
theorem dX5_count_133 : decode cX5_count 133 = .ok (.aload_n 0, 1) := by decide +kernel
theorem dX5_count_134 : decode cX5_count 134 = .ok (.getfield 22, 3) := by decide +kernel
theorem dX5_count_137 : decode cX5_count 137 = .ok (.aload_n 0, 1) := by decide +kernel
theorem dX5_count_138 : decode cX5_count 138 = .ok (.getfield 10, 3) := by decide +kernel
theorem dX5_count_141 : decode cX5_count 141 = .ok (.invokevirtual 129, 3) := by decide +kernel
theorem dX5_count_144 : decode cX5_count 144 = .ok (.invokestatic 173, 3) := by decide +kernel
theorem dX5_count_147 : decode cX5_count 147 = .ok (.ireturn, 1) := by decide +kernel
theorem dX5_count_148 : decode cX5_count 148 = .ok (.aload_n 0, 1) := by decide +kernel
theorem dX5_count_149 : decode cX5_count 149 = .ok (.getfield 22, 3) := by decide +kernel
theorem dX5_count_152 : decode cX5_count 152 = .ok (.aload_n 0, 1) := by decide +kernel
theorem dX5_count_153 : decode cX5_count 153 = .ok (.getfield 10, 3) := by decide +kernel
theorem dX5_count_156 : decode cX5_count 156 = .ok (.invokevirtual 179, 3) := by decide +kernel
theorem dX5_count_159 : decode cX5_count 159 = .ok (.ireturn, 1) := by decide +kernel
theorem dX5_count_160 : decode cX5_count 160 = .ok (.aload_n 0, 1) := by decide +kernel
theorem dX5_count_161 : decode cX5_count 161 = .ok (.getfield 10, 3) := by decide +kernel
theorem dX5_count_164 : decode cX5_count 164 = .ok (.invokevirtual 183, 3) := by decide +kernel
theorem dX5_count_167 : decode cX5_count 167 = .ok (.ireturn, 1) := by decide +kernel
theorem dX5_count_168 : decode cX5_count 168 = .ok (.aload_n 0, 1) := by decide +kernel
theorem dX5_count_169 : decode cX5_count 169 = .ok (.getfield 10, 3) := by decide +kernel
theorem dX5_count_172 : decode cX5_count 172 = .ok (.getfield 187, 3) := by decide +kernel
theorem dX5_count_175 : decode cX5_count 175 = .ok (.iload_n 1, 1) := by decide +kernel
theorem dX5_count_176 : decode cX5_count 176 = .ok (.bipush 9, 2) := by decide +kernel
theorem dX5_count_178 : decode cX5_count 178 = .ok (.isub, 1) := by decide +kernel
theorem dX5_count_179 : decode cX5_count 179 = .ok (.iaload, 1) := by decide +kernel
theorem dX5_count_180 : decode cX5_count 180 = .ok (.ireturn, 1) := by decide +kernel
theorem dX5_count_181 : decode cX5_count 181 = .ok (.aload_n 0, 1) := by decide +kernel
theorem dX5_count_182 : decode cX5_count 182 = .ok (.getfield 36, 3) := by decide +kernel
theorem dX5_count_185 : decode cX5_count 185 = .ok (.getfield 190, 3) := by decide +kernel
theorem dX5_count_188 : decode cX5_count 188 = .ok (.ireturn, 1) := by decide +kernel
theorem dX5_count_189 : decode cX5_count 189 = .ok (.aload_n 0, 1) := by decide +kernel
theorem dX5_count_190 : decode cX5_count 190 = .ok (.getfield 29, 3) := by decide +kernel
theorem dX5_count_193 : decode cX5_count 193 = .ok (.getfield 193, 3) := by decide +kernel
theorem dX5_count_196 : decode cX5_count 196 = .ok (.ireturn, 1) := by decide +kernel
theorem dX5_count_197 : decode cX5_count 197 = .ok (.bipush (-2), 2) := by decide +kernel
theorem dX5_count_199 : decode cX5_count 199 = .ok (.ireturn, 1) := by decide +kernel
set_option maxRecDepth 20000 in
theorem ggX5_mean_X5_bitsOfDouble : GoodIn wsX5_mean wsX5_bitsOfDouble := goodIn_r _ [6, 7, 8, 9, 10] (by decide +kernel) (by decide +kernel)
set_option maxRecDepth 20000 in
theorem gX5_mean_X5_bitsOfDouble : GoodIn wsX5_mean (va_wsS RX5 198 yX5_bitsOfDouble wsX5_bitsOfDouble) := goodIn_app (goodIn_of _ (by decide +kernel)) ggX5_mean_X5_bitsOfDouble
theorem dX5_mean_0 : decode cX5_mean 0 = .ok (.dconst 0, 1) := by decide +kernel
theorem dX5_mean_1 : decode cX5_mean 1 = .ok (.dstore_n 1, 1) := by decide +kernel
theorem dX5_mean_2 : decode cX5_mean 2 = .ok (.iconst 0, 1) := by decide +kernel
theorem dX5_mean_3 : decode cX5_mean 3 = .ok (.istore_n 3, 1) := by decide +kernel
theorem dX5_mean_4 : decode cX5_mean 4 = .ok (.iload_n 3, 1) := by decide +kernel
theorem dX5_mean_5 : decode cX5_mean 5 = .ok (.bipush 64, 2) := by decide +kernel
theorem dX5_mean_7 : decode cX5_mean 7 = .ok (.if_icmp .ge 22, 3) := by decide +kernel
theorem dX5_mean_10 : decode cX5_mean 10 = .ok (.dload_n 1, 1) := by decide +kernel
theorem dX5_mean_11 : decode cX5_mean 11 = .ok (.aload_n 0, 1) := by decide +kernel
theorem dX5_mean_12 : decode cX5_mean 12 = .ok (.getfield 10, 3) := by decide +kernel
theorem dX5_mean_15 : decode cX5_mean 15 = .ok (.getfield 93, 3) := by decide +kernel
theorem dX5_mean_18 : decode cX5_mean 18 = .ok (.iload_n 3, 1) := by decide +kernel
theorem dX5_mean_19 : decode cX5_mean 19 = .ok (.faload, 1) := by decide +kernel
theorem dX5_mean_20 : decode cX5_mean 20 = .ok (.f2d, 1) := by decide +kernel
theorem dX5_mean_21 : decode cX5_mean 21 = .ok (.dadd, 1) := by decide +kernel
theorem dX5_mean_22 : decode cX5_mean 22 = .ok (.dstore_n 1, 1) := by decide +kernel
theorem dX5_mean_23 : decode cX5_mean 23 = .ok (.iinc 3 1, 3) := by decide +kernel
theorem dX5_mean_26 : decode cX5_mean 26 = .ok (.goto (-22), 3) := by decide +kernel
theorem dX5_mean_29 : decode cX5_mean 29 = .ok (.dload_n 1, 1) := by decide +kernel
theorem dX5_mean_30 : decode cX5_mean 30 = .ok (.ldc2_w 196, 3) := by decide +kernel
theorem dX5_mean_33 : decode cX5_mean 33 = .ok (.ddiv, 1) := by decide +kernel
theorem dX5_mean_34 : decode cX5_mean 34 = .ok (.invokestatic 198, 3) := by decide +kernel
theorem dX5_mean_37 : decode cX5_mean 37 = .ok (.lreturn, 1) := by decide +kernel
set_option maxRecDepth 20000 in
theorem ggX5_bestProbe_X4_fitting : GoodIn wsX5_bestProbe wsX4_fitting := goodIn_r _ [6, 7, 8, 9, 4, 10, 11, 12, 13, 14, 15, 16, 17, 18, 19, 20, 21, 22, 23, 24, 25, 26, 27, 28, 29, 30, 31, 32, 33, 34, 35, 36, 37, 38, 39, 40, 41, 42, 43, 44, 45, 46, 47, 48, 49, 50, 51, 52, 53, 54, 55, 56, 83, 84, 85, 86, 87, 88, 89, 90, 91, 92, 93, 94, 95, 96, 97, 98, 99, 100] (by decide +kernel) (by decide +kernel)
set_option maxRecDepth 20000 in
theorem gX5_bestProbe_X4_fitting_n129 : GoodIn wsX5_bestProbe (wsX4_fitting) := ggX5_bestProbe_X4_fitting
set_option maxRecDepth 20000 in
theorem ggX5_bestProbe_J13_bitCount_95d88 : GoodIn wsX5_bestProbe wsJ13_bitCount_95d88 := goodIn_r _ [60, 61, 62, 63] (by decide +kernel) (by decide +kernel)
set_option maxRecDepth 20000 in
theorem gX5_bestProbe_J13_bitCount_95d88 : GoodIn wsX5_bestProbe (va_wsS RX5 173 yJ13_bitCount_95d88 wsJ13_bitCount_95d88) := goodIn_app (goodIn_of _ (by decide +kernel)) ggX5_bestProbe_J13_bitCount_95d88
set_option maxRecDepth 20000 in
theorem ggX5_bestProbe_X4_unlikeReads : GoodIn wsX5_bestProbe wsX4_unlikeReads := goodIn_r _ [66, 67, 52, 17, 53, 68, 69, 70, 4, 71, 28, 33, 34, 35, 36, 37, 38, 39, 40, 41, 42, 43, 44, 45, 46, 47, 48, 49, 50, 51, 54, 55, 56, 72, 73, 74, 75, 96, 97, 83, 84, 85, 86, 87, 88, 89, 90, 91, 92, 93, 94, 95, 98, 99, 100] (by decide +kernel) (by decide +kernel)
set_option maxRecDepth 20000 in
theorem gX5_bestProbe_X4_unlikeReads_n202 : GoodIn wsX5_bestProbe (wsX4_unlikeReads) := ggX5_bestProbe_X4_unlikeReads
theorem dX5_bestProbe_0 : decode cX5_bestProbe 0 = .ok (.iload_n 1, 1) := by decide +kernel
theorem dX5_bestProbe_1 : decode cX5_bestProbe 1 = .ok (.ifCond .eq 11, 3) := by decide +kernel
theorem dX5_bestProbe_4 : decode cX5_bestProbe 4 = .ok (.iload_n 1, 1) := by decide +kernel
theorem dX5_bestProbe_5 : decode cX5_bestProbe 5 = .ok (.iconst 1, 1) := by decide +kernel
theorem dX5_bestProbe_6 : decode cX5_bestProbe 6 = .ok (.if_icmp .eq 6, 3) := by decide +kernel
theorem dX5_bestProbe_9 : decode cX5_bestProbe 9 = .ok (.bipush (-2), 2) := by decide +kernel
theorem dX5_bestProbe_11 : decode cX5_bestProbe 11 = .ok (.ireturn, 1) := by decide +kernel
theorem dX5_bestProbe_12 : decode cX5_bestProbe 12 = .ok (.aload_n 0, 1) := by decide +kernel
theorem dX5_bestProbe_13 : decode cX5_bestProbe 13 = .ok (.getfield 22, 3) := by decide +kernel
theorem dX5_bestProbe_16 : decode cX5_bestProbe 16 = .ok (.aload_n 0, 1) := by decide +kernel
theorem dX5_bestProbe_17 : decode cX5_bestProbe 17 = .ok (.getfield 10, 3) := by decide +kernel
theorem dX5_bestProbe_20 : decode cX5_bestProbe 20 = .ok (.invokevirtual 129, 3) := by decide +kernel
theorem dX5_bestProbe_23 : decode cX5_bestProbe 23 = .ok (.lstore_n 2, 1) := by decide +kernel
theorem dX5_bestProbe_24 : decode cX5_bestProbe 24 = .ok (.lload_n 2, 1) := by decide +kernel
theorem dX5_bestProbe_25 : decode cX5_bestProbe 25 = .ok (.invokestatic 173, 3) := by decide +kernel
theorem dX5_bestProbe_28 : decode cX5_bestProbe 28 = .ok (.iconst 2, 1) := by decide +kernel
theorem dX5_bestProbe_29 : decode cX5_bestProbe 29 = .ok (.if_icmp .ge 6, 3) := by decide +kernel
theorem dX5_bestProbe_32 : decode cX5_bestProbe 32 = .ok (.bipush (-6), 2) := by decide +kernel
theorem dX5_bestProbe_34 : decode cX5_bestProbe 34 = .ok (.ireturn, 1) := by decide +kernel
theorem dX5_bestProbe_35 : decode cX5_bestProbe 35 = .ok (.iconst 0, 1) := by decide +kernel
theorem dX5_bestProbe_36 : decode cX5_bestProbe 36 = .ok (.istore 4, 2) := by decide +kernel
theorem dX5_bestProbe_38 : decode cX5_bestProbe 38 = .ok (.iconst 0, 1) := by decide +kernel
theorem dX5_bestProbe_39 : decode cX5_bestProbe 39 = .ok (.istore 5, 2) := by decide +kernel
theorem dX5_bestProbe_41 : decode cX5_bestProbe 41 = .ok (.iconst 0, 1) := by decide +kernel
theorem dX5_bestProbe_42 : decode cX5_bestProbe 42 = .ok (.istore 6, 2) := by decide +kernel
theorem dX5_bestProbe_44 : decode cX5_bestProbe 44 = .ok (.iload 6, 2) := by decide +kernel
theorem dX5_bestProbe_46 : decode cX5_bestProbe 46 = .ok (.bipush 64, 2) := by decide +kernel
theorem dX5_bestProbe_48 : decode cX5_bestProbe 48 = .ok (.if_icmp .ge 40, 3) := by decide +kernel
theorem dX5_bestProbe_51 : decode cX5_bestProbe 51 = .ok (.aload_n 0, 1) := by decide +kernel
theorem dX5_bestProbe_52 : decode cX5_bestProbe 52 = .ok (.getfield 22, 3) := by decide +kernel
theorem dX5_bestProbe_55 : decode cX5_bestProbe 55 = .ok (.aload_n 0, 1) := by decide +kernel
theorem dX5_bestProbe_56 : decode cX5_bestProbe 56 = .ok (.getfield 10, 3) := by decide +kernel
theorem dX5_bestProbe_59 : decode cX5_bestProbe 59 = .ok (.lload_n 2, 1) := by decide +kernel
theorem dX5_bestProbe_60 : decode cX5_bestProbe 60 = .ok (.iload 6, 2) := by decide +kernel
theorem dX5_bestProbe_62 : decode cX5_bestProbe 62 = .ok (.invokevirtual 202, 3) := by decide +kernel
theorem dX5_bestProbe_65 : decode cX5_bestProbe 65 = .ok (.istore 7, 2) := by decide +kernel
theorem dX5_bestProbe_67 : decode cX5_bestProbe 67 = .ok (.iload 7, 2) := by decide +kernel
theorem dX5_bestProbe_69 : decode cX5_bestProbe 69 = .ok (.iload 5, 2) := by decide +kernel
theorem dX5_bestProbe_71 : decode cX5_bestProbe 71 = .ok (.if_icmp .le 11, 3) := by decide +kernel
theorem dX5_bestProbe_74 : decode cX5_bestProbe 74 = .ok (.iload 7, 2) := by decide +kernel
theorem dX5_bestProbe_76 : decode cX5_bestProbe 76 = .ok (.istore 5, 2) := by decide +kernel
theorem dX5_bestProbe_78 : decode cX5_bestProbe 78 = .ok (.iload 6, 2) := by decide +kernel
theorem dX5_bestProbe_80 : decode cX5_bestProbe 80 = .ok (.istore 4, 2) := by decide +kernel
theorem dX5_bestProbe_82 : decode cX5_bestProbe 82 = .ok (.iinc 6 1, 3) := by decide +kernel
theorem dX5_bestProbe_85 : decode cX5_bestProbe 85 = .ok (.goto (-41), 3) := by decide +kernel
theorem dX5_bestProbe_88 : decode cX5_bestProbe 88 = .ok (.iload_n 1, 1) := by decide +kernel
theorem dX5_bestProbe_89 : decode cX5_bestProbe 89 = .ok (.ifCond .ne 8, 3) := by decide +kernel
theorem dX5_bestProbe_92 : decode cX5_bestProbe 92 = .ok (.iload 4, 2) := by decide +kernel
theorem dX5_bestProbe_94 : decode cX5_bestProbe 94 = .ok (.goto 5, 3) := by decide +kernel
theorem dX5_bestProbe_97 : decode cX5_bestProbe 97 = .ok (.iload 5, 2) := by decide +kernel
theorem dX5_bestProbe_99 : decode cX5_bestProbe 99 = .ok (.ireturn, 1) := by decide +kernel
set_option maxRecDepth 20000 in
theorem ggX5_readsIn_X5_placeOf : GoodIn wsX5_readsIn wsX5_placeOf := goodIn_r _ [6] (by decide +kernel) (by decide +kernel)
set_option maxRecDepth 20000 in
theorem gX5_readsIn_X5_placeOf : GoodIn wsX5_readsIn (va_wsS RX5 86 yX5_placeOf wsX5_placeOf) := goodIn_app (goodIn_of _ (by decide +kernel)) ggX5_readsIn_X5_placeOf
set_option maxRecDepth 20000 in
theorem ggX5_readsIn_X0_takeOver : GoodIn wsX5_readsIn wsX0_takeOver := goodIn_r _ [10, 11, 12, 13, 14, 15, 16, 17, 18, 19, 20, 21, 22, 23, 24, 25, 26, 59, 60, 61, 62, 63, 64, 65, 66, 67, 68, 69, 70, 71] (by decide +kernel) (by decide +kernel)
set_option maxRecDepth 20000 in
theorem gX5_readsIn_X0_takeOver_n206 : GoodIn wsX5_readsIn (wsX0_takeOver) := ggX5_readsIn_X0_takeOver
set_option maxRecDepth 20000 in
theorem ggX5_readsIn_X0_heated : GoodIn wsX5_readsIn wsX0_heated := goodIn_r _ [29, 18, 19, 30, 31, 32, 8, 33, 16, 20, 34, 35, 36, 37, 17, 59, 60, 61, 62, 63, 64, 65, 66, 67, 68, 69, 70, 71] (by decide +kernel) (by decide +kernel)
set_option maxRecDepth 20000 in
theorem gX5_readsIn_X0_heated_n170 : GoodIn wsX5_readsIn (wsX0_heated) := ggX5_readsIn_X0_heated
set_option maxRecDepth 20000 in
theorem ggX5_readsIn_X5_readOf : GoodIn wsX5_readsIn wsX5_readOf := goodIn_r _ [40, 41] (by decide +kernel) (by decide +kernel)
set_option maxRecDepth 20000 in
theorem gX5_readsIn_X5_readOf : GoodIn wsX5_readsIn (va_wsS RX5 101 yX5_readOf wsX5_readOf) := goodIn_app (goodIn_of _ (by decide +kernel)) ggX5_readsIn_X5_readOf
set_option maxRecDepth 20000 in
theorem ggX5_readsIn_X0_passOne : GoodIn wsX5_readsIn wsX0_passOne := goodIn_r _ [44, 22, 45, 11, 12, 13, 14, 15, 46, 5, 47, 48, 49, 50, 51, 59, 60, 61, 62, 63, 64, 65, 66, 67, 68, 69, 70, 71] (by decide +kernel) (by decide +kernel)
set_option maxRecDepth 20000 in
theorem gX5_readsIn_X0_passOne_n209 : GoodIn wsX5_readsIn (wsX0_passOne) := ggX5_readsIn_X0_passOne
theorem dX5_readsIn_0 : decode cX5_readsIn 0 = .ok (.iload_n 1, 1) := by decide +kernel
theorem dX5_readsIn_1 : decode cX5_readsIn 1 = .ok (.iload_n 2, 1) := by decide +kernel
