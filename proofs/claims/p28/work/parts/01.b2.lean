theorem dX5_touch_5 : decode cX5_touch 5 = .ok (.getfield 10, 3) := by decide +kernel
theorem dX5_touch_8 : decode cX5_touch 8 = .ok (.invokevirtual 48, 3) := by decide +kernel
theorem dX5_touch_11 : decode cX5_touch 11 = .ok (.aload_n 0, 1) := by decide +kernel
theorem dX5_touch_12 : decode cX5_touch 12 = .ok (.getfield 29, 3) := by decide +kernel
theorem dX5_touch_15 : decode cX5_touch 15 = .ok (.aload_n 0, 1) := by decide +kernel
theorem dX5_touch_16 : decode cX5_touch 16 = .ok (.getfield 10, 3) := by decide +kernel
theorem dX5_touch_19 : decode cX5_touch 19 = .ok (.iload_n 1, 1) := by decide +kernel
theorem dX5_touch_20 : decode cX5_touch 20 = .ok (.iload_n 2, 1) := by decide +kernel
theorem dX5_touch_21 : decode cX5_touch 21 = .ok (.iload_n 3, 1) := by decide +kernel
theorem dX5_touch_22 : decode cX5_touch 22 = .ok (.invokevirtual 64, 3) := by decide +kernel
theorem dX5_touch_25 : decode cX5_touch 25 = .ok (.invokevirtual 56, 3) := by decide +kernel
theorem dX5_touch_28 : decode cX5_touch 28 = .ok (.ireturn, 1) := by decide +kernel
set_option maxRecDepth 20000 in
theorem ggX5_mend_X3_prepare : GoodIn wsX5_mend wsX3_prepare := goodIn_r _ [6, 7, 8, 9, 10, 11, 12, 13, 14, 15, 16, 17, 18, 19, 20, 21, 22, 23, 24, 25, 26, 27, 28, 46, 47, 48, 49, 50, 51, 52, 53, 54, 55, 56, 57, 58, 59, 60] (by decide +kernel) (by decide +kernel)
set_option maxRecDepth 20000 in
theorem gX5_mend_X3_prepare_n48 : GoodIn wsX5_mend (wsX3_prepare) := ggX5_mend_X3_prepare
set_option maxRecDepth 20000 in
theorem ggX5_mend_X0_part : GoodIn wsX5_mend wsX0_part := goodIn_r _ [31, 20, 21, 22, 32, 33, 34, 10, 35, 23, 25, 24, 48, 49, 50, 51, 52, 53, 54, 55, 56, 57, 58, 59, 60] (by decide +kernel) (by decide +kernel)
set_option maxRecDepth 20000 in
theorem gX5_mend_X0_part_n67 : GoodIn wsX5_mend (wsX0_part) := ggX5_mend_X0_part
set_option maxRecDepth 20000 in
theorem ggX5_mend_X3_kept : GoodIn wsX5_mend wsX3_kept := goodIn_r _ [38, 8, 7, 46, 47] (by decide +kernel) (by decide +kernel)
set_option maxRecDepth 20000 in
theorem gX5_mend_X3_kept_n56 : GoodIn wsX5_mend (wsX3_kept) := ggX5_mend_X3_kept
theorem dX5_mend_0 : decode cX5_mend 0 = .ok (.aload_n 0, 1) := by decide +kernel
theorem dX5_mend_1 : decode cX5_mend 1 = .ok (.getfield 29, 3) := by decide +kernel
theorem dX5_mend_4 : decode cX5_mend 4 = .ok (.aload_n 0, 1) := by decide +kernel
theorem dX5_mend_5 : decode cX5_mend 5 = .ok (.getfield 10, 3) := by decide +kernel
theorem dX5_mend_8 : decode cX5_mend 8 = .ok (.invokevirtual 48, 3) := by decide +kernel
theorem dX5_mend_11 : decode cX5_mend 11 = .ok (.aload_n 0, 1) := by decide +kernel
theorem dX5_mend_12 : decode cX5_mend 12 = .ok (.getfield 29, 3) := by decide +kernel
theorem dX5_mend_15 : decode cX5_mend 15 = .ok (.aload_n 0, 1) := by decide +kernel
theorem dX5_mend_16 : decode cX5_mend 16 = .ok (.getfield 10, 3) := by decide +kernel
theorem dX5_mend_19 : decode cX5_mend 19 = .ok (.iload_n 1, 1) := by decide +kernel
theorem dX5_mend_20 : decode cX5_mend 20 = .ok (.invokevirtual 67, 3) := by decide +kernel
theorem dX5_mend_23 : decode cX5_mend 23 = .ok (.invokevirtual 56, 3) := by decide +kernel
theorem dX5_mend_26 : decode cX5_mend 26 = .ok (.ireturn, 1) := by decide +kernel
set_option maxRecDepth 20000 in
theorem ggX5_feed_X3_prepare : GoodIn wsX5_feed wsX3_prepare := goodIn_r _ [6, 7, 8, 9, 10, 11, 12, 13, 14, 15, 16, 17, 18, 19, 20, 21, 22, 23, 24, 25, 26, 27, 28, 53, 54, 55, 56, 57, 58, 59, 60, 61, 62, 63, 64, 65, 66, 67] (by decide +kernel) (by decide +kernel)
set_option maxRecDepth 20000 in
theorem gX5_feed_X3_prepare_n48 : GoodIn wsX5_feed (wsX3_prepare) := ggX5_feed_X3_prepare
set_option maxRecDepth 20000 in
theorem ggX5_feed_X0_turnPair : GoodIn wsX5_feed wsX0_turnPair := goodIn_r _ [31, 19, 32, 33, 34, 35, 36, 37, 10, 38, 23, 25, 24, 39, 40, 41, 42, 55, 56, 57, 58, 59, 60, 61, 62, 63, 64, 65, 66, 67] (by decide +kernel) (by decide +kernel)
set_option maxRecDepth 20000 in
theorem gX5_feed_X0_turnPair_n70 : GoodIn wsX5_feed (wsX0_turnPair) := ggX5_feed_X0_turnPair
set_option maxRecDepth 20000 in
theorem ggX5_feed_X3_kept : GoodIn wsX5_feed wsX3_kept := goodIn_r _ [45, 8, 7, 53, 54] (by decide +kernel) (by decide +kernel)
set_option maxRecDepth 20000 in
theorem gX5_feed_X3_kept_n56 : GoodIn wsX5_feed (wsX3_kept) := ggX5_feed_X3_kept
theorem dX5_feed_0 : decode cX5_feed 0 = .ok (.aload_n 0, 1) := by decide +kernel
theorem dX5_feed_1 : decode cX5_feed 1 = .ok (.getfield 29, 3) := by decide +kernel
theorem dX5_feed_4 : decode cX5_feed 4 = .ok (.aload_n 0, 1) := by decide +kernel
theorem dX5_feed_5 : decode cX5_feed 5 = .ok (.getfield 10, 3) := by decide +kernel
theorem dX5_feed_8 : decode cX5_feed 8 = .ok (.invokevirtual 48, 3) := by decide +kernel
theorem dX5_feed_11 : decode cX5_feed 11 = .ok (.aload_n 0, 1) := by decide +kernel
theorem dX5_feed_12 : decode cX5_feed 12 = .ok (.getfield 29, 3) := by decide +kernel
theorem dX5_feed_15 : decode cX5_feed 15 = .ok (.aload_n 0, 1) := by decide +kernel
theorem dX5_feed_16 : decode cX5_feed 16 = .ok (.getfield 10, 3) := by decide +kernel
theorem dX5_feed_19 : decode cX5_feed 19 = .ok (.iload_n 1, 1) := by decide +kernel
theorem dX5_feed_20 : decode cX5_feed 20 = .ok (.iload_n 2, 1) := by decide +kernel
theorem dX5_feed_21 : decode cX5_feed 21 = .ok (.invokevirtual 70, 3) := by decide +kernel
theorem dX5_feed_24 : decode cX5_feed 24 = .ok (.invokevirtual 56, 3) := by decide +kernel
theorem dX5_feed_27 : decode cX5_feed 27 = .ok (.ireturn, 1) := by decide +kernel
set_option maxRecDepth 20000 in
theorem ggX5_cool_X3_prepare : GoodIn wsX5_cool wsX3_prepare := goodIn_r _ [6, 7, 8, 9, 10, 11, 12, 13, 14, 15, 16, 17, 18, 19, 20, 21, 22, 23, 24, 25, 26, 27, 28, 55, 56, 42, 43, 44, 45, 46, 47, 48, 49, 50, 51, 52, 53, 54] (by decide +kernel) (by decide +kernel)
set_option maxRecDepth 20000 in
theorem gX5_cool_X3_prepare_n48 : GoodIn wsX5_cool (wsX3_prepare) := ggX5_cool_X3_prepare
set_option maxRecDepth 20000 in
theorem ggX5_cool_X0_beginRun : GoodIn wsX5_cool wsX0_beginRun := goodIn_r _ [31, 23, 25, 24, 42, 43, 44, 45, 46, 47, 48, 49, 50, 51, 52, 53, 54] (by decide +kernel) (by decide +kernel)
set_option maxRecDepth 20000 in
theorem gX5_cool_X0_beginRun_n77 : GoodIn wsX5_cool (wsX0_beginRun) := ggX5_cool_X0_beginRun
set_option maxRecDepth 20000 in
theorem ggX5_cool_X3_kept : GoodIn wsX5_cool wsX3_kept := goodIn_r _ [34, 8, 7, 55, 56] (by decide +kernel) (by decide +kernel)
set_option maxRecDepth 20000 in
theorem gX5_cool_X3_kept_n56 : GoodIn wsX5_cool (wsX3_kept) := ggX5_cool_X3_kept
theorem dX5_cool_0 : decode cX5_cool 0 = .ok (.aload_n 0, 1) := by decide +kernel
theorem dX5_cool_1 : decode cX5_cool 1 = .ok (.getfield 29, 3) := by decide +kernel
theorem dX5_cool_4 : decode cX5_cool 4 = .ok (.aload_n 0, 1) := by decide +kernel
theorem dX5_cool_5 : decode cX5_cool 5 = .ok (.getfield 10, 3) := by decide +kernel
theorem dX5_cool_8 : decode cX5_cool 8 = .ok (.invokevirtual 48, 3) := by decide +kernel
theorem dX5_cool_11 : decode cX5_cool 11 = .ok (.aload_n 0, 1) := by decide +kernel
theorem dX5_cool_12 : decode cX5_cool 12 = .ok (.getfield 10, 3) := by decide +kernel
theorem dX5_cool_15 : decode cX5_cool 15 = .ok (.getfield 73, 3) := by decide +kernel
theorem dX5_cool_18 : decode cX5_cool 18 = .ok (.istore_n 1, 1) := by decide +kernel
theorem dX5_cool_19 : decode cX5_cool 19 = .ok (.aload_n 0, 1) := by decide +kernel
theorem dX5_cool_20 : decode cX5_cool 20 = .ok (.getfield 10, 3) := by decide +kernel
theorem dX5_cool_23 : decode cX5_cool 23 = .ok (.invokevirtual 77, 3) := by decide +kernel
theorem dX5_cool_26 : decode cX5_cool 26 = .ok (.aload_n 0, 1) := by decide +kernel
theorem dX5_cool_27 : decode cX5_cool 27 = .ok (.getfield 29, 3) := by decide +kernel
theorem dX5_cool_30 : decode cX5_cool 30 = .ok (.iload_n 1, 1) := by decide +kernel
theorem dX5_cool_31 : decode cX5_cool 31 = .ok (.invokevirtual 56, 3) := by decide +kernel
theorem dX5_cool_34 : decode cX5_cool 34 = .ok (.ireturn, 1) := by decide +kernel
set_option maxRecDepth 20000 in
theorem ggX5_warm_X3_prepare : GoodIn wsX5_warm wsX3_prepare := goodIn_r _ [6, 7, 8, 9, 10, 11, 12, 13, 14, 15, 16, 17, 18, 19, 20, 21, 22, 23, 24, 25, 26, 27, 28, 66, 67, 68, 69, 70, 71, 72, 73, 74, 75, 76, 77, 78, 79, 80] (by decide +kernel) (by decide +kernel)
set_option maxRecDepth 20000 in
theorem gX5_warm_X3_prepare_n48 : GoodIn wsX5_warm (wsX3_prepare) := ggX5_warm_X3_prepare
set_option maxRecDepth 20000 in
theorem ggX5_warm_X0_letPass : GoodIn wsX5_warm wsX0_letPass := goodIn_r _ [31, 23, 32, 33, 34, 10, 35, 20, 21, 36, 37, 38, 39, 18, 22, 40, 41, 42, 43, 19, 44, 45, 46, 47, 24, 48, 13, 14, 15, 16, 17, 49, 50, 51, 52, 53, 54, 55, 68, 69, 70, 71, 72, 73, 74, 75, 76, 77, 78, 79, 80] (by decide +kernel) (by decide +kernel)
set_option maxRecDepth 20000 in
theorem gX5_warm_X0_letPass_n80 : GoodIn wsX5_warm (wsX0_letPass) := ggX5_warm_X0_letPass
set_option maxRecDepth 20000 in
theorem ggX5_warm_X3_kept : GoodIn wsX5_warm wsX3_kept := goodIn_r _ [58, 8, 7, 66, 67] (by decide +kernel) (by decide +kernel)
set_option maxRecDepth 20000 in
theorem gX5_warm_X3_kept_n56 : GoodIn wsX5_warm (wsX3_kept) := ggX5_warm_X3_kept
theorem dX5_warm_0 : decode cX5_warm 0 = .ok (.aload_n 0, 1) := by decide +kernel
theorem dX5_warm_1 : decode cX5_warm 1 = .ok (.getfield 29, 3) := by decide +kernel
theorem dX5_warm_4 : decode cX5_warm 4 = .ok (.aload_n 0, 1) := by decide +kernel
theorem dX5_warm_5 : decode cX5_warm 5 = .ok (.getfield 10, 3) := by decide +kernel
theorem dX5_warm_8 : decode cX5_warm 8 = .ok (.invokevirtual 48, 3) := by decide +kernel
theorem dX5_warm_11 : decode cX5_warm 11 = .ok (.aload_n 0, 1) := by decide +kernel
theorem dX5_warm_12 : decode cX5_warm 12 = .ok (.getfield 29, 3) := by decide +kernel
theorem dX5_warm_15 : decode cX5_warm 15 = .ok (.aload_n 0, 1) := by decide +kernel
theorem dX5_warm_16 : decode cX5_warm 16 = .ok (.getfield 10, 3) := by decide +kernel
theorem dX5_warm_19 : decode cX5_warm 19 = .ok (.iload_n 1, 1) := by decide +kernel
theorem dX5_warm_20 : decode cX5_warm 20 = .ok (.invokevirtual 80, 3) := by decide +kernel
theorem dX5_warm_23 : decode cX5_warm 23 = .ok (.invokevirtual 56, 3) := by decide +kernel
theorem dX5_warm_26 : decode cX5_warm 26 = .ok (.ireturn, 1) := by decide +kernel
set_option maxRecDepth 20000 in
theorem ggX5_probe_X3_prepare : GoodIn wsX5_probe wsX3_prepare := goodIn_r _ [6, 7, 8, 9, 10, 11, 12, 13, 14, 15, 16, 17, 18, 19, 20, 21, 22, 23, 24, 25, 26, 27, 28, 48, 49, 50, 51, 52, 53, 54, 55, 56, 57, 58, 59, 60, 61, 62] (by decide +kernel) (by decide +kernel)
set_option maxRecDepth 20000 in
theorem gX5_probe_X3_prepare_n48 : GoodIn wsX5_probe (wsX3_prepare) := ggX5_probe_X3_prepare
set_option maxRecDepth 20000 in
theorem ggX5_probe_X0_measure : GoodIn wsX5_probe wsX0_measure := goodIn_r _ [31, 25, 24, 26, 27, 28, 23, 32, 33, 34, 35, 36, 37, 50, 51, 52, 53, 54, 55, 56, 57, 58, 59, 60, 61, 62] (by decide +kernel) (by decide +kernel)
set_option maxRecDepth 20000 in
theorem gX5_probe_X0_measure_n83 : GoodIn wsX5_probe (wsX0_measure) := ggX5_probe_X0_measure
set_option maxRecDepth 20000 in
theorem ggX5_probe_X3_kept : GoodIn wsX5_probe wsX3_kept := goodIn_r _ [40, 8, 7, 48, 49] (by decide +kernel) (by decide +kernel)
set_option maxRecDepth 20000 in
theorem gX5_probe_X3_kept_n56 : GoodIn wsX5_probe (wsX3_kept) := ggX5_probe_X3_kept
theorem dX5_probe_0 : decode cX5_probe 0 = .ok (.aload_n 0, 1) := by decide +kernel
theorem dX5_probe_1 : decode cX5_probe 1 = .ok (.getfield 29, 3) := by decide +kernel
theorem dX5_probe_4 : decode cX5_probe 4 = .ok (.aload_n 0, 1) := by decide +kernel
theorem dX5_probe_5 : decode cX5_probe 5 = .ok (.getfield 10, 3) := by decide +kernel
theorem dX5_probe_8 : decode cX5_probe 8 = .ok (.invokevirtual 48, 3) := by decide +kernel
theorem dX5_probe_11 : decode cX5_probe 11 = .ok (.aload_n 0, 1) := by decide +kernel
theorem dX5_probe_12 : decode cX5_probe 12 = .ok (.getfield 29, 3) := by decide +kernel
theorem dX5_probe_15 : decode cX5_probe 15 = .ok (.aload_n 0, 1) := by decide +kernel
theorem dX5_probe_16 : decode cX5_probe 16 = .ok (.getfield 10, 3) := by decide +kernel
theorem dX5_probe_19 : decode cX5_probe 19 = .ok (.iload_n 1, 1) := by decide +kernel
theorem dX5_probe_20 : decode cX5_probe 20 = .ok (.iload_n 2, 1) := by decide +kernel
theorem dX5_probe_21 : decode cX5_probe 21 = .ok (.invokevirtual 83, 3) := by decide +kernel
theorem dX5_probe_24 : decode cX5_probe 24 = .ok (.invokevirtual 56, 3) := by decide +kernel
theorem dX5_probe_27 : decode cX5_probe 27 = .ok (.ireturn, 1) := by decide +kernel
set_option maxRecDepth 20000 in
theorem ggX5_at_X5_placeOf : GoodIn wsX5_at wsX5_placeOf := goodIn_r _ [6] (by decide +kernel) (by decide +kernel)
set_option maxRecDepth 20000 in
theorem gX5_at_X5_placeOf : GoodIn wsX5_at (va_wsS RX5 86 yX5_placeOf wsX5_placeOf) := goodIn_app (goodIn_of _ (by decide +kernel)) ggX5_at_X5_placeOf
set_option maxRecDepth 20000 in
theorem ggX5_at_X5_bitsOfFloat : GoodIn wsX5_at wsX5_bitsOfFloat := goodIn_r _ [9, 10, 11] (by decide +kernel) (by decide +kernel)
set_option maxRecDepth 20000 in
theorem gX5_at_X5_bitsOfFloat : GoodIn wsX5_at (va_wsS RX5 97 yX5_bitsOfFloat wsX5_bitsOfFloat) := goodIn_app (goodIn_of _ (by decide +kernel)) ggX5_at_X5_bitsOfFloat
set_option maxRecDepth 20000 in
theorem ggX5_at_X5_readOf : GoodIn wsX5_at wsX5_readOf := goodIn_r _ [14, 15] (by decide +kernel) (by decide +kernel)
set_option maxRecDepth 20000 in
theorem gX5_at_X5_readOf : GoodIn wsX5_at (va_wsS RX5 101 yX5_readOf wsX5_readOf) := goodIn_app (goodIn_of _ (by decide +kernel)) ggX5_at_X5_readOf
set_option maxRecDepth 20000 in
theorem ggX5_at_X0_isSuspect : GoodIn wsX5_at wsX0_isSuspect := goodIn_r _ [19, 20, 21, 5, 22, 23, 24, 25, 17, 26, 27, 83, 84, 85, 86, 87, 88, 89, 90, 91, 92, 93, 94, 95] (by decide +kernel) (by decide +kernel)
set_option maxRecDepth 20000 in
theorem gX5_at_X0_isSuspect_n104 : GoodIn wsX5_at (wsX0_isSuspect) := ggX5_at_X0_isSuspect
set_option maxRecDepth 20000 in
theorem ggX5_at_X4_couldBe : GoodIn wsX5_at wsX4_couldBe := goodIn_r _ [31, 16, 17, 18, 19, 20, 21, 5, 22, 23, 24, 25, 26, 27, 32, 33, 34, 29, 35, 36, 37, 38, 39, 40, 41, 42, 43, 44, 45, 46, 47, 48, 49, 50, 51, 52, 53, 54, 55, 56, 57, 58, 59, 60, 61, 13, 14, 15, 83, 84, 85, 86, 87, 88, 89, 90, 91, 92, 93, 94, 95, 96, 97, 98, 99, 100] (by decide +kernel) (by decide +kernel)
set_option maxRecDepth 20000 in
theorem gX5_at_X4_couldBe_n108 : GoodIn wsX5_at (wsX4_couldBe) := ggX5_at_X4_couldBe
set_option maxRecDepth 20000 in
theorem ggX5_at_X4_couldBeOneOfTwo : GoodIn wsX5_at wsX4_couldBeOneOfTwo := goodIn_r _ [64, 65, 66, 39, 67, 68, 69, 70, 16, 17, 18, 19, 20, 21, 5, 22, 23, 24, 25, 26, 27, 32, 33, 34, 29, 35, 36, 37, 38, 40, 41, 42, 43, 44, 45, 46, 47, 48, 49, 50, 51, 52, 53, 54, 55, 56, 57, 58, 59, 60, 61, 13, 14, 15, 83, 84, 85, 86, 87, 88, 89, 90, 91, 92, 93, 94, 95, 96, 97, 98, 99, 100] (by decide +kernel) (by decide +kernel)
set_option maxRecDepth 20000 in
theorem gX5_at_X4_couldBeOneOfTwo_n112 : GoodIn wsX5_at (wsX4_couldBeOneOfTwo) := ggX5_at_X4_couldBeOneOfTwo
set_option maxRecDepth 20000 in
theorem ggX5_at_X0_touchAt : GoodIn wsX5_at wsX0_touchAt := goodIn_r _ [73, 74, 75, 83, 84, 85, 86, 87, 88, 89, 90, 91, 92, 93, 94, 95] (by decide +kernel) (by decide +kernel)
set_option maxRecDepth 20000 in
theorem gX5_at_X0_touchAt_n115 : GoodIn wsX5_at (wsX0_touchAt) := ggX5_at_X0_touchAt
theorem dX5_at_0 : decode cX5_at 0 = .ok (.iload_n 1, 1) := by decide +kernel
theorem dX5_at_1 : decode cX5_at 1 = .ok (.iload_n 2, 1) := by decide +kernel
theorem dX5_at_2 : decode cX5_at 2 = .ok (.invokestatic 86, 3) := by decide +kernel
theorem dX5_at_5 : decode cX5_at 5 = .ok (.istore 4, 2) := by decide +kernel
theorem dX5_at_7 : decode cX5_at 7 = .ok (.iload 4, 2) := by decide +kernel
theorem dX5_at_9 : decode cX5_at 9 = .ok (.ifCond .ge 5, 3) := by decide +kernel
theorem dX5_at_12 : decode cX5_at 12 = .ok (.iconst (-1), 1) := by decide +kernel
theorem dX5_at_13 : decode cX5_at 13 = .ok (.ireturn, 1) := by decide +kernel
theorem dX5_at_14 : decode cX5_at 14 = .ok (.iload_n 3, 1) := by decide +kernel
theorem dX5_at_15 : decode cX5_at 15 = .ok (.tableswitch 152 0 6 #[41, 52, 66, 80, 98, 120, 142], 41) := by decide +kernel
theorem dX5_at_56 : decode cX5_at 56 = .ok (.aload_n 0, 1) := by decide +kernel
theorem dX5_at_57 : decode cX5_at 57 = .ok (.getfield 10, 3) := by decide +kernel
theorem dX5_at_60 : decode cX5_at 60 = .ok (.getfield 89, 3) := by decide +kernel
theorem dX5_at_63 : decode cX5_at 63 = .ok (.iload 4, 2) := by decide +kernel
theorem dX5_at_65 : decode cX5_at 65 = .ok (.iaload, 1) := by decide +kernel
theorem dX5_at_66 : decode cX5_at 66 = .ok (.ireturn, 1) := by decide +kernel
theorem dX5_at_67 : decode cX5_at 67 = .ok (.aload_n 0, 1) := by decide +kernel
theorem dX5_at_68 : decode cX5_at 68 = .ok (.getfield 10, 3) := by decide +kernel
theorem dX5_at_71 : decode cX5_at 71 = .ok (.getfield 93, 3) := by decide +kernel
theorem dX5_at_74 : decode cX5_at 74 = .ok (.iload 4, 2) := by decide +kernel
theorem dX5_at_76 : decode cX5_at 76 = .ok (.faload, 1) := by decide +kernel
theorem dX5_at_77 : decode cX5_at 77 = .ok (.invokestatic 97, 3) := by decide +kernel
theorem dX5_at_80 : decode cX5_at 80 = .ok (.ireturn, 1) := by decide +kernel
theorem dX5_at_81 : decode cX5_at 81 = .ok (.aload_n 0, 1) := by decide +kernel
theorem dX5_at_82 : decode cX5_at 82 = .ok (.getfield 10, 3) := by decide +kernel
theorem dX5_at_85 : decode cX5_at 85 = .ok (.getfield 93, 3) := by decide +kernel
theorem dX5_at_88 : decode cX5_at 88 = .ok (.iload 4, 2) := by decide +kernel
theorem dX5_at_90 : decode cX5_at 90 = .ok (.faload, 1) := by decide +kernel
theorem dX5_at_91 : decode cX5_at 91 = .ok (.invokestatic 101, 3) := by decide +kernel
theorem dX5_at_94 : decode cX5_at 94 = .ok (.ireturn, 1) := by decide +kernel
theorem dX5_at_95 : decode cX5_at 95 = .ok (.aload_n 0, 1) := by decide +kernel
theorem dX5_at_96 : decode cX5_at 96 = .ok (.getfield 10, 3) := by decide +kernel
theorem dX5_at_99 : decode cX5_at 99 = .ok (.iload 4, 2) := by decide +kernel
theorem dX5_at_101 : decode cX5_at 101 = .ok (.invokevirtual 104, 3) := by decide +kernel
theorem dX5_at_104 : decode cX5_at 104 = .ok (.ifCond .eq 7, 3) := by decide +kernel
theorem dX5_at_107 : decode cX5_at 107 = .ok (.iconst 1, 1) := by decide +kernel
theorem dX5_at_108 : decode cX5_at 108 = .ok (.goto 4, 3) := by decide +kernel
theorem dX5_at_111 : decode cX5_at 111 = .ok (.iconst 0, 1) := by decide +kernel
theorem dX5_at_112 : decode cX5_at 112 = .ok (.ireturn, 1) := by decide +kernel
theorem dX5_at_113 : decode cX5_at 113 = .ok (.aload_n 0, 1) := by decide +kernel
theorem dX5_at_114 : decode cX5_at 114 = .ok (.getfield 22, 3) := by decide +kernel
theorem dX5_at_117 : decode cX5_at 117 = .ok (.aload_n 0, 1) := by decide +kernel
theorem dX5_at_118 : decode cX5_at 118 = .ok (.getfield 10, 3) := by decide +kernel
theorem dX5_at_121 : decode cX5_at 121 = .ok (.iload 4, 2) := by decide +kernel
theorem dX5_at_123 : decode cX5_at 123 = .ok (.invokevirtual 108, 3) := by decide +kernel
theorem dX5_at_126 : decode cX5_at 126 = .ok (.ifCond .eq 7, 3) := by decide +kernel
theorem dX5_at_129 : decode cX5_at 129 = .ok (.iconst 1, 1) := by decide +kernel
theorem dX5_at_130 : decode cX5_at 130 = .ok (.goto 4, 3) := by decide +kernel
theorem dX5_at_133 : decode cX5_at 133 = .ok (.iconst 0, 1) := by decide +kernel
theorem dX5_at_134 : decode cX5_at 134 = .ok (.ireturn, 1) := by decide +kernel
theorem dX5_at_135 : decode cX5_at 135 = .ok (.aload_n 0, 1) := by decide +kernel
theorem dX5_at_136 : decode cX5_at 136 = .ok (.getfield 22, 3) := by decide +kernel
theorem dX5_at_139 : decode cX5_at 139 = .ok (.aload_n 0, 1) := by decide +kernel
theorem dX5_at_140 : decode cX5_at 140 = .ok (.getfield 10, 3) := by decide +kernel
theorem dX5_at_143 : decode cX5_at 143 = .ok (.iload 4, 2) := by decide +kernel
theorem dX5_at_145 : decode cX5_at 145 = .ok (.invokevirtual 112, 3) := by decide +kernel
theorem dX5_at_148 : decode cX5_at 148 = .ok (.ifCond .eq 7, 3) := by decide +kernel
theorem dX5_at_151 : decode cX5_at 151 = .ok (.iconst 1, 1) := by decide +kernel
theorem dX5_at_152 : decode cX5_at 152 = .ok (.goto 4, 3) := by decide +kernel
theorem dX5_at_155 : decode cX5_at 155 = .ok (.iconst 0, 1) := by decide +kernel
theorem dX5_at_156 : decode cX5_at 156 = .ok (.ireturn, 1) := by decide +kernel
theorem dX5_at_157 : decode cX5_at 157 = .ok (.aload_n 0, 1) := by decide +kernel
theorem dX5_at_158 : decode cX5_at 158 = .ok (.getfield 10, 3) := by decide +kernel
theorem dX5_at_161 : decode cX5_at 161 = .ok (.iload 4, 2) := by decide +kernel
theorem dX5_at_163 : decode cX5_at 163 = .ok (.invokevirtual 115, 3) := by decide +kernel
theorem dX5_at_166 : decode cX5_at 166 = .ok (.ireturn, 1) := by decide +kernel
theorem dX5_at_167 : decode cX5_at 167 = .ok (.bipush (-2), 2) := by decide +kernel
theorem dX5_at_169 : decode cX5_at 169 = .ok (.ireturn, 1) := by decide +kernel
set_option maxRecDepth 20000 in
theorem ggX5_row_X0_tracked : GoodIn wsX5_row wsX0_tracked := goodIn_r _ [6, 7, 75, 76, 77, 78, 79, 80, 81, 82, 83, 84, 85, 86, 87] (by decide +kernel) (by decide +kernel)
set_option maxRecDepth 20000 in
theorem gX5_row_X0_tracked_n118 : GoodIn wsX5_row (wsX0_tracked) := ggX5_row_X0_tracked
set_option maxRecDepth 20000 in
theorem ggX5_row_X5_columnsOf : GoodIn wsX5_row wsX5_columnsOf := goodIn_r _ [11, 12] (by decide +kernel) (by decide +kernel)
set_option maxRecDepth 20000 in
theorem gX5_row_X5_columnsOf : GoodIn wsX5_row (va_wsS RX5 122 yX5_columnsOf wsX5_columnsOf) := goodIn_app (goodIn_of _ (by decide +kernel)) ggX5_row_X5_columnsOf
set_option maxRecDepth 20000 in
theorem ggX5_row_X0_suspects : GoodIn wsX5_row wsX0_suspects := goodIn_r _ [15, 16, 17, 18, 4, 19, 7, 20, 10, 21, 22, 23, 24, 25, 26, 75, 76, 77, 78, 79, 80, 81, 82, 83, 84, 85, 86, 87] (by decide +kernel) (by decide +kernel)
set_option maxRecDepth 20000 in
theorem gX5_row_X0_suspects_n126 : GoodIn wsX5_row (wsX0_suspects) := ggX5_row_X0_suspects
set_option maxRecDepth 20000 in
theorem ggX5_row_X4_fitting : GoodIn wsX5_row wsX4_fitting := goodIn_r _ [30, 31, 32, 33, 28, 34, 17, 4, 18, 19, 7, 20, 10, 21, 22, 23, 24, 25, 26, 35, 36, 37, 38, 39, 40, 41, 42, 43, 44, 45, 46, 47, 48, 49, 50, 51, 52, 53, 54, 55, 56, 57, 58, 59, 60, 61, 62, 63, 64, 65, 66, 67, 75, 76, 77, 78, 79, 80, 81, 82, 83, 84, 85, 86, 87, 88, 89, 90, 91, 92] (by decide +kernel) (by decide +kernel)
set_option maxRecDepth 20000 in
theorem gX5_row_X4_fitting_n129 : GoodIn wsX5_row (wsX4_fitting) := ggX5_row_X4_fitting
theorem dX5_row_0 : decode cX5_row 0 = .ok (.iload_n 1, 1) := by decide +kernel
theorem dX5_row_1 : decode cX5_row 1 = .ok (.ifCond .lt 9, 3) := by decide +kernel
theorem dX5_row_4 : decode cX5_row 4 = .ok (.iload_n 1, 1) := by decide +kernel
theorem dX5_row_5 : decode cX5_row 5 = .ok (.bipush 8, 2) := by decide +kernel
theorem dX5_row_7 : decode cX5_row 7 = .ok (.if_icmp .lt 5, 3) := by decide +kernel
theorem dX5_row_10 : decode cX5_row 10 = .ok (.iconst (-1), 1) := by decide +kernel
theorem dX5_row_11 : decode cX5_row 11 = .ok (.ireturn, 1) := by decide +kernel
theorem dX5_row_12 : decode cX5_row 12 = .ok (.iload_n 2, 1) := by decide +kernel
theorem dX5_row_13 : decode cX5_row 13 = .ok (.tableswitch 67 0 2 #[27, 39, 51], 27) := by decide +kernel
theorem dX5_row_40 : decode cX5_row 40 = .ok (.aload_n 0, 1) := by decide +kernel
theorem dX5_row_41 : decode cX5_row 41 = .ok (.getfield 10, 3) := by decide +kernel
theorem dX5_row_44 : decode cX5_row 44 = .ok (.invokevirtual 118, 3) := by decide +kernel
theorem dX5_row_47 : decode cX5_row 47 = .ok (.iload_n 1, 1) := by decide +kernel
theorem dX5_row_48 : decode cX5_row 48 = .ok (.invokestatic 122, 3) := by decide +kernel
theorem dX5_row_51 : decode cX5_row 51 = .ok (.ireturn, 1) := by decide +kernel
theorem dX5_row_52 : decode cX5_row 52 = .ok (.aload_n 0, 1) := by decide +kernel
theorem dX5_row_53 : decode cX5_row 53 = .ok (.getfield 10, 3) := by decide +kernel
theorem dX5_row_56 : decode cX5_row 56 = .ok (.invokevirtual 126, 3) := by decide +kernel
theorem dX5_row_59 : decode cX5_row 59 = .ok (.iload_n 1, 1) := by decide +kernel
theorem dX5_row_60 : decode cX5_row 60 = .ok (.invokestatic 122, 3) := by decide +kernel
theorem dX5_row_63 : decode cX5_row 63 = .ok (.ireturn, 1) := by decide +kernel
theorem dX5_row_64 : decode cX5_row 64 = .ok (.aload_n 0, 1) := by decide +kernel
theorem dX5_row_65 : decode cX5_row 65 = .ok (.getfield 22, 3) := by decide +kernel
theorem dX5_row_68 : decode cX5_row 68 = .ok (.aload_n 0, 1) := by decide +kernel
theorem dX5_row_69 : decode cX5_row 69 = .ok (.getfield 10, 3) := by decide +kernel
theorem dX5_row_72 : decode cX5_row 72 = .ok (.invokevirtual 129, 3) := by decide +kernel
theorem dX5_row_75 : decode cX5_row 75 = .ok (.iload_n 1, 1) := by decide +kernel
theorem dX5_row_76 : decode cX5_row 76 = .ok (.invokestatic 122, 3) := by decide +kernel
theorem dX5_row_79 : decode cX5_row 79 = .ok (.ireturn, 1) := by decide +kernel
theorem dX5_row_80 : decode cX5_row 80 = .ok (.bipush (-2), 2) := by decide +kernel
theorem dX5_row_82 : decode cX5_row 82 = .ok (.ireturn, 1) := by decide +kernel
set_option maxRecDepth 20000 in
theorem ggX5_ofTouch_X0_isLive : GoodIn wsX5_ofTouch wsX0_isLive := goodIn_r _ [5, 6, 7, 8, 9, 10, 11, 3, 12, 13, 21, 22, 23, 24, 25, 26, 27, 28, 29, 30, 31, 32, 33] (by decide +kernel) (by decide +kernel)
set_option maxRecDepth 20000 in
theorem gX5_ofTouch_X0_isLive_n142 : GoodIn wsX5_ofTouch (wsX0_isLive) := ggX5_ofTouch_X0_isLive
theorem dX5_ofTouch_0 : decode cX5_ofTouch 0 = .ok (.iload_n 1, 1) := by decide +kernel
theorem dX5_ofTouch_1 : decode cX5_ofTouch 1 = .ok (.ifCond .lt 14, 3) := by decide +kernel
theorem dX5_ofTouch_4 : decode cX5_ofTouch 4 = .ok (.iload_n 1, 1) := by decide +kernel
theorem dX5_ofTouch_5 : decode cX5_ofTouch 5 = .ok (.aload_n 0, 1) := by decide +kernel
theorem dX5_ofTouch_6 : decode cX5_ofTouch 6 = .ok (.getfield 10, 3) := by decide +kernel
theorem dX5_ofTouch_9 : decode cX5_ofTouch 9 = .ok (.getfield 133, 3) := by decide +kernel
theorem dX5_ofTouch_12 : decode cX5_ofTouch 12 = .ok (.if_icmp .lt 5, 3) := by decide +kernel
theorem dX5_ofTouch_15 : decode cX5_ofTouch 15 = .ok (.iconst (-1), 1) := by decide +kernel
theorem dX5_ofTouch_16 : decode cX5_ofTouch 16 = .ok (.ireturn, 1) := by decide +kernel
theorem dX5_ofTouch_17 : decode cX5_ofTouch 17 = .ok (.iload_n 2, 1) := by decide +kernel
theorem dX5_ofTouch_18 : decode cX5_ofTouch 18 = .ok (.tableswitch 85 0 3 #[30, 40, 58, 68], 30) := by decide +kernel
theorem dX5_ofTouch_48 : decode cX5_ofTouch 48 = .ok (.aload_n 0, 1) := by decide +kernel
theorem dX5_ofTouch_49 : decode cX5_ofTouch 49 = .ok (.getfield 10, 3) := by decide +kernel
theorem dX5_ofTouch_52 : decode cX5_ofTouch 52 = .ok (.getfield 136, 3) := by decide +kernel
theorem dX5_ofTouch_55 : decode cX5_ofTouch 55 = .ok (.iload_n 1, 1) := by decide +kernel
theorem dX5_ofTouch_56 : decode cX5_ofTouch 56 = .ok (.iaload, 1) := by decide +kernel
theorem dX5_ofTouch_57 : decode cX5_ofTouch 57 = .ok (.ireturn, 1) := by decide +kernel
theorem dX5_ofTouch_58 : decode cX5_ofTouch 58 = .ok (.aload_n 0, 1) := by decide +kernel
theorem dX5_ofTouch_59 : decode cX5_ofTouch 59 = .ok (.getfield 10, 3) := by decide +kernel
theorem dX5_ofTouch_62 : decode cX5_ofTouch 62 = .ok (.getfield 89, 3) := by decide +kernel
theorem dX5_ofTouch_65 : decode cX5_ofTouch 65 = .ok (.aload_n 0, 1) := by decide +kernel
theorem dX5_ofTouch_66 : decode cX5_ofTouch 66 = .ok (.getfield 10, 3) := by decide +kernel
theorem dX5_ofTouch_69 : decode cX5_ofTouch 69 = .ok (.getfield 136, 3) := by decide +kernel
theorem dX5_ofTouch_72 : decode cX5_ofTouch 72 = .ok (.iload_n 1, 1) := by decide +kernel
theorem dX5_ofTouch_73 : decode cX5_ofTouch 73 = .ok (.iaload, 1) := by decide +kernel
theorem dX5_ofTouch_74 : decode cX5_ofTouch 74 = .ok (.iaload, 1) := by decide +kernel
theorem dX5_ofTouch_75 : decode cX5_ofTouch 75 = .ok (.ireturn, 1) := by decide +kernel
theorem dX5_ofTouch_76 : decode cX5_ofTouch 76 = .ok (.aload_n 0, 1) := by decide +kernel
theorem dX5_ofTouch_77 : decode cX5_ofTouch 77 = .ok (.getfield 10, 3) := by decide +kernel
theorem dX5_ofTouch_80 : decode cX5_ofTouch 80 = .ok (.getfield 139, 3) := by decide +kernel
theorem dX5_ofTouch_83 : decode cX5_ofTouch 83 = .ok (.iload_n 1, 1) := by decide +kernel
theorem dX5_ofTouch_84 : decode cX5_ofTouch 84 = .ok (.iaload, 1) := by decide +kernel
theorem dX5_ofTouch_85 : decode cX5_ofTouch 85 = .ok (.ireturn, 1) := by decide +kernel
theorem dX5_ofTouch_86 : decode cX5_ofTouch 86 = .ok (.aload_n 0, 1) := by decide +kernel
theorem dX5_ofTouch_87 : decode cX5_ofTouch 87 = .ok (.getfield 10, 3) := by decide +kernel
theorem dX5_ofTouch_90 : decode cX5_ofTouch 90 = .ok (.iload_n 1, 1) := by decide +kernel
theorem dX5_ofTouch_91 : decode cX5_ofTouch 91 = .ok (.invokevirtual 142, 3) := by decide +kernel
theorem dX5_ofTouch_94 : decode cX5_ofTouch 94 = .ok (.ifCond .eq 7, 3) := by decide +kernel
theorem dX5_ofTouch_97 : decode cX5_ofTouch 97 = .ok (.iconst 1, 1) := by decide +kernel
theorem dX5_ofTouch_98 : decode cX5_ofTouch 98 = .ok (.goto 4, 3) := by decide +kernel
theorem dX5_ofTouch_101 : decode cX5_ofTouch 101 = .ok (.iconst 0, 1) := by decide +kernel
theorem dX5_ofTouch_102 : decode cX5_ofTouch 102 = .ok (.ireturn, 1) := by decide +kernel
theorem dX5_ofTouch_103 : decode cX5_ofTouch 103 = .ok (.bipush (-2), 2) := by decide +kernel
theorem dX5_ofTouch_105 : decode cX5_ofTouch 105 = .ok (.ireturn, 1) := by decide +kernel
theorem dX5_reading_0 : decode cX5_reading 0 = .ok (.iload_n 1, 1) := by decide +kernel
theorem dX5_reading_1 : decode cX5_reading 1 = .ok (.ifCond .lt 14, 3) := by decide +kernel
theorem dX5_reading_4 : decode cX5_reading 4 = .ok (.iload_n 1, 1) := by decide +kernel
theorem dX5_reading_5 : decode cX5_reading 5 = .ok (.aload_n 0, 1) := by decide +kernel
theorem dX5_reading_6 : decode cX5_reading 6 = .ok (.getfield 10, 3) := by decide +kernel
theorem dX5_reading_9 : decode cX5_reading 9 = .ok (.getfield 145, 3) := by decide +kernel
theorem dX5_reading_12 : decode cX5_reading 12 = .ok (.if_icmp .lt 5, 3) := by decide +kernel
theorem dX5_reading_15 : decode cX5_reading 15 = .ok (.iconst (-1), 1) := by decide +kernel
theorem dX5_reading_16 : decode cX5_reading 16 = .ok (.ireturn, 1) := by decide +kernel
theorem dX5_reading_17 : decode cX5_reading 17 = .ok (.iload_n 2, 1) := by decide +kernel
theorem dX5_reading_18 : decode cX5_reading 18 = .ok (.tableswitch 56 0 2 #[26, 36, 46], 26) := by decide +kernel
theorem dX5_reading_44 : decode cX5_reading 44 = .ok (.aload_n 0, 1) := by decide +kernel
theorem dX5_reading_45 : decode cX5_reading 45 = .ok (.getfield 10, 3) := by decide +kernel
theorem dX5_reading_48 : decode cX5_reading 48 = .ok (.getfield 148, 3) := by decide +kernel
theorem dX5_reading_51 : decode cX5_reading 51 = .ok (.iload_n 1, 1) := by decide +kernel
theorem dX5_reading_52 : decode cX5_reading 52 = .ok (.iaload, 1) := by decide +kernel
theorem dX5_reading_53 : decode cX5_reading 53 = .ok (.ireturn, 1) := by decide +kernel
theorem dX5_reading_54 : decode cX5_reading 54 = .ok (.aload_n 0, 1) := by decide +kernel
theorem dX5_reading_55 : decode cX5_reading 55 = .ok (.getfield 10, 3) := by decide +kernel
theorem dX5_reading_58 : decode cX5_reading 58 = .ok (.getfield 151, 3) := by decide +kernel
theorem dX5_reading_61 : decode cX5_reading 61 = .ok (.iload_n 1, 1) := by decide +kernel
theorem dX5_reading_62 : decode cX5_reading 62 = .ok (.iaload, 1) := by decide +kernel
theorem dX5_reading_63 : decode cX5_reading 63 = .ok (.ireturn, 1) := by decide +kernel
theorem dX5_reading_64 : decode cX5_reading 64 = .ok (.aload_n 0, 1) := by decide +kernel
theorem dX5_reading_65 : decode cX5_reading 65 = .ok (.getfield 10, 3) := by decide +kernel
theorem dX5_reading_68 : decode cX5_reading 68 = .ok (.getfield 154, 3) := by decide +kernel
theorem dX5_reading_71 : decode cX5_reading 71 = .ok (.iload_n 1, 1) := by decide +kernel
theorem dX5_reading_72 : decode cX5_reading 72 = .ok (.iaload, 1) := by decide +kernel
theorem dX5_reading_73 : decode cX5_reading 73 = .ok (.ireturn, 1) := by decide +kernel
theorem dX5_reading_74 : decode cX5_reading 74 = .ok (.bipush (-2), 2) := by decide +kernel
theorem dX5_reading_76 : decode cX5_reading 76 = .ok (.ireturn, 1) := by decide +kernel
set_option maxRecDepth 20000 in
theorem ggX5_ofNet_X5_isNet : GoodIn wsX5_ofNet wsX5_isNet := goodIn_r _ [5] (by decide +kernel) (by decide +kernel)
set_option maxRecDepth 20000 in
theorem gX5_ofNet_X5_isNet : GoodIn wsX5_ofNet (va_wsS RX5 157 yX5_isNet wsX5_isNet) := goodIn_app (goodIn_of _ (by decide +kernel)) ggX5_ofNet_X5_isNet
set_option maxRecDepth 20000 in
theorem ggX5_ofNet_X0_placesOf : GoodIn wsX5_ofNet wsX0_placesOf := goodIn_r _ [9, 10, 27, 28, 29, 30, 31, 32, 33, 34, 35, 36, 37, 38, 39] (by decide +kernel) (by decide +kernel)
set_option maxRecDepth 20000 in
theorem gX5_ofNet_X0_placesOf_n160 : GoodIn wsX5_ofNet (wsX0_placesOf) := ggX5_ofNet_X0_placesOf
set_option maxRecDepth 20000 in
theorem ggX5_ofNet_X0_warmthOf : GoodIn wsX5_ofNet wsX0_warmthOf := goodIn_r _ [13, 10, 14, 27, 28, 29, 30, 31, 32, 33, 34, 35, 36, 37, 38, 39] (by decide +kernel) (by decide +kernel)
set_option maxRecDepth 20000 in
theorem gX5_ofNet_X0_warmthOf_n166 : GoodIn wsX5_ofNet (wsX0_warmthOf) := ggX5_ofNet_X0_warmthOf
set_option maxRecDepth 20000 in
theorem ggX5_ofNet_X5_bitsOfFloat : GoodIn wsX5_ofNet wsX5_bitsOfFloat := goodIn_r _ [17, 18, 19] (by decide +kernel) (by decide +kernel)
set_option maxRecDepth 20000 in
theorem gX5_ofNet_X5_bitsOfFloat : GoodIn wsX5_ofNet (va_wsS RX5 97 yX5_bitsOfFloat wsX5_bitsOfFloat) := goodIn_app (goodIn_of _ (by decide +kernel)) ggX5_ofNet_X5_bitsOfFloat
theorem dX5_ofNet_0 : decode cX5_ofNet 0 = .ok (.iload_n 1, 1) := by decide +kernel
theorem dX5_ofNet_1 : decode cX5_ofNet 1 = .ok (.invokestatic 157, 3) := by decide +kernel
theorem dX5_ofNet_4 : decode cX5_ofNet 4 = .ok (.ifCond .ne 5, 3) := by decide +kernel
theorem dX5_ofNet_7 : decode cX5_ofNet 7 = .ok (.iconst (-1), 1) := by decide +kernel
theorem dX5_ofNet_8 : decode cX5_ofNet 8 = .ok (.ireturn, 1) := by decide +kernel
theorem dX5_ofNet_9 : decode cX5_ofNet 9 = .ok (.iload_n 2, 1) := by decide +kernel
theorem dX5_ofNet_10 : decode cX5_ofNet 10 = .ok (.tableswitch 57 0 2 #[26, 35, 45], 26) := by decide +kernel
theorem dX5_ofNet_36 : decode cX5_ofNet 36 = .ok (.aload_n 0, 1) := by decide +kernel
theorem dX5_ofNet_37 : decode cX5_ofNet 37 = .ok (.getfield 10, 3) := by decide +kernel
theorem dX5_ofNet_40 : decode cX5_ofNet 40 = .ok (.iload_n 1, 1) := by decide +kernel
theorem dX5_ofNet_41 : decode cX5_ofNet 41 = .ok (.invokevirtual 160, 3) := by decide +kernel
theorem dX5_ofNet_44 : decode cX5_ofNet 44 = .ok (.ireturn, 1) := by decide +kernel
theorem dX5_ofNet_45 : decode cX5_ofNet 45 = .ok (.aload_n 0, 1) := by decide +kernel
theorem dX5_ofNet_46 : decode cX5_ofNet 46 = .ok (.getfield 10, 3) := by decide +kernel
theorem dX5_ofNet_49 : decode cX5_ofNet 49 = .ok (.getfield 163, 3) := by decide +kernel
theorem dX5_ofNet_52 : decode cX5_ofNet 52 = .ok (.iload_n 1, 1) := by decide +kernel
theorem dX5_ofNet_53 : decode cX5_ofNet 53 = .ok (.iaload, 1) := by decide +kernel
theorem dX5_ofNet_54 : decode cX5_ofNet 54 = .ok (.ireturn, 1) := by decide +kernel
theorem dX5_ofNet_55 : decode cX5_ofNet 55 = .ok (.aload_n 0, 1) := by decide +kernel
theorem dX5_ofNet_56 : decode cX5_ofNet 56 = .ok (.getfield 10, 3) := by decide +kernel
theorem dX5_ofNet_59 : decode cX5_ofNet 59 = .ok (.iload_n 1, 1) := by decide +kernel
theorem dX5_ofNet_60 : decode cX5_ofNet 60 = .ok (.invokevirtual 166, 3) := by decide +kernel
theorem dX5_ofNet_63 : decode cX5_ofNet 63 = .ok (.invokestatic 97, 3) := by decide +kernel
theorem dX5_ofNet_66 : decode cX5_ofNet 66 = .ok (.ireturn, 1) := by decide +kernel
theorem dX5_ofNet_67 : decode cX5_ofNet 67 = .ok (.bipush (-2), 2) := by decide +kernel
theorem dX5_ofNet_69 : decode cX5_ofNet 69 = .ok (.ireturn, 1) := by decide +kernel
set_option maxRecDepth 20000 in
theorem ggX5_count_X0_heated : GoodIn wsX5_count wsX0_heated := goodIn_r _ [8, 9, 10, 11, 12, 13, 6, 14, 15, 16, 17, 18, 19, 20, 21, 97, 98, 99, 100, 101, 102, 103, 104, 105, 106, 107, 108, 109] (by decide +kernel) (by decide +kernel)
set_option maxRecDepth 20000 in
theorem gX5_count_X0_heated_n170 : GoodIn wsX5_count (wsX0_heated) := ggX5_count_X0_heated
set_option maxRecDepth 20000 in
theorem ggX5_count_J13_bitCount_95d88 : GoodIn wsX5_count wsJ13_bitCount_95d88 := goodIn_r _ [25, 26, 27, 28] (by decide +kernel) (by decide +kernel)
set_option maxRecDepth 20000 in
theorem gX5_count_J13_bitCount_95d88 : GoodIn wsX5_count (va_wsS RX5 173 yJ13_bitCount_95d88 wsJ13_bitCount_95d88) := goodIn_app (goodIn_of _ (by decide +kernel)) ggX5_count_J13_bitCount_95d88
set_option maxRecDepth 20000 in
theorem ggX5_count_X0_tracked : GoodIn wsX5_count wsX0_tracked := goodIn_r _ [31, 15, 97, 98, 99, 100, 101, 102, 103, 104, 105, 106, 107, 108, 109] (by decide +kernel) (by decide +kernel)
set_option maxRecDepth 20000 in
theorem gX5_count_X0_tracked_n118 : GoodIn wsX5_count (wsX0_tracked) := ggX5_count_X0_tracked
set_option maxRecDepth 20000 in
theorem ggX5_count_X0_suspects : GoodIn wsX5_count wsX0_suspects := goodIn_r _ [34, 35, 36, 37, 6, 38, 15, 39, 40, 41, 17, 18, 19, 20, 21, 97, 98, 99, 100, 101, 102, 103, 104, 105, 106, 107, 108, 109] (by decide +kernel) (by decide +kernel)
set_option maxRecDepth 20000 in
theorem gX5_count_X0_suspects_n126 : GoodIn wsX5_count (wsX0_suspects) := ggX5_count_X0_suspects
set_option maxRecDepth 20000 in
theorem ggX5_count_X4_fitting : GoodIn wsX5_count wsX4_fitting := goodIn_r _ [45, 46, 47, 48, 43, 49, 36, 6, 37, 38, 15, 39, 40, 41, 17, 18, 19, 20, 21, 50, 51, 52, 53, 54, 55, 56, 57, 58, 59, 60, 61, 62, 63, 64, 65, 66, 67, 68, 69, 70, 71, 72, 73, 74, 75, 76, 77, 78, 79, 80, 81, 82, 97, 98, 99, 100, 101, 102, 103, 104, 105, 106, 107, 108, 109, 114, 115, 116, 117, 118] (by decide +kernel) (by decide +kernel)
set_option maxRecDepth 20000 in
theorem gX5_count_X4_fitting_n129 : GoodIn wsX5_count (wsX4_fitting) := ggX5_count_X4_fitting
set_option maxRecDepth 20000 in
theorem ggX5_count_X4_pairs : GoodIn wsX5_count wsX4_pairs := goodIn_r _ [85, 32, 6, 33, 34, 35, 36, 37, 38, 15, 39, 40, 41, 17, 18, 19, 20, 21, 78, 79, 50, 51, 52, 43, 53, 54, 55, 56, 57, 58, 59, 60, 61, 62, 63, 64, 65, 66, 67, 68, 69, 70, 71, 72, 73, 74, 75, 76, 77, 80, 81, 82, 97, 98, 99, 100, 101, 102, 103, 104, 105, 106, 107, 108, 109, 114, 115, 116, 117, 118] (by decide +kernel) (by decide +kernel)
set_option maxRecDepth 20000 in
theorem gX5_count_X4_pairs_n179 : GoodIn wsX5_count (wsX4_pairs) := ggX5_count_X4_pairs
set_option maxRecDepth 20000 in
theorem ggX5_count_X0_warmest : GoodIn wsX5_count wsX0_warmest := goodIn_r _ [88, 89, 97, 98, 99, 100, 101, 102, 103, 104, 105, 106, 107, 108, 109] (by decide +kernel) (by decide +kernel)
set_option maxRecDepth 20000 in
theorem gX5_count_X0_warmest_n183 : GoodIn wsX5_count (wsX0_warmest) := ggX5_count_X0_warmest
theorem dX5_count_0 : decode cX5_count 0 = .ok (.iload_n 1, 1) := by decide +kernel
theorem dX5_count_1 : decode cX5_count 1 = .ok (.tableswitch 196 0 14 #[75, 83, 91, 102, 110, 121, 132, 147, 159, 167, 167, 167, 167, 180, 188], 75) := by decide +kernel
theorem dX5_count_76 : decode cX5_count 76 = .ok (.aload_n 0, 1) := by decide +kernel
theorem dX5_count_77 : decode cX5_count 77 = .ok (.getfield 10, 3) := by decide +kernel
theorem dX5_count_80 : decode cX5_count 80 = .ok (.getfield 73, 3) := by decide +kernel
theorem dX5_count_83 : decode cX5_count 83 = .ok (.ireturn, 1) := by decide +kernel
theorem dX5_count_84 : decode cX5_count 84 = .ok (.aload_n 0, 1) := by decide +kernel
theorem dX5_count_85 : decode cX5_count 85 = .ok (.getfield 10, 3) := by decide +kernel
theorem dX5_count_88 : decode cX5_count 88 = .ok (.getfield 133, 3) := by decide +kernel
theorem dX5_count_91 : decode cX5_count 91 = .ok (.ireturn, 1) := by decide +kernel
theorem dX5_count_92 : decode cX5_count 92 = .ok (.aload_n 0, 1) := by decide +kernel
theorem dX5_count_93 : decode cX5_count 93 = .ok (.getfield 10, 3) := by decide +kernel
theorem dX5_count_96 : decode cX5_count 96 = .ok (.invokevirtual 170, 3) := by decide +kernel
theorem dX5_count_99 : decode cX5_count 99 = .ok (.invokestatic 173, 3) := by decide +kernel
theorem dX5_count_102 : decode cX5_count 102 = .ok (.ireturn, 1) := by decide +kernel
theorem dX5_count_103 : decode cX5_count 103 = .ok (.aload_n 0, 1) := by decide +kernel
theorem dX5_count_104 : decode cX5_count 104 = .ok (.getfield 10, 3) := by decide +kernel
theorem dX5_count_107 : decode cX5_count 107 = .ok (.getfield 145, 3) := by decide +kernel
theorem dX5_count_110 : decode cX5_count 110 = .ok (.ireturn, 1) := by decide +kernel
theorem dX5_count_111 : decode cX5_count 111 = .ok (.aload_n 0, 1) := by decide +kernel
theorem dX5_count_112 : decode cX5_count 112 = .ok (.getfield 10, 3) := by decide +kernel
theorem dX5_count_115 : decode cX5_count 115 = .ok (.invokevirtual 118, 3) := by decide +kernel
theorem dX5_count_118 : decode cX5_count 118 = .ok (.invokestatic 173, 3) := by decide +kernel
theorem dX5_count_121 : decode cX5_count 121 = .ok (.ireturn, 1) := by decide +kernel
theorem dX5_count_122 : decode cX5_count 122 = .ok (.aload_n 0, 1) := by decide +kernel
theorem dX5_count_123 : decode cX5_count 123 = .ok (.getfield 10, 3) := by decide +kernel
theorem dX5_count_126 : decode cX5_count 126 = .ok (.invokevirtual 126, 3) := by decide +kernel
theorem dX5_count_129 : decode cX5_count 129 = .ok (.invokestatic 173, 3) := by decide +kernel
theorem dX5_count_132 : decode cX5_count 132 = .ok (.ireturn, 1) := by decide +kernel
theorem dX5_count_133 : decode cX5_count 133 = .ok (.aload_n 0, 1) := by decide +kernel
theorem dX5_count_134 : decode cX5_count 134 = .ok (.getfield 22, 3) := by decide +kernel
theorem dX5_count_137 : decode cX5_count 137 = .ok (.aload_n 0, 1) := by decide +kernel
theorem dX5_count_138 : decode cX5_count 138 = .ok (.getfield 10, 3) := by decide +kernel
theorem dX5_count_141 : decode cX5_count 141 = .ok (.invokevirtual 129, 3) := by decide +kernel
theorem dX5_count_144 : decode cX5_count 144 = .ok (.invokestatic 173, 3) := by decide +kernel
theorem dX5_count_147 : decode cX5_count 147 = .ok (.ireturn, 1) := by decide +kernel
theorem dX5_count_148 : decode cX5_count 148 = .ok (.aload_n 0, 1) := by decide +kernel
theorem dX5_count_149 : decode cX5_count 149 = .ok (.getfield 22, 3) := by decide +kernel
theorem dX5_count_152 : decode cX5_count 152 = .ok (.aload_n 0, 1) := by decide +kernel
theorem dX5_count_153 : decode cX5_count 153 = .ok (.getfield 10, 3) := by decide +kernel
theorem dX5_count_156 : decode cX5_count 156 = .ok (.invokevirtual 179, 3) := by decide +kernel
theorem dX5_count_159 : decode cX5_count 159 = .ok (.ireturn, 1) := by decide +kernel
theorem dX5_count_160 : decode cX5_count 160 = .ok (.aload_n 0, 1) := by decide +kernel
theorem dX5_count_161 : decode cX5_count 161 = .ok (.getfield 10, 3) := by decide +kernel
theorem dX5_count_164 : decode cX5_count 164 = .ok (.invokevirtual 183, 3) := by decide +kernel
theorem dX5_count_167 : decode cX5_count 167 = .ok (.ireturn, 1) := by decide +kernel
theorem dX5_count_168 : decode cX5_count 168 = .ok (.aload_n 0, 1) := by decide +kernel
theorem dX5_count_169 : decode cX5_count 169 = .ok (.getfield 10, 3) := by decide +kernel
theorem dX5_count_172 : decode cX5_count 172 = .ok (.getfield 187, 3) := by decide +kernel
theorem dX5_count_175 : decode cX5_count 175 = .ok (.iload_n 1, 1) := by decide +kernel
theorem dX5_count_176 : decode cX5_count 176 = .ok (.bipush 9, 2) := by decide +kernel
theorem dX5_count_178 : decode cX5_count 178 = .ok (.isub, 1) := by decide +kernel
theorem dX5_count_179 : decode cX5_count 179 = .ok (.iaload, 1) := by decide +kernel
theorem dX5_count_180 : decode cX5_count 180 = .ok (.ireturn, 1) := by decide +kernel
theorem dX5_count_181 : decode cX5_count 181 = .ok (.aload_n 0, 1) := by decide +kernel
theorem dX5_count_182 : decode cX5_count 182 = .ok (.getfield 36, 3) := by decide +kernel
theorem dX5_count_185 : decode cX5_count 185 = .ok (.getfield 190, 3) := by decide +kernel
theorem dX5_count_188 : decode cX5_count 188 = .ok (.ireturn, 1) := by decide +kernel
theorem dX5_count_189 : decode cX5_count 189 = .ok (.aload_n 0, 1) := by decide +kernel
theorem dX5_count_190 : decode cX5_count 190 = .ok (.getfield 29, 3) := by decide +kernel
theorem dX5_count_193 : decode cX5_count 193 = .ok (.getfield 193, 3) := by decide +kernel
theorem dX5_count_196 : decode cX5_count 196 = .ok (.ireturn, 1) := by decide +kernel
theorem dX5_count_197 : decode cX5_count 197 = .ok (.bipush (-2), 2) := by decide +kernel
theorem dX5_count_199 : decode cX5_count 199 = .ok (.ireturn, 1) := by decide +kernel
set_option maxRecDepth 20000 in
theorem ggX5_wouldRead_X5_placeOf : GoodIn wsX5_wouldRead wsX5_placeOf := goodIn_r _ [6] (by decide +kernel) (by decide +kernel)
set_option maxRecDepth 20000 in
theorem gX5_wouldRead_X5_placeOf : GoodIn wsX5_wouldRead (va_wsS RX5 86 yX5_placeOf wsX5_placeOf) := goodIn_app (goodIn_of _ (by decide +kernel)) ggX5_wouldRead_X5_placeOf
set_option maxRecDepth 20000 in
theorem ggX5_wouldRead_X0_isSuspect : GoodIn wsX5_wouldRead wsX0_isSuspect := goodIn_r _ [10, 11, 12, 5, 13, 14, 15, 16, 8, 17, 18, 55, 56, 57, 58, 59, 60, 61, 62, 63, 64, 65, 66, 67] (by decide +kernel) (by decide +kernel)
set_option maxRecDepth 20000 in
theorem gX5_wouldRead_X0_isSuspect_n104 : GoodIn wsX5_wouldRead (wsX0_isSuspect) := ggX5_wouldRead_X0_isSuspect
set_option maxRecDepth 20000 in
theorem ggX5_wouldRead_X4_readBy : GoodIn wsX5_wouldRead wsX4_readBy := goodIn_r _ [22, 23, 24, 25, 26, 27, 28, 29, 30, 31, 32, 33, 34, 35, 36, 37, 38, 39, 5, 40, 41, 42, 43, 44, 45, 46, 47, 68, 69, 55, 56, 57, 58, 59, 60, 61, 62, 63, 64, 65, 66, 67, 70, 71, 72] (by decide +kernel) (by decide +kernel)
set_option maxRecDepth 20000 in
theorem gX5_wouldRead_X4_readBy_n213 : GoodIn wsX5_wouldRead (wsX4_readBy) := ggX5_wouldRead_X4_readBy
theorem dX5_wouldRead_0 : decode cX5_wouldRead 0 = .ok (.iload_n 1, 1) := by decide +kernel
theorem dX5_wouldRead_1 : decode cX5_wouldRead 1 = .ok (.iload_n 2, 1) := by decide +kernel
theorem dX5_wouldRead_2 : decode cX5_wouldRead 2 = .ok (.invokestatic 86, 3) := by decide +kernel
theorem dX5_wouldRead_5 : decode cX5_wouldRead 5 = .ok (.istore 5, 2) := by decide +kernel
theorem dX5_wouldRead_7 : decode cX5_wouldRead 7 = .ok (.iload_n 3, 1) := by decide +kernel
theorem dX5_wouldRead_8 : decode cX5_wouldRead 8 = .ok (.iload 4, 2) := by decide +kernel
theorem dX5_wouldRead_10 : decode cX5_wouldRead 10 = .ok (.invokestatic 86, 3) := by decide +kernel
theorem dX5_wouldRead_13 : decode cX5_wouldRead 13 = .ok (.istore 6, 2) := by decide +kernel
theorem dX5_wouldRead_15 : decode cX5_wouldRead 15 = .ok (.iload 5, 2) := by decide +kernel
theorem dX5_wouldRead_17 : decode cX5_wouldRead 17 = .ok (.ifCond .lt 20, 3) := by decide +kernel
theorem dX5_wouldRead_20 : decode cX5_wouldRead 20 = .ok (.iload 6, 2) := by decide +kernel
theorem dX5_wouldRead_22 : decode cX5_wouldRead 22 = .ok (.ifCond .lt 15, 3) := by decide +kernel
theorem dX5_wouldRead_25 : decode cX5_wouldRead 25 = .ok (.aload_n 0, 1) := by decide +kernel
theorem dX5_wouldRead_26 : decode cX5_wouldRead 26 = .ok (.getfield 10, 3) := by decide +kernel
theorem dX5_wouldRead_29 : decode cX5_wouldRead 29 = .ok (.iload 6, 2) := by decide +kernel
theorem dX5_wouldRead_31 : decode cX5_wouldRead 31 = .ok (.invokevirtual 104, 3) := by decide +kernel
theorem dX5_wouldRead_34 : decode cX5_wouldRead 34 = .ok (.ifCond .ne 5, 3) := by decide +kernel
theorem dX5_wouldRead_37 : decode cX5_wouldRead 37 = .ok (.iconst (-1), 1) := by decide +kernel
theorem dX5_wouldRead_38 : decode cX5_wouldRead 38 = .ok (.ireturn, 1) := by decide +kernel
theorem dX5_wouldRead_39 : decode cX5_wouldRead 39 = .ok (.aload_n 0, 1) := by decide +kernel
theorem dX5_wouldRead_40 : decode cX5_wouldRead 40 = .ok (.getfield 22, 3) := by decide +kernel
theorem dX5_wouldRead_43 : decode cX5_wouldRead 43 = .ok (.aload_n 0, 1) := by decide +kernel
theorem dX5_wouldRead_44 : decode cX5_wouldRead 44 = .ok (.getfield 10, 3) := by decide +kernel
theorem dX5_wouldRead_47 : decode cX5_wouldRead 47 = .ok (.iload 6, 2) := by decide +kernel
theorem dX5_wouldRead_49 : decode cX5_wouldRead 49 = .ok (.iload 5, 2) := by decide +kernel
theorem dX5_wouldRead_51 : decode cX5_wouldRead 51 = .ok (.invokevirtual 213, 3) := by decide +kernel
theorem dX5_wouldRead_54 : decode cX5_wouldRead 54 = .ok (.ireturn, 1) := by decide +kernel
theorem dX5_placeOf_0 : decode cX5_placeOf 0 = .ok (.iload_n 0, 1) := by decide +kernel
theorem dX5_placeOf_1 : decode cX5_placeOf 1 = .ok (.ifCond .lt 19, 3) := by decide +kernel
theorem dX5_placeOf_4 : decode cX5_placeOf 4 = .ok (.iload_n 0, 1) := by decide +kernel
theorem dX5_placeOf_5 : decode cX5_placeOf 5 = .ok (.bipush 8, 2) := by decide +kernel
theorem dX5_placeOf_7 : decode cX5_placeOf 7 = .ok (.if_icmp .ge 13, 3) := by decide +kernel
theorem dX5_placeOf_10 : decode cX5_placeOf 10 = .ok (.iload_n 1, 1) := by decide +kernel
theorem dX5_placeOf_11 : decode cX5_placeOf 11 = .ok (.ifCond .lt 9, 3) := by decide +kernel
theorem dX5_placeOf_14 : decode cX5_placeOf 14 = .ok (.iload_n 1, 1) := by decide +kernel
theorem dX5_placeOf_15 : decode cX5_placeOf 15 = .ok (.bipush 8, 2) := by decide +kernel
theorem dX5_placeOf_17 : decode cX5_placeOf 17 = .ok (.if_icmp .lt 7, 3) := by decide +kernel
theorem dX5_placeOf_20 : decode cX5_placeOf 20 = .ok (.iconst (-1), 1) := by decide +kernel
theorem dX5_placeOf_21 : decode cX5_placeOf 21 = .ok (.goto 9, 3) := by decide +kernel
theorem dX5_placeOf_24 : decode cX5_placeOf 24 = .ok (.bipush 8, 2) := by decide +kernel
theorem dX5_placeOf_26 : decode cX5_placeOf 26 = .ok (.iload_n 0, 1) := by decide +kernel
theorem dX5_placeOf_27 : decode cX5_placeOf 27 = .ok (.imul, 1) := by decide +kernel
theorem dX5_placeOf_28 : decode cX5_placeOf 28 = .ok (.iload_n 1, 1) := by decide +kernel
theorem dX5_placeOf_29 : decode cX5_placeOf 29 = .ok (.iadd, 1) := by decide +kernel
theorem dX5_placeOf_30 : decode cX5_placeOf 30 = .ok (.ireturn, 1) := by decide +kernel
theorem dX5_neighbourOf_0 : decode cX5_neighbourOf 0 = .ok (.iload_n 1, 1) := by decide +kernel
theorem dX5_neighbourOf_1 : decode cX5_neighbourOf 1 = .ok (.tableswitch 75 0 2 #[27, 43, 59], 27) := by decide +kernel
theorem dX5_neighbourOf_28 : decode cX5_neighbourOf 28 = .ok (.iload_n 0, 1) := by decide +kernel
theorem dX5_neighbourOf_29 : decode cX5_neighbourOf 29 = .ok (.bipush 8, 2) := by decide +kernel
theorem dX5_neighbourOf_31 : decode cX5_neighbourOf 31 = .ok (.if_icmp .lt 10, 3) := by decide +kernel
theorem dX5_neighbourOf_34 : decode cX5_neighbourOf 34 = .ok (.iload_n 0, 1) := by decide +kernel
theorem dX5_neighbourOf_35 : decode cX5_neighbourOf 35 = .ok (.bipush 8, 2) := by decide +kernel
theorem dX5_neighbourOf_37 : decode cX5_neighbourOf 37 = .ok (.isub, 1) := by decide +kernel
theorem dX5_neighbourOf_38 : decode cX5_neighbourOf 38 = .ok (.goto 5, 3) := by decide +kernel
theorem dX5_neighbourOf_41 : decode cX5_neighbourOf 41 = .ok (.bipush (-6), 2) := by decide +kernel
theorem dX5_neighbourOf_43 : decode cX5_neighbourOf 43 = .ok (.ireturn, 1) := by decide +kernel
theorem dX5_neighbourOf_44 : decode cX5_neighbourOf 44 = .ok (.iload_n 0, 1) := by decide +kernel
theorem dX5_neighbourOf_45 : decode cX5_neighbourOf 45 = .ok (.bipush 56, 2) := by decide +kernel
theorem dX5_neighbourOf_47 : decode cX5_neighbourOf 47 = .ok (.if_icmp .ge 10, 3) := by decide +kernel
theorem dX5_neighbourOf_50 : decode cX5_neighbourOf 50 = .ok (.iload_n 0, 1) := by decide +kernel
theorem dX5_neighbourOf_51 : decode cX5_neighbourOf 51 = .ok (.bipush 8, 2) := by decide +kernel
theorem dX5_neighbourOf_53 : decode cX5_neighbourOf 53 = .ok (.iadd, 1) := by decide +kernel
theorem dX5_neighbourOf_54 : decode cX5_neighbourOf 54 = .ok (.goto 5, 3) := by decide +kernel
theorem dX5_neighbourOf_57 : decode cX5_neighbourOf 57 = .ok (.bipush (-6), 2) := by decide +kernel
theorem dX5_neighbourOf_59 : decode cX5_neighbourOf 59 = .ok (.ireturn, 1) := by decide +kernel
theorem dX5_neighbourOf_60 : decode cX5_neighbourOf 60 = .ok (.iload_n 0, 1) := by decide +kernel
theorem dX5_neighbourOf_61 : decode cX5_neighbourOf 61 = .ok (.bipush 8, 2) := by decide +kernel
theorem dX5_neighbourOf_63 : decode cX5_neighbourOf 63 = .ok (.irem, 1) := by decide +kernel
theorem dX5_neighbourOf_64 : decode cX5_neighbourOf 64 = .ok (.ifCond .le 9, 3) := by decide +kernel
theorem dX5_neighbourOf_67 : decode cX5_neighbourOf 67 = .ok (.iload_n 0, 1) := by decide +kernel
theorem dX5_neighbourOf_68 : decode cX5_neighbourOf 68 = .ok (.iconst 1, 1) := by decide +kernel
theorem dX5_neighbourOf_69 : decode cX5_neighbourOf 69 = .ok (.isub, 1) := by decide +kernel
theorem dX5_neighbourOf_70 : decode cX5_neighbourOf 70 = .ok (.goto 5, 3) := by decide +kernel
theorem dX5_neighbourOf_73 : decode cX5_neighbourOf 73 = .ok (.bipush (-6), 2) := by decide +kernel
theorem dX5_neighbourOf_75 : decode cX5_neighbourOf 75 = .ok (.ireturn, 1) := by decide +kernel
theorem dX5_neighbourOf_76 : decode cX5_neighbourOf 76 = .ok (.iload_n 0, 1) := by decide +kernel
theorem dX5_neighbourOf_77 : decode cX5_neighbourOf 77 = .ok (.bipush 8, 2) := by decide +kernel
theorem dX5_neighbourOf_79 : decode cX5_neighbourOf 79 = .ok (.irem, 1) := by decide +kernel
theorem dX5_neighbourOf_80 : decode cX5_neighbourOf 80 = .ok (.bipush 7, 2) := by decide +kernel
theorem dX5_neighbourOf_82 : decode cX5_neighbourOf 82 = .ok (.if_icmp .ge 9, 3) := by decide +kernel
theorem dX5_neighbourOf_85 : decode cX5_neighbourOf 85 = .ok (.iload_n 0, 1) := by decide +kernel
theorem dX5_neighbourOf_86 : decode cX5_neighbourOf 86 = .ok (.iconst 1, 1) := by decide +kernel
theorem dX5_neighbourOf_87 : decode cX5_neighbourOf 87 = .ok (.iadd, 1) := by decide +kernel
theorem dX5_neighbourOf_88 : decode cX5_neighbourOf 88 = .ok (.goto 5, 3) := by decide +kernel
theorem dX5_neighbourOf_91 : decode cX5_neighbourOf 91 = .ok (.bipush (-6), 2) := by decide +kernel
theorem dX5_neighbourOf_93 : decode cX5_neighbourOf 93 = .ok (.ireturn, 1) := by decide +kernel
set_option maxRecDepth 20000 in
theorem ggX5_areNeighbours_X5_neighbourOf : GoodIn wsX5_areNeighbours wsX5_neighbourOf := goodIn_r _ [4] (by decide +kernel) (by decide +kernel)
set_option maxRecDepth 20000 in
theorem gX5_areNeighbours_X5_neighbourOf : GoodIn wsX5_areNeighbours (va_wsS RX5 253 yX5_neighbourOf wsX5_neighbourOf) := goodIn_app (goodIn_of _ (by decide +kernel)) ggX5_areNeighbours_X5_neighbourOf
theorem dX5_areNeighbours_0 : decode cX5_areNeighbours 0 = .ok (.iconst 0, 1) := by decide +kernel
theorem dX5_areNeighbours_1 : decode cX5_areNeighbours 1 = .ok (.istore_n 2, 1) := by decide +kernel
theorem dX5_areNeighbours_2 : decode cX5_areNeighbours 2 = .ok (.iload_n 2, 1) := by decide +kernel
theorem dX5_areNeighbours_3 : decode cX5_areNeighbours 3 = .ok (.iconst 4, 1) := by decide +kernel
theorem dX5_areNeighbours_4 : decode cX5_areNeighbours 4 = .ok (.if_icmp .ge 20, 3) := by decide +kernel
theorem dX5_areNeighbours_7 : decode cX5_areNeighbours 7 = .ok (.iload_n 0, 1) := by decide +kernel
theorem dX5_areNeighbours_8 : decode cX5_areNeighbours 8 = .ok (.iload_n 2, 1) := by decide +kernel
theorem dX5_areNeighbours_9 : decode cX5_areNeighbours 9 = .ok (.invokestatic 253, 3) := by decide +kernel
theorem dX5_areNeighbours_12 : decode cX5_areNeighbours 12 = .ok (.iload_n 1, 1) := by decide +kernel
theorem dX5_areNeighbours_13 : decode cX5_areNeighbours 13 = .ok (.if_icmp .ne 5, 3) := by decide +kernel
theorem dX5_areNeighbours_16 : decode cX5_areNeighbours 16 = .ok (.iconst 1, 1) := by decide +kernel
theorem dX5_areNeighbours_17 : decode cX5_areNeighbours 17 = .ok (.ireturn, 1) := by decide +kernel
theorem dX5_areNeighbours_18 : decode cX5_areNeighbours 18 = .ok (.iinc 2 1, 3) := by decide +kernel
theorem dX5_areNeighbours_21 : decode cX5_areNeighbours 21 = .ok (.goto (-19), 3) := by decide +kernel
theorem dX5_areNeighbours_24 : decode cX5_areNeighbours 24 = .ok (.iconst 0, 1) := by decide +kernel
theorem dX5_areNeighbours_25 : decode cX5_areNeighbours 25 = .ok (.ireturn, 1) := by decide +kernel
theorem dX5_isNet_0 : decode cX5_isNet 0 = .ok (.iload_n 0, 1) := by decide +kernel
theorem dX5_isNet_1 : decode cX5_isNet 1 = .ok (.iconst 1, 1) := by decide +kernel
theorem dX5_isNet_2 : decode cX5_isNet 2 = .ok (.if_icmp .lt 13, 3) := by decide +kernel
theorem dX5_isNet_5 : decode cX5_isNet 5 = .ok (.iload_n 0, 1) := by decide +kernel
theorem dX5_isNet_6 : decode cX5_isNet 6 = .ok (.bipush 7, 2) := by decide +kernel
theorem dX5_isNet_8 : decode cX5_isNet 8 = .ok (.if_icmp .gt 7, 3) := by decide +kernel
theorem dX5_isNet_11 : decode cX5_isNet 11 = .ok (.iconst 1, 1) := by decide +kernel
theorem dX5_isNet_12 : decode cX5_isNet 12 = .ok (.goto 4, 3) := by decide +kernel
theorem dX5_isNet_15 : decode cX5_isNet 15 = .ok (.iconst 0, 1) := by decide +kernel
theorem dX5_isNet_16 : decode cX5_isNet 16 = .ok (.ireturn, 1) := by decide +kernel
theorem dX5_isIn_0 : decode cX5_isIn 0 = .ok (.lload_n 0, 1) := by decide +kernel
theorem dX5_isIn_1 : decode cX5_isIn 1 = .ok (.iload_n 2, 1) := by decide +kernel
theorem dX5_isIn_2 : decode cX5_isIn 2 = .ok (.lushr, 1) := by decide +kernel
theorem dX5_isIn_3 : decode cX5_isIn 3 = .ok (.lconst 1, 1) := by decide +kernel
theorem dX5_isIn_4 : decode cX5_isIn 4 = .ok (.land, 1) := by decide +kernel
theorem dX5_isIn_5 : decode cX5_isIn 5 = .ok (.lconst 0, 1) := by decide +kernel
theorem dX5_isIn_6 : decode cX5_isIn 6 = .ok (.lcmp, 1) := by decide +kernel
theorem dX5_isIn_7 : decode cX5_isIn 7 = .ok (.ifCond .eq 7, 3) := by decide +kernel
theorem dX5_isIn_10 : decode cX5_isIn 10 = .ok (.iconst 1, 1) := by decide +kernel
theorem dX5_isIn_11 : decode cX5_isIn 11 = .ok (.goto 4, 3) := by decide +kernel
theorem dX5_isIn_14 : decode cX5_isIn 14 = .ok (.iconst 0, 1) := by decide +kernel
theorem dX5_isIn_15 : decode cX5_isIn 15 = .ok (.ireturn, 1) := by decide +kernel
theorem dX5_columnsOf_0 : decode cX5_columnsOf 0 = .ok (.lload_n 0, 1) := by decide +kernel
theorem dX5_columnsOf_1 : decode cX5_columnsOf 1 = .ok (.bipush 8, 2) := by decide +kernel
theorem dX5_columnsOf_3 : decode cX5_columnsOf 3 = .ok (.iload_n 2, 1) := by decide +kernel
theorem dX5_columnsOf_4 : decode cX5_columnsOf 4 = .ok (.imul, 1) := by decide +kernel
theorem dX5_columnsOf_5 : decode cX5_columnsOf 5 = .ok (.lushr, 1) := by decide +kernel
theorem dX5_columnsOf_6 : decode cX5_columnsOf 6 = .ok (.ldc2_w 256, 3) := by decide +kernel
theorem dX5_columnsOf_9 : decode cX5_columnsOf 9 = .ok (.land, 1) := by decide +kernel
theorem dX5_columnsOf_10 : decode cX5_columnsOf 10 = .ok (.l2i, 1) := by decide +kernel
theorem dX5_columnsOf_11 : decode cX5_columnsOf 11 = .ok (.ireturn, 1) := by decide +kernel
theorem dX5_readOf_0 : decode cX5_readOf 0 = .ok (.fload_n 0, 1) := by decide +kernel
theorem dX5_readOf_1 : decode cX5_readOf 1 = .ok (.ldc_w 258, 3) := by decide +kernel
theorem dX5_readOf_4 : decode cX5_readOf 4 = .ok (.fmul, 1) := by decide +kernel
theorem dX5_readOf_5 : decode cX5_readOf 5 = .ok (.f2i, 1) := by decide +kernel
theorem dX5_readOf_6 : decode cX5_readOf 6 = .ok (.ireturn, 1) := by decide +kernel
set_option maxRecDepth 20000 in
theorem ggX5_step_X5_isIn : GoodIn wsX5_step wsX5_isIn := goodIn_r _ [5] (by decide +kernel) (by decide +kernel)
set_option maxRecDepth 20000 in
theorem gX5_step_X5_isIn : GoodIn wsX5_step (va_wsS RX5 260 yX5_isIn wsX5_isIn) := goodIn_app (goodIn_of _ (by decide +kernel)) ggX5_step_X5_isIn
theorem dX5_step_0 : decode cX5_step 0 = .ok (.aload 6, 2) := by decide +kernel
theorem dX5_step_2 : decode cX5_step 2 = .ok (.iconst 0, 1) := by decide +kernel
theorem dX5_step_3 : decode cX5_step 3 = .ok (.iaload, 1) := by decide +kernel
theorem dX5_step_4 : decode cX5_step 4 = .ok (.i2f, 1) := by decide +kernel
theorem dX5_step_5 : decode cX5_step 5 = .ok (.fstore 7, 2) := by decide +kernel
theorem dX5_step_7 : decode cX5_step 7 = .ok (.bipush 100, 2) := by decide +kernel
theorem dX5_step_9 : decode cX5_step 9 = .ok (.aload 6, 2) := by decide +kernel
theorem dX5_step_11 : decode cX5_step 11 = .ok (.iconst 1, 1) := by decide +kernel
theorem dX5_step_12 : decode cX5_step 12 = .ok (.iaload, 1) := by decide +kernel
theorem dX5_step_13 : decode cX5_step 13 = .ok (.isub, 1) := by decide +kernel
theorem dX5_step_14 : decode cX5_step 14 = .ok (.i2f, 1) := by decide +kernel
theorem dX5_step_15 : decode cX5_step 15 = .ok (.fstore 8, 2) := by decide +kernel
theorem dX5_step_17 : decode cX5_step 17 = .ok (.aload 6, 2) := by decide +kernel
theorem dX5_step_19 : decode cX5_step 19 = .ok (.iconst 2, 1) := by decide +kernel
theorem dX5_step_20 : decode cX5_step 20 = .ok (.iaload, 1) := by decide +kernel
theorem dX5_step_21 : decode cX5_step 21 = .ok (.i2f, 1) := by decide +kernel
theorem dX5_step_22 : decode cX5_step 22 = .ok (.fstore 9, 2) := by decide +kernel
theorem dX5_step_24 : decode cX5_step 24 = .ok (.iconst 0, 1) := by decide +kernel
theorem dX5_step_25 : decode cX5_step 25 = .ok (.istore 10, 2) := by decide +kernel
theorem dX5_step_27 : decode cX5_step 27 = .ok (.iload 10, 2) := by decide +kernel
theorem dX5_step_29 : decode cX5_step 29 = .ok (.bipush 64, 2) := by decide +kernel
theorem dX5_step_31 : decode cX5_step 31 = .ok (.if_icmp .ge 182, 3) := by decide +kernel
theorem dX5_step_34 : decode cX5_step 34 = .ok (.iload_n 1, 1) := by decide +kernel
theorem dX5_step_35 : decode cX5_step 35 = .ok (.iload 10, 2) := by decide +kernel
theorem dX5_step_37 : decode cX5_step 37 = .ok (.iadd, 1) := by decide +kernel
theorem dX5_step_38 : decode cX5_step 38 = .ok (.istore 11, 2) := by decide +kernel
theorem dX5_step_40 : decode cX5_step 40 = .ok (.aload_n 0, 1) := by decide +kernel
theorem dX5_step_41 : decode cX5_step 41 = .ok (.iload 11, 2) := by decide +kernel
theorem dX5_step_43 : decode cX5_step 43 = .ok (.faload, 1) := by decide +kernel
theorem dX5_step_44 : decode cX5_step 44 = .ok (.fstore 12, 2) := by decide +kernel
theorem dX5_step_46 : decode cX5_step 46 = .ok (.fconst 0, 1) := by decide +kernel
theorem dX5_step_47 : decode cX5_step 47 = .ok (.fstore 13, 2) := by decide +kernel
theorem dX5_step_49 : decode cX5_step 49 = .ok (.iload 10, 2) := by decide +kernel
theorem dX5_step_51 : decode cX5_step 51 = .ok (.bipush 8, 2) := by decide +kernel
theorem dX5_step_53 : decode cX5_step 53 = .ok (.if_icmp .lt 25, 3) := by decide +kernel
theorem dX5_step_56 : decode cX5_step 56 = .ok (.fload 13, 2) := by decide +kernel
theorem dX5_step_58 : decode cX5_step 58 = .ok (.aload_n 0, 1) := by decide +kernel
theorem dX5_step_59 : decode cX5_step 59 = .ok (.iload 11, 2) := by decide +kernel
theorem dX5_step_61 : decode cX5_step 61 = .ok (.bipush 8, 2) := by decide +kernel
theorem dX5_step_63 : decode cX5_step 63 = .ok (.isub, 1) := by decide +kernel
theorem dX5_step_64 : decode cX5_step 64 = .ok (.faload, 1) := by decide +kernel
theorem dX5_step_65 : decode cX5_step 65 = .ok (.fload 12, 2) := by decide +kernel
theorem dX5_step_67 : decode cX5_step 67 = .ok (.fsub, 1) := by decide +kernel
theorem dX5_step_68 : decode cX5_step 68 = .ok (.fload 7, 2) := by decide +kernel
theorem dX5_step_70 : decode cX5_step 70 = .ok (.fmul, 1) := by decide +kernel
theorem dX5_step_71 : decode cX5_step 71 = .ok (.ldc_w 259, 3) := by decide +kernel
theorem dX5_step_74 : decode cX5_step 74 = .ok (.fdiv, 1) := by decide +kernel
theorem dX5_step_75 : decode cX5_step 75 = .ok (.fadd, 1) := by decide +kernel
theorem dX5_step_76 : decode cX5_step 76 = .ok (.fstore 13, 2) := by decide +kernel
theorem dX5_step_78 : decode cX5_step 78 = .ok (.iload 10, 2) := by decide +kernel
theorem dX5_step_80 : decode cX5_step 80 = .ok (.bipush 56, 2) := by decide +kernel
theorem dX5_step_82 : decode cX5_step 82 = .ok (.if_icmp .ge 25, 3) := by decide +kernel
theorem dX5_step_85 : decode cX5_step 85 = .ok (.fload 13, 2) := by decide +kernel
theorem dX5_step_87 : decode cX5_step 87 = .ok (.aload_n 0, 1) := by decide +kernel
theorem dX5_step_88 : decode cX5_step 88 = .ok (.iload 11, 2) := by decide +kernel
theorem dX5_step_90 : decode cX5_step 90 = .ok (.bipush 8, 2) := by decide +kernel
theorem dX5_step_92 : decode cX5_step 92 = .ok (.iadd, 1) := by decide +kernel
theorem dX5_step_93 : decode cX5_step 93 = .ok (.faload, 1) := by decide +kernel
theorem dX5_step_94 : decode cX5_step 94 = .ok (.fload 12, 2) := by decide +kernel
theorem dX5_step_96 : decode cX5_step 96 = .ok (.fsub, 1) := by decide +kernel
theorem dX5_step_97 : decode cX5_step 97 = .ok (.fload 7, 2) := by decide +kernel
theorem dX5_step_99 : decode cX5_step 99 = .ok (.fmul, 1) := by decide +kernel
theorem dX5_step_100 : decode cX5_step 100 = .ok (.ldc_w 259, 3) := by decide +kernel
theorem dX5_step_103 : decode cX5_step 103 = .ok (.fdiv, 1) := by decide +kernel
theorem dX5_step_104 : decode cX5_step 104 = .ok (.fadd, 1) := by decide +kernel
theorem dX5_step_105 : decode cX5_step 105 = .ok (.fstore 13, 2) := by decide +kernel
theorem dX5_step_107 : decode cX5_step 107 = .ok (.iload 10, 2) := by decide +kernel
theorem dX5_step_109 : decode cX5_step 109 = .ok (.bipush 8, 2) := by decide +kernel
theorem dX5_step_111 : decode cX5_step 111 = .ok (.irem, 1) := by decide +kernel
theorem dX5_step_112 : decode cX5_step 112 = .ok (.ifCond .le 24, 3) := by decide +kernel
theorem dX5_step_115 : decode cX5_step 115 = .ok (.fload 13, 2) := by decide +kernel
theorem dX5_step_117 : decode cX5_step 117 = .ok (.aload_n 0, 1) := by decide +kernel
theorem dX5_step_118 : decode cX5_step 118 = .ok (.iload 11, 2) := by decide +kernel
theorem dX5_step_120 : decode cX5_step 120 = .ok (.iconst 1, 1) := by decide +kernel
theorem dX5_step_121 : decode cX5_step 121 = .ok (.isub, 1) := by decide +kernel
theorem dX5_step_122 : decode cX5_step 122 = .ok (.faload, 1) := by decide +kernel
theorem dX5_step_123 : decode cX5_step 123 = .ok (.fload 12, 2) := by decide +kernel
theorem dX5_step_125 : decode cX5_step 125 = .ok (.fsub, 1) := by decide +kernel
theorem dX5_step_126 : decode cX5_step 126 = .ok (.fload 7, 2) := by decide +kernel
theorem dX5_step_128 : decode cX5_step 128 = .ok (.fmul, 1) := by decide +kernel
theorem dX5_step_129 : decode cX5_step 129 = .ok (.ldc_w 259, 3) := by decide +kernel
theorem dX5_step_132 : decode cX5_step 132 = .ok (.fdiv, 1) := by decide +kernel
theorem dX5_step_133 : decode cX5_step 133 = .ok (.fadd, 1) := by decide +kernel
theorem dX5_step_134 : decode cX5_step 134 = .ok (.fstore 13, 2) := by decide +kernel
theorem dX5_step_136 : decode cX5_step 136 = .ok (.iload 10, 2) := by decide +kernel
theorem dX5_step_138 : decode cX5_step 138 = .ok (.bipush 8, 2) := by decide +kernel
theorem dX5_step_140 : decode cX5_step 140 = .ok (.irem, 1) := by decide +kernel
theorem dX5_step_141 : decode cX5_step 141 = .ok (.bipush 7, 2) := by decide +kernel
theorem dX5_step_143 : decode cX5_step 143 = .ok (.if_icmp .ge 24, 3) := by decide +kernel
theorem dX5_step_146 : decode cX5_step 146 = .ok (.fload 13, 2) := by decide +kernel
theorem dX5_step_148 : decode cX5_step 148 = .ok (.aload_n 0, 1) := by decide +kernel
theorem dX5_step_149 : decode cX5_step 149 = .ok (.iload 11, 2) := by decide +kernel
theorem dX5_step_151 : decode cX5_step 151 = .ok (.iconst 1, 1) := by decide +kernel
theorem dX5_step_152 : decode cX5_step 152 = .ok (.iadd, 1) := by decide +kernel
theorem dX5_step_153 : decode cX5_step 153 = .ok (.faload, 1) := by decide +kernel
theorem dX5_step_154 : decode cX5_step 154 = .ok (.fload 12, 2) := by decide +kernel
theorem dX5_step_156 : decode cX5_step 156 = .ok (.fsub, 1) := by decide +kernel
theorem dX5_step_157 : decode cX5_step 157 = .ok (.fload 7, 2) := by decide +kernel
theorem dX5_step_159 : decode cX5_step 159 = .ok (.fmul, 1) := by decide +kernel
theorem dX5_step_160 : decode cX5_step 160 = .ok (.ldc_w 259, 3) := by decide +kernel
theorem dX5_step_163 : decode cX5_step 163 = .ok (.fdiv, 1) := by decide +kernel
theorem dX5_step_164 : decode cX5_step 164 = .ok (.fadd, 1) := by decide +kernel
theorem dX5_step_165 : decode cX5_step 165 = .ok (.fstore 13, 2) := by decide +kernel
theorem dX5_step_167 : decode cX5_step 167 = .ok (.fload 12, 2) := by decide +kernel
theorem dX5_step_169 : decode cX5_step 169 = .ok (.fload 13, 2) := by decide +kernel
theorem dX5_step_171 : decode cX5_step 171 = .ok (.fadd, 1) := by decide +kernel
theorem dX5_step_172 : decode cX5_step 172 = .ok (.fload 8, 2) := by decide +kernel
theorem dX5_step_174 : decode cX5_step 174 = .ok (.fmul, 1) := by decide +kernel
theorem dX5_step_175 : decode cX5_step 175 = .ok (.ldc_w 259, 3) := by decide +kernel
theorem dX5_step_178 : decode cX5_step 178 = .ok (.fdiv, 1) := by decide +kernel
theorem dX5_step_179 : decode cX5_step 179 = .ok (.fstore 14, 2) := by decide +kernel
theorem dX5_step_181 : decode cX5_step 181 = .ok (.aload_n 2, 1) := by decide +kernel
theorem dX5_step_182 : decode cX5_step 182 = .ok (.iload_n 3, 1) := by decide +kernel
theorem dX5_step_183 : decode cX5_step 183 = .ok (.iload 10, 2) := by decide +kernel
theorem dX5_step_185 : decode cX5_step 185 = .ok (.iadd, 1) := by decide +kernel
theorem dX5_step_186 : decode cX5_step 186 = .ok (.lload 4, 2) := by decide +kernel
theorem dX5_step_188 : decode cX5_step 188 = .ok (.iload 10, 2) := by decide +kernel
theorem dX5_step_190 : decode cX5_step 190 = .ok (.invokestatic 260, 3) := by decide +kernel
theorem dX5_step_193 : decode cX5_step 193 = .ok (.ifCond .eq 11, 3) := by decide +kernel
theorem dX5_step_196 : decode cX5_step 196 = .ok (.fload 14, 2) := by decide +kernel
theorem dX5_step_198 : decode cX5_step 198 = .ok (.fload 9, 2) := by decide +kernel
theorem dX5_step_200 : decode cX5_step 200 = .ok (.fadd, 1) := by decide +kernel
theorem dX5_step_201 : decode cX5_step 201 = .ok (.goto 5, 3) := by decide +kernel
theorem dX5_step_204 : decode cX5_step 204 = .ok (.fload 14, 2) := by decide +kernel
theorem dX5_step_206 : decode cX5_step 206 = .ok (.fastore, 1) := by decide +kernel
theorem dX5_step_207 : decode cX5_step 207 = .ok (.iinc 10 1, 3) := by decide +kernel
theorem dX5_step_210 : decode cX5_step 210 = .ok (.goto (-183), 3) := by decide +kernel
theorem dX5_step_213 : decode cX5_step 213 = .ok (.return_, 1) := by decide +kernel
theorem dX5_bitsOfFloat_0 : decode cX5_bitsOfFloat 0 = .ok (.fload_n 0, 1) := by decide +kernel
theorem dX5_bitsOfFloat_1 : decode cX5_bitsOfFloat 1 = .ok (.fstore_n 1, 1) := by decide +kernel
theorem dX5_bitsOfFloat_2 : decode cX5_bitsOfFloat 2 = .ok (.sipush 150, 3) := by decide +kernel
theorem dX5_bitsOfFloat_5 : decode cX5_bitsOfFloat 5 = .ok (.istore_n 2, 1) := by decide +kernel
theorem dX5_bitsOfFloat_6 : decode cX5_bitsOfFloat 6 = .ok (.iload_n 2, 1) := by decide +kernel
theorem dX5_bitsOfFloat_7 : decode cX5_bitsOfFloat 7 = .ok (.iconst 1, 1) := by decide +kernel
theorem dX5_bitsOfFloat_8 : decode cX5_bitsOfFloat 8 = .ok (.if_icmp .le 21, 3) := by decide +kernel
theorem dX5_bitsOfFloat_11 : decode cX5_bitsOfFloat 11 = .ok (.fload_n 1, 1) := by decide +kernel
theorem dX5_bitsOfFloat_12 : decode cX5_bitsOfFloat 12 = .ok (.ldc_w 264, 3) := by decide +kernel
theorem dX5_bitsOfFloat_15 : decode cX5_bitsOfFloat 15 = .ok (.fcmp .g, 1) := by decide +kernel
theorem dX5_bitsOfFloat_16 : decode cX5_bitsOfFloat 16 = .ok (.ifCond .ge 13, 3) := by decide +kernel
theorem dX5_bitsOfFloat_19 : decode cX5_bitsOfFloat 19 = .ok (.fload_n 1, 1) := by decide +kernel
theorem dX5_bitsOfFloat_20 : decode cX5_bitsOfFloat 20 = .ok (.fconst 2, 1) := by decide +kernel
theorem dX5_bitsOfFloat_21 : decode cX5_bitsOfFloat 21 = .ok (.fmul, 1) := by decide +kernel
theorem dX5_bitsOfFloat_22 : decode cX5_bitsOfFloat 22 = .ok (.fstore_n 1, 1) := by decide +kernel
theorem dX5_bitsOfFloat_23 : decode cX5_bitsOfFloat 23 = .ok (.iinc 2 (-1), 3) := by decide +kernel
theorem dX5_bitsOfFloat_26 : decode cX5_bitsOfFloat 26 = .ok (.goto (-20), 3) := by decide +kernel
theorem dX5_bitsOfFloat_29 : decode cX5_bitsOfFloat 29 = .ok (.fload_n 1, 1) := by decide +kernel
theorem dX5_bitsOfFloat_30 : decode cX5_bitsOfFloat 30 = .ok (.f2i, 1) := by decide +kernel
theorem dX5_bitsOfFloat_31 : decode cX5_bitsOfFloat 31 = .ok (.istore_n 3, 1) := by decide +kernel
theorem dX5_bitsOfFloat_32 : decode cX5_bitsOfFloat 32 = .ok (.iload_n 3, 1) := by decide +kernel
theorem dX5_bitsOfFloat_33 : decode cX5_bitsOfFloat 33 = .ok (.ldc_w 265, 3) := by decide +kernel
theorem dX5_bitsOfFloat_36 : decode cX5_bitsOfFloat 36 = .ok (.if_icmp .ge 7, 3) := by decide +kernel
theorem dX5_bitsOfFloat_39 : decode cX5_bitsOfFloat 39 = .ok (.iload_n 3, 1) := by decide +kernel
theorem dX5_bitsOfFloat_40 : decode cX5_bitsOfFloat 40 = .ok (.goto 13, 3) := by decide +kernel
theorem dX5_bitsOfFloat_43 : decode cX5_bitsOfFloat 43 = .ok (.iload_n 2, 1) := by decide +kernel
theorem dX5_bitsOfFloat_44 : decode cX5_bitsOfFloat 44 = .ok (.bipush 23, 2) := by decide +kernel
theorem dX5_bitsOfFloat_46 : decode cX5_bitsOfFloat 46 = .ok (.ishl, 1) := by decide +kernel
theorem dX5_bitsOfFloat_47 : decode cX5_bitsOfFloat 47 = .ok (.iload_n 3, 1) := by decide +kernel
theorem dX5_bitsOfFloat_48 : decode cX5_bitsOfFloat 48 = .ok (.ldc_w 265, 3) := by decide +kernel
theorem dX5_bitsOfFloat_51 : decode cX5_bitsOfFloat 51 = .ok (.isub, 1) := by decide +kernel
theorem dX5_bitsOfFloat_52 : decode cX5_bitsOfFloat 52 = .ok (.iadd, 1) := by decide +kernel
theorem dX5_bitsOfFloat_53 : decode cX5_bitsOfFloat 53 = .ok (.ireturn, 1) := by decide +kernel
theorem dJ13_bitCount_95d88_0 : decode cJ13_bitCount_95d88 0 = .ok (.lload_n 0, 1) := by decide +kernel
theorem dJ13_bitCount_95d88_1 : decode cJ13_bitCount_95d88 1 = .ok (.lload_n 0, 1) := by decide +kernel
theorem dJ13_bitCount_95d88_2 : decode cJ13_bitCount_95d88 2 = .ok (.iconst 1, 1) := by decide +kernel
theorem dJ13_bitCount_95d88_3 : decode cJ13_bitCount_95d88 3 = .ok (.lushr, 1) := by decide +kernel
theorem dJ13_bitCount_95d88_4 : decode cJ13_bitCount_95d88 4 = .ok (.ldc2_w 314, 3) := by decide +kernel
theorem dJ13_bitCount_95d88_7 : decode cJ13_bitCount_95d88 7 = .ok (.land, 1) := by decide +kernel
theorem dJ13_bitCount_95d88_8 : decode cJ13_bitCount_95d88 8 = .ok (.lsub, 1) := by decide +kernel
theorem dJ13_bitCount_95d88_9 : decode cJ13_bitCount_95d88 9 = .ok (.lstore_n 0, 1) := by decide +kernel
theorem dJ13_bitCount_95d88_10 : decode cJ13_bitCount_95d88 10 = .ok (.lload_n 0, 1) := by decide +kernel
theorem dJ13_bitCount_95d88_11 : decode cJ13_bitCount_95d88 11 = .ok (.ldc2_w 316, 3) := by decide +kernel
theorem dJ13_bitCount_95d88_14 : decode cJ13_bitCount_95d88 14 = .ok (.land, 1) := by decide +kernel
theorem dJ13_bitCount_95d88_15 : decode cJ13_bitCount_95d88 15 = .ok (.lload_n 0, 1) := by decide +kernel
theorem dJ13_bitCount_95d88_16 : decode cJ13_bitCount_95d88 16 = .ok (.iconst 2, 1) := by decide +kernel
theorem dJ13_bitCount_95d88_17 : decode cJ13_bitCount_95d88 17 = .ok (.lushr, 1) := by decide +kernel
theorem dJ13_bitCount_95d88_18 : decode cJ13_bitCount_95d88 18 = .ok (.ldc2_w 316, 3) := by decide +kernel
theorem dJ13_bitCount_95d88_21 : decode cJ13_bitCount_95d88 21 = .ok (.land, 1) := by decide +kernel
theorem dJ13_bitCount_95d88_22 : decode cJ13_bitCount_95d88 22 = .ok (.ladd, 1) := by decide +kernel
theorem dJ13_bitCount_95d88_23 : decode cJ13_bitCount_95d88 23 = .ok (.lstore_n 0, 1) := by decide +kernel
theorem dJ13_bitCount_95d88_24 : decode cJ13_bitCount_95d88 24 = .ok (.lload_n 0, 1) := by decide +kernel
theorem dJ13_bitCount_95d88_25 : decode cJ13_bitCount_95d88 25 = .ok (.lload_n 0, 1) := by decide +kernel
theorem dJ13_bitCount_95d88_26 : decode cJ13_bitCount_95d88 26 = .ok (.iconst 4, 1) := by decide +kernel
theorem dJ13_bitCount_95d88_27 : decode cJ13_bitCount_95d88 27 = .ok (.lushr, 1) := by decide +kernel
theorem dJ13_bitCount_95d88_28 : decode cJ13_bitCount_95d88 28 = .ok (.ladd, 1) := by decide +kernel
theorem dJ13_bitCount_95d88_29 : decode cJ13_bitCount_95d88 29 = .ok (.ldc2_w 318, 3) := by decide +kernel
theorem dJ13_bitCount_95d88_32 : decode cJ13_bitCount_95d88 32 = .ok (.land, 1) := by decide +kernel
theorem dJ13_bitCount_95d88_33 : decode cJ13_bitCount_95d88 33 = .ok (.lstore_n 0, 1) := by decide +kernel
theorem dJ13_bitCount_95d88_34 : decode cJ13_bitCount_95d88 34 = .ok (.lload_n 0, 1) := by decide +kernel
theorem dJ13_bitCount_95d88_35 : decode cJ13_bitCount_95d88 35 = .ok (.lload_n 0, 1) := by decide +kernel
theorem dJ13_bitCount_95d88_36 : decode cJ13_bitCount_95d88 36 = .ok (.bipush 8, 2) := by decide +kernel
theorem dJ13_bitCount_95d88_38 : decode cJ13_bitCount_95d88 38 = .ok (.lushr, 1) := by decide +kernel
theorem dJ13_bitCount_95d88_39 : decode cJ13_bitCount_95d88 39 = .ok (.ladd, 1) := by decide +kernel
theorem dJ13_bitCount_95d88_40 : decode cJ13_bitCount_95d88 40 = .ok (.lstore_n 0, 1) := by decide +kernel
theorem dJ13_bitCount_95d88_41 : decode cJ13_bitCount_95d88 41 = .ok (.lload_n 0, 1) := by decide +kernel
theorem dJ13_bitCount_95d88_42 : decode cJ13_bitCount_95d88 42 = .ok (.lload_n 0, 1) := by decide +kernel
theorem dJ13_bitCount_95d88_43 : decode cJ13_bitCount_95d88 43 = .ok (.bipush 16, 2) := by decide +kernel
theorem dJ13_bitCount_95d88_45 : decode cJ13_bitCount_95d88 45 = .ok (.lushr, 1) := by decide +kernel
theorem dJ13_bitCount_95d88_46 : decode cJ13_bitCount_95d88 46 = .ok (.ladd, 1) := by decide +kernel
theorem dJ13_bitCount_95d88_47 : decode cJ13_bitCount_95d88 47 = .ok (.lstore_n 0, 1) := by decide +kernel
theorem dJ13_bitCount_95d88_48 : decode cJ13_bitCount_95d88 48 = .ok (.lload_n 0, 1) := by decide +kernel
theorem dJ13_bitCount_95d88_49 : decode cJ13_bitCount_95d88 49 = .ok (.lload_n 0, 1) := by decide +kernel
theorem dJ13_bitCount_95d88_50 : decode cJ13_bitCount_95d88 50 = .ok (.bipush 32, 2) := by decide +kernel
theorem dJ13_bitCount_95d88_52 : decode cJ13_bitCount_95d88 52 = .ok (.lushr, 1) := by decide +kernel
theorem dJ13_bitCount_95d88_53 : decode cJ13_bitCount_95d88 53 = .ok (.ladd, 1) := by decide +kernel
theorem dJ13_bitCount_95d88_54 : decode cJ13_bitCount_95d88 54 = .ok (.lstore_n 0, 1) := by decide +kernel
theorem dJ13_bitCount_95d88_55 : decode cJ13_bitCount_95d88 55 = .ok (.lload_n 0, 1) := by decide +kernel
theorem dJ13_bitCount_95d88_56 : decode cJ13_bitCount_95d88 56 = .ok (.l2i, 1) := by decide +kernel
theorem dJ13_bitCount_95d88_57 : decode cJ13_bitCount_95d88 57 = .ok (.bipush 127, 2) := by decide +kernel
theorem dJ13_bitCount_95d88_59 : decode cJ13_bitCount_95d88 59 = .ok (.iand, 1) := by decide +kernel
theorem dJ13_bitCount_95d88_60 : decode cJ13_bitCount_95d88 60 = .ok (.ireturn, 1) := by decide +kernel
theorem dJ9_abs_0f7a4_0 : decode cJ9_abs_0f7a4 0 = .ok (.iload_n 0, 1) := by decide +kernel
theorem dJ9_abs_0f7a4_1 : decode cJ9_abs_0f7a4 1 = .ok (.ifCond .ge 8, 3) := by decide +kernel
theorem dJ9_abs_0f7a4_4 : decode cJ9_abs_0f7a4 4 = .ok (.iload_n 0, 1) := by decide +kernel
theorem dJ9_abs_0f7a4_5 : decode cJ9_abs_0f7a4 5 = .ok (.ineg, 1) := by decide +kernel
theorem dJ9_abs_0f7a4_6 : decode cJ9_abs_0f7a4 6 = .ok (.goto 4, 3) := by decide +kernel
theorem dJ9_abs_0f7a4_9 : decode cJ9_abs_0f7a4 9 = .ok (.iload_n 0, 1) := by decide +kernel
theorem dJ9_abs_0f7a4_10 : decode cJ9_abs_0f7a4 10 = .ok (.ireturn, 1) := by decide +kernel
theorem dJ9_max_7cf53_0 : decode cJ9_max_7cf53 0 = .ok (.iload_n 0, 1) := by decide +kernel
theorem dJ9_max_7cf53_1 : decode cJ9_max_7cf53 1 = .ok (.iload_n 1, 1) := by decide +kernel
theorem dJ9_max_7cf53_2 : decode cJ9_max_7cf53 2 = .ok (.if_icmp .lt 7, 3) := by decide +kernel
theorem dJ9_max_7cf53_5 : decode cJ9_max_7cf53 5 = .ok (.iload_n 0, 1) := by decide +kernel
theorem dJ9_max_7cf53_6 : decode cJ9_max_7cf53 6 = .ok (.goto 4, 3) := by decide +kernel
theorem dJ9_max_7cf53_9 : decode cJ9_max_7cf53 9 = .ok (.iload_n 1, 1) := by decide +kernel
theorem dJ9_max_7cf53_10 : decode cJ9_max_7cf53 10 = .ok (.ireturn, 1) := by decide +kernel
theorem dJ9_min_7cf53_0 : decode cJ9_min_7cf53 0 = .ok (.iload_n 0, 1) := by decide +kernel
theorem dJ9_min_7cf53_1 : decode cJ9_min_7cf53 1 = .ok (.iload_n 1, 1) := by decide +kernel
theorem dJ9_min_7cf53_2 : decode cJ9_min_7cf53 2 = .ok (.if_icmp .gt 7, 3) := by decide +kernel
theorem dJ9_min_7cf53_5 : decode cJ9_min_7cf53 5 = .ok (.iload_n 0, 1) := by decide +kernel
theorem dJ9_min_7cf53_6 : decode cJ9_min_7cf53 6 = .ok (.goto 4, 3) := by decide +kernel
theorem dJ9_min_7cf53_9 : decode cJ9_min_7cf53 9 = .ok (.iload_n 1, 1) := by decide +kernel
theorem dJ9_min_7cf53_10 : decode cJ9_min_7cf53 10 = .ok (.ireturn, 1) := by decide +kernel
theorem dL_cell_0 : decode cL_cell 0 = .ok (.iload_n 1, 1) := by decide +kernel
theorem dL_cell_1 : decode cL_cell 1 = .ok (.aload_n 0, 1) := by decide +kernel
theorem dL_cell_2 : decode cL_cell 2 = .ok (.arraylength, 1) := by decide +kernel
theorem dL_cell_3 : decode cL_cell 3 = .ok (.if_icmp .ge 9, 3) := by decide +kernel
theorem dL_cell_6 : decode cL_cell 6 = .ok (.aload_n 0, 1) := by decide +kernel
theorem dL_cell_7 : decode cL_cell 7 = .ok (.iload_n 1, 1) := by decide +kernel
theorem dL_cell_8 : decode cL_cell 8 = .ok (.iaload, 1) := by decide +kernel
theorem dL_cell_9 : decode cL_cell 9 = .ok (.goto 12, 3) := by decide +kernel
theorem dL_cell_12 : decode cL_cell 12 = .ok (.ldc 7, 2) := by decide +kernel
theorem dL_cell_14 : decode cL_cell 14 = .ok (.iload_n 1, 1) := by decide +kernel
theorem dL_cell_15 : decode cL_cell 15 = .ok (.iconst 1, 1) := by decide +kernel
theorem dL_cell_16 : decode cL_cell 16 = .ok (.iadd, 1) := by decide +kernel
theorem dL_cell_17 : decode cL_cell 17 = .ok (.imul, 1) := by decide +kernel
theorem dL_cell_18 : decode cL_cell 18 = .ok (.ldc 8, 2) := by decide +kernel
theorem dL_cell_20 : decode cL_cell 20 = .ok (.iadd, 1) := by decide +kernel
theorem dL_cell_21 : decode cL_cell 21 = .ok (.ireturn, 1) := by decide +kernel
theorem dL_low_0 : decode cL_low 0 = .ok (.iload_n 0, 1) := by decide +kernel
theorem dL_low_1 : decode cL_low 1 = .ok (.ldc 9, 2) := by decide +kernel
theorem dL_low_3 : decode cL_low 3 = .ok (.iand, 1) := by decide +kernel
theorem dL_low_4 : decode cL_low 4 = .ok (.iload_n 1, 1) := by decide +kernel
theorem dL_low_5 : decode cL_low 5 = .ok (.irem, 1) := by decide +kernel
theorem dL_low_6 : decode cL_low 6 = .ok (.ireturn, 1) := by decide +kernel
theorem dL_net_0 : decode cL_net 0 = .ok (.iload_n 0, 1) := by decide +kernel
theorem dL_net_1 : decode cL_net 1 = .ok (.ifCond .lt 19, 3) := by decide +kernel
theorem dL_net_4 : decode cL_net 4 = .ok (.iload_n 1, 1) := by decide +kernel
theorem dL_net_5 : decode cL_net 5 = .ok (.ifCond .lt 15, 3) := by decide +kernel
theorem dL_net_8 : decode cL_net 8 = .ok (.iload_n 0, 1) := by decide +kernel
theorem dL_net_9 : decode cL_net 9 = .ok (.bipush 7, 2) := by decide +kernel
theorem dL_net_11 : decode cL_net 11 = .ok (.if_icmp .gt 9, 3) := by decide +kernel
theorem dL_net_14 : decode cL_net 14 = .ok (.iload_n 1, 1) := by decide +kernel
theorem dL_net_15 : decode cL_net 15 = .ok (.bipush 7, 2) := by decide +kernel
theorem dL_net_17 : decode cL_net 17 = .ok (.if_icmp .le 7, 3) := by decide +kernel
theorem dL_net_20 : decode cL_net 20 = .ok (.iconst 0, 1) := by decide +kernel
theorem dL_net_21 : decode cL_net 21 = .ok (.goto 11, 3) := by decide +kernel
theorem dL_net_24 : decode cL_net 24 = .ok (.aload_n 2, 1) := by decide +kernel
theorem dL_net_25 : decode cL_net 25 = .ok (.bipush 8, 2) := by decide +kernel
theorem dL_net_27 : decode cL_net 27 = .ok (.iload_n 0, 1) := by decide +kernel
theorem dL_net_28 : decode cL_net 28 = .ok (.imul, 1) := by decide +kernel
theorem dL_net_29 : decode cL_net 29 = .ok (.iload_n 1, 1) := by decide +kernel
theorem dL_net_30 : decode cL_net 30 = .ok (.iadd, 1) := by decide +kernel
theorem dL_net_31 : decode cL_net 31 = .ok (.iaload, 1) := by decide +kernel
theorem dL_net_32 : decode cL_net 32 = .ok (.ireturn, 1) := by decide +kernel
set_option maxRecDepth 20000 in
theorem ggL_beside_L_net : GoodIn wsL_beside wsL_net := goodIn_r _ [4] (by decide +kernel) (by decide +kernel)
set_option maxRecDepth 20000 in
theorem gL_beside_L_net : GoodIn wsL_beside (va_wsS RL 10 yL_net wsL_net) := goodIn_app (goodIn_of _ (by decide +kernel)) ggL_beside_L_net
theorem dL_beside_0 : decode cL_beside 0 = .ok (.iload_n 1, 1) := by decide +kernel
theorem dL_beside_1 : decode cL_beside 1 = .ok (.ifCond .ne 20, 3) := by decide +kernel
theorem dL_beside_4 : decode cL_beside 4 = .ok (.iload_n 0, 1) := by decide +kernel
theorem dL_beside_5 : decode cL_beside 5 = .ok (.bipush 8, 2) := by decide +kernel
theorem dL_beside_7 : decode cL_beside 7 = .ok (.idiv, 1) := by decide +kernel
theorem dL_beside_8 : decode cL_beside 8 = .ok (.iconst 1, 1) := by decide +kernel
theorem dL_beside_9 : decode cL_beside 9 = .ok (.isub, 1) := by decide +kernel
theorem dL_beside_10 : decode cL_beside 10 = .ok (.iload_n 0, 1) := by decide +kernel
theorem dL_beside_11 : decode cL_beside 11 = .ok (.bipush 8, 2) := by decide +kernel
theorem dL_beside_13 : decode cL_beside 13 = .ok (.irem, 1) := by decide +kernel
theorem dL_beside_14 : decode cL_beside 14 = .ok (.aload_n 2, 1) := by decide +kernel
theorem dL_beside_15 : decode cL_beside 15 = .ok (.invokestatic 10, 3) := by decide +kernel
theorem dL_beside_18 : decode cL_beside 18 = .ok (.goto 61, 3) := by decide +kernel
theorem dL_beside_21 : decode cL_beside 21 = .ok (.iload_n 1, 1) := by decide +kernel
theorem dL_beside_22 : decode cL_beside 22 = .ok (.iconst 1, 1) := by decide +kernel
theorem dL_beside_23 : decode cL_beside 23 = .ok (.if_icmp .ne 20, 3) := by decide +kernel
theorem dL_beside_26 : decode cL_beside 26 = .ok (.iload_n 0, 1) := by decide +kernel
theorem dL_beside_27 : decode cL_beside 27 = .ok (.bipush 8, 2) := by decide +kernel
theorem dL_beside_29 : decode cL_beside 29 = .ok (.idiv, 1) := by decide +kernel
theorem dL_beside_30 : decode cL_beside 30 = .ok (.iconst 1, 1) := by decide +kernel
theorem dL_beside_31 : decode cL_beside 31 = .ok (.iadd, 1) := by decide +kernel
theorem dL_beside_32 : decode cL_beside 32 = .ok (.iload_n 0, 1) := by decide +kernel
theorem dL_beside_33 : decode cL_beside 33 = .ok (.bipush 8, 2) := by decide +kernel
theorem dL_beside_35 : decode cL_beside 35 = .ok (.irem, 1) := by decide +kernel
theorem dL_beside_36 : decode cL_beside 36 = .ok (.aload_n 2, 1) := by decide +kernel
theorem dL_beside_37 : decode cL_beside 37 = .ok (.invokestatic 10, 3) := by decide +kernel
theorem dL_beside_40 : decode cL_beside 40 = .ok (.goto 39, 3) := by decide +kernel
theorem dL_beside_43 : decode cL_beside 43 = .ok (.iload_n 1, 1) := by decide +kernel
theorem dL_beside_44 : decode cL_beside 44 = .ok (.iconst 2, 1) := by decide +kernel
theorem dL_beside_45 : decode cL_beside 45 = .ok (.if_icmp .ne 20, 3) := by decide +kernel
theorem dL_beside_48 : decode cL_beside 48 = .ok (.iload_n 0, 1) := by decide +kernel
theorem dL_beside_49 : decode cL_beside 49 = .ok (.bipush 8, 2) := by decide +kernel
theorem dL_beside_51 : decode cL_beside 51 = .ok (.idiv, 1) := by decide +kernel
theorem dL_beside_52 : decode cL_beside 52 = .ok (.iload_n 0, 1) := by decide +kernel
theorem dL_beside_53 : decode cL_beside 53 = .ok (.bipush 8, 2) := by decide +kernel
theorem dL_beside_55 : decode cL_beside 55 = .ok (.irem, 1) := by decide +kernel
theorem dL_beside_56 : decode cL_beside 56 = .ok (.iconst 1, 1) := by decide +kernel
theorem dL_beside_57 : decode cL_beside 57 = .ok (.isub, 1) := by decide +kernel
theorem dL_beside_58 : decode cL_beside 58 = .ok (.aload_n 2, 1) := by decide +kernel
theorem dL_beside_59 : decode cL_beside 59 = .ok (.invokestatic 10, 3) := by decide +kernel
theorem dL_beside_62 : decode cL_beside 62 = .ok (.goto 17, 3) := by decide +kernel
theorem dL_beside_65 : decode cL_beside 65 = .ok (.iload_n 0, 1) := by decide +kernel
theorem dL_beside_66 : decode cL_beside 66 = .ok (.bipush 8, 2) := by decide +kernel
theorem dL_beside_68 : decode cL_beside 68 = .ok (.idiv, 1) := by decide +kernel
theorem dL_beside_69 : decode cL_beside 69 = .ok (.iload_n 0, 1) := by decide +kernel
theorem dL_beside_70 : decode cL_beside 70 = .ok (.bipush 8, 2) := by decide +kernel
theorem dL_beside_72 : decode cL_beside 72 = .ok (.irem, 1) := by decide +kernel
theorem dL_beside_73 : decode cL_beside 73 = .ok (.iconst 1, 1) := by decide +kernel
theorem dL_beside_74 : decode cL_beside 74 = .ok (.iadd, 1) := by decide +kernel
theorem dL_beside_75 : decode cL_beside 75 = .ok (.aload_n 2, 1) := by decide +kernel
theorem dL_beside_76 : decode cL_beside 76 = .ok (.invokestatic 10, 3) := by decide +kernel
theorem dL_beside_79 : decode cL_beside 79 = .ok (.ireturn, 1) := by decide +kernel
theorem dL_near_0 : decode cL_near 0 = .ok (.iload_n 0, 1) := by decide +kernel
theorem dL_near_1 : decode cL_near 1 = .ok (.bipush 8, 2) := by decide +kernel
theorem dL_near_3 : decode cL_near 3 = .ok (.idiv, 1) := by decide +kernel
theorem dL_near_4 : decode cL_near 4 = .ok (.iload_n 1, 1) := by decide +kernel
theorem dL_near_5 : decode cL_near 5 = .ok (.bipush 8, 2) := by decide +kernel
theorem dL_near_7 : decode cL_near 7 = .ok (.idiv, 1) := by decide +kernel
theorem dL_near_8 : decode cL_near 8 = .ok (.isub, 1) := by decide +kernel
theorem dL_near_9 : decode cL_near 9 = .ok (.istore_n 2, 1) := by decide +kernel
theorem dL_near_10 : decode cL_near 10 = .ok (.iload_n 0, 1) := by decide +kernel
theorem dL_near_11 : decode cL_near 11 = .ok (.bipush 8, 2) := by decide +kernel
theorem dL_near_13 : decode cL_near 13 = .ok (.irem, 1) := by decide +kernel
theorem dL_near_14 : decode cL_near 14 = .ok (.iload_n 1, 1) := by decide +kernel
theorem dL_near_15 : decode cL_near 15 = .ok (.bipush 8, 2) := by decide +kernel
theorem dL_near_17 : decode cL_near 17 = .ok (.irem, 1) := by decide +kernel
