theorem dL_near_18 : decode cL_near 18 = .ok (.isub, 1) := by decide +kernel
theorem dL_near_19 : decode cL_near 19 = .ok (.istore_n 3, 1) := by decide +kernel
theorem dL_near_20 : decode cL_near 20 = .ok (.iload_n 2, 1) := by decide +kernel
theorem dL_near_21 : decode cL_near 21 = .ok (.iload_n 2, 1) := by decide +kernel
theorem dL_near_22 : decode cL_near 22 = .ok (.imul, 1) := by decide +kernel
theorem dL_near_23 : decode cL_near 23 = .ok (.iload_n 3, 1) := by decide +kernel
theorem dL_near_24 : decode cL_near 24 = .ok (.iload_n 3, 1) := by decide +kernel
theorem dL_near_25 : decode cL_near 25 = .ok (.imul, 1) := by decide +kernel
theorem dL_near_26 : decode cL_near 26 = .ok (.iadd, 1) := by decide +kernel
theorem dL_near_27 : decode cL_near 27 = .ok (.iconst 1, 1) := by decide +kernel
theorem dL_near_28 : decode cL_near 28 = .ok (.if_icmp .ne 7, 3) := by decide +kernel
theorem dL_near_31 : decode cL_near 31 = .ok (.iconst 1, 1) := by decide +kernel
theorem dL_near_32 : decode cL_near 32 = .ok (.goto 4, 3) := by decide +kernel
theorem dL_near_35 : decode cL_near 35 = .ok (.iconst 0, 1) := by decide +kernel
theorem dL_near_36 : decode cL_near 36 = .ok (.ireturn, 1) := by decide +kernel
theorem dL_fed_0 : decode cL_fed 0 = .ok (.aload_n 2, 1) := by decide +kernel
theorem dL_fed_1 : decode cL_fed 1 = .ok (.iload_n 0, 1) := by decide +kernel
theorem dL_fed_2 : decode cL_fed 2 = .ok (.iaload, 1) := by decide +kernel
theorem dL_fed_3 : decode cL_fed 3 = .ok (.iload_n 1, 1) := by decide +kernel
theorem dL_fed_4 : decode cL_fed 4 = .ok (.ishr, 1) := by decide +kernel
theorem dL_fed_5 : decode cL_fed 5 = .ok (.iconst 1, 1) := by decide +kernel
theorem dL_fed_6 : decode cL_fed 6 = .ok (.iand, 1) := by decide +kernel
theorem dL_fed_7 : decode cL_fed 7 = .ok (.iconst 1, 1) := by decide +kernel
theorem dL_fed_8 : decode cL_fed 8 = .ok (.if_icmp .ne 7, 3) := by decide +kernel
theorem dL_fed_11 : decode cL_fed 11 = .ok (.iconst 1, 1) := by decide +kernel
theorem dL_fed_12 : decode cL_fed 12 = .ok (.goto 4, 3) := by decide +kernel
theorem dL_fed_15 : decode cL_fed 15 = .ok (.iconst 0, 1) := by decide +kernel
theorem dL_fed_16 : decode cL_fed 16 = .ok (.ireturn, 1) := by decide +kernel
set_option maxRecDepth 20000 in
theorem ggL_suspect_L_beside : GoodIn wsL_suspect wsL_beside := goodIn_r _ [4, 5, 6, 3, 7] (by decide +kernel) (by decide +kernel)
set_option maxRecDepth 20000 in
theorem gL_suspect_L_beside : GoodIn wsL_suspect (va_wsS RL 16 yL_beside wsL_beside) := goodIn_app (goodIn_of _ (by decide +kernel)) ggL_suspect_L_beside
set_option maxRecDepth 20000 in
theorem ggL_suspect_L_fed : GoodIn wsL_suspect wsL_fed := goodIn_r _ [10] (by decide +kernel) (by decide +kernel)
set_option maxRecDepth 20000 in
theorem gL_suspect_L_fed : GoodIn wsL_suspect (va_wsS RL 19 yL_fed wsL_fed) := goodIn_app (goodIn_of _ (by decide +kernel)) ggL_suspect_L_fed
theorem dL_suspect_0 : decode cL_suspect 0 = .ok (.iconst 0, 1) := by decide +kernel
theorem dL_suspect_1 : decode cL_suspect 1 = .ok (.istore_n 3, 1) := by decide +kernel
theorem dL_suspect_2 : decode cL_suspect 2 = .ok (.iload_n 3, 1) := by decide +kernel
theorem dL_suspect_3 : decode cL_suspect 3 = .ok (.iconst 4, 1) := by decide +kernel
theorem dL_suspect_4 : decode cL_suspect 4 = .ok (.if_icmp .ge 50, 3) := by decide +kernel
theorem dL_suspect_7 : decode cL_suspect 7 = .ok (.iload_n 0, 1) := by decide +kernel
theorem dL_suspect_8 : decode cL_suspect 8 = .ok (.iload_n 3, 1) := by decide +kernel
theorem dL_suspect_9 : decode cL_suspect 9 = .ok (.aload_n 1, 1) := by decide +kernel
theorem dL_suspect_10 : decode cL_suspect 10 = .ok (.invokestatic 16, 3) := by decide +kernel
theorem dL_suspect_13 : decode cL_suspect 13 = .ok (.istore 4, 2) := by decide +kernel
theorem dL_suspect_15 : decode cL_suspect 15 = .ok (.aload_n 1, 1) := by decide +kernel
theorem dL_suspect_16 : decode cL_suspect 16 = .ok (.iload_n 0, 1) := by decide +kernel
theorem dL_suspect_17 : decode cL_suspect 17 = .ok (.iaload, 1) := by decide +kernel
theorem dL_suspect_18 : decode cL_suspect 18 = .ok (.ifCond .le 30, 3) := by decide +kernel
theorem dL_suspect_21 : decode cL_suspect 21 = .ok (.iload 4, 2) := by decide +kernel
theorem dL_suspect_23 : decode cL_suspect 23 = .ok (.ifCond .le 25, 3) := by decide +kernel
theorem dL_suspect_26 : decode cL_suspect 26 = .ok (.iload 4, 2) := by decide +kernel
theorem dL_suspect_28 : decode cL_suspect 28 = .ok (.aload_n 1, 1) := by decide +kernel
theorem dL_suspect_29 : decode cL_suspect 29 = .ok (.iload_n 0, 1) := by decide +kernel
theorem dL_suspect_30 : decode cL_suspect 30 = .ok (.iaload, 1) := by decide +kernel
theorem dL_suspect_31 : decode cL_suspect 31 = .ok (.if_icmp .eq 17, 3) := by decide +kernel
theorem dL_suspect_34 : decode cL_suspect 34 = .ok (.aload_n 1, 1) := by decide +kernel
theorem dL_suspect_35 : decode cL_suspect 35 = .ok (.iload_n 0, 1) := by decide +kernel
theorem dL_suspect_36 : decode cL_suspect 36 = .ok (.iaload, 1) := by decide +kernel
theorem dL_suspect_37 : decode cL_suspect 37 = .ok (.iload 4, 2) := by decide +kernel
theorem dL_suspect_39 : decode cL_suspect 39 = .ok (.aload_n 2, 1) := by decide +kernel
theorem dL_suspect_40 : decode cL_suspect 40 = .ok (.invokestatic 19, 3) := by decide +kernel
theorem dL_suspect_43 : decode cL_suspect 43 = .ok (.ifCond .eq 5, 3) := by decide +kernel
theorem dL_suspect_46 : decode cL_suspect 46 = .ok (.iconst 1, 1) := by decide +kernel
theorem dL_suspect_47 : decode cL_suspect 47 = .ok (.ireturn, 1) := by decide +kernel
theorem dL_suspect_48 : decode cL_suspect 48 = .ok (.iinc 3 1, 3) := by decide +kernel
theorem dL_suspect_51 : decode cL_suspect 51 = .ok (.goto (-49), 3) := by decide +kernel
theorem dL_suspect_54 : decode cL_suspect 54 = .ok (.iconst 0, 1) := by decide +kernel
theorem dL_suspect_55 : decode cL_suspect 55 = .ok (.ireturn, 1) := by decide +kernel
theorem dL_touch_0 : decode cL_touch 0 = .ok (.iconst 0, 1) := by decide +kernel
theorem dL_touch_1 : decode cL_touch 1 = .ok (.istore_n 3, 1) := by decide +kernel
theorem dL_touch_2 : decode cL_touch 2 = .ok (.iload_n 3, 1) := by decide +kernel
theorem dL_touch_3 : decode cL_touch 3 = .ok (.aload_n 1, 1) := by decide +kernel
theorem dL_touch_4 : decode cL_touch 4 = .ok (.iconst 5, 1) := by decide +kernel
theorem dL_touch_5 : decode cL_touch 5 = .ok (.iaload, 1) := by decide +kernel
theorem dL_touch_6 : decode cL_touch 6 = .ok (.if_icmp .ge 20, 3) := by decide +kernel
theorem dL_touch_9 : decode cL_touch 9 = .ok (.aload_n 2, 1) := by decide +kernel
theorem dL_touch_10 : decode cL_touch 10 = .ok (.iconst 2, 1) := by decide +kernel
theorem dL_touch_11 : decode cL_touch 11 = .ok (.iload_n 3, 1) := by decide +kernel
theorem dL_touch_12 : decode cL_touch 12 = .ok (.imul, 1) := by decide +kernel
theorem dL_touch_13 : decode cL_touch 13 = .ok (.iaload, 1) := by decide +kernel
theorem dL_touch_14 : decode cL_touch 14 = .ok (.iload_n 0, 1) := by decide +kernel
theorem dL_touch_15 : decode cL_touch 15 = .ok (.if_icmp .ne 5, 3) := by decide +kernel
theorem dL_touch_18 : decode cL_touch 18 = .ok (.iload_n 3, 1) := by decide +kernel
theorem dL_touch_19 : decode cL_touch 19 = .ok (.ireturn, 1) := by decide +kernel
theorem dL_touch_20 : decode cL_touch 20 = .ok (.iinc 3 1, 3) := by decide +kernel
theorem dL_touch_23 : decode cL_touch 23 = .ok (.goto (-21), 3) := by decide +kernel
theorem dL_touch_26 : decode cL_touch 26 = .ok (.bipush (-6), 2) := by decide +kernel
theorem dL_touch_28 : decode cL_touch 28 = .ok (.ireturn, 1) := by decide +kernel
set_option maxRecDepth 20000 in
theorem ggL_live_L_fed : GoodIn wsL_live wsL_fed := goodIn_r _ [4] (by decide +kernel) (by decide +kernel)
set_option maxRecDepth 20000 in
theorem gL_live_L_fed : GoodIn wsL_live (va_wsS RL 19 yL_fed wsL_fed) := goodIn_app (goodIn_of _ (by decide +kernel)) ggL_live_L_fed
theorem dL_live_0 : decode cL_live 0 = .ok (.iconst 0, 1) := by decide +kernel
theorem dL_live_1 : decode cL_live 1 = .ok (.istore 4, 2) := by decide +kernel
theorem dL_live_3 : decode cL_live 3 = .ok (.iconst 0, 1) := by decide +kernel
theorem dL_live_4 : decode cL_live 4 = .ok (.istore 5, 2) := by decide +kernel
theorem dL_live_6 : decode cL_live 6 = .ok (.iload 5, 2) := by decide +kernel
theorem dL_live_8 : decode cL_live 8 = .ok (.aload_n 0, 1) := by decide +kernel
theorem dL_live_9 : decode cL_live 9 = .ok (.iconst 5, 1) := by decide +kernel
theorem dL_live_10 : decode cL_live 10 = .ok (.iaload, 1) := by decide +kernel
theorem dL_live_11 : decode cL_live 11 = .ok (.if_icmp .ge 42, 3) := by decide +kernel
theorem dL_live_14 : decode cL_live 14 = .ok (.iload 4, 2) := by decide +kernel
theorem dL_live_16 : decode cL_live 16 = .ok (.aload_n 2, 1) := by decide +kernel
theorem dL_live_17 : decode cL_live 17 = .ok (.aload_n 1, 1) := by decide +kernel
theorem dL_live_18 : decode cL_live 18 = .ok (.iconst 2, 1) := by decide +kernel
theorem dL_live_19 : decode cL_live 19 = .ok (.iload 5, 2) := by decide +kernel
theorem dL_live_21 : decode cL_live 21 = .ok (.imul, 1) := by decide +kernel
theorem dL_live_22 : decode cL_live 22 = .ok (.iaload, 1) := by decide +kernel
theorem dL_live_23 : decode cL_live 23 = .ok (.iaload, 1) := by decide +kernel
theorem dL_live_24 : decode cL_live 24 = .ok (.aload_n 1, 1) := by decide +kernel
theorem dL_live_25 : decode cL_live 25 = .ok (.iconst 2, 1) := by decide +kernel
theorem dL_live_26 : decode cL_live 26 = .ok (.iload 5, 2) := by decide +kernel
theorem dL_live_28 : decode cL_live 28 = .ok (.imul, 1) := by decide +kernel
theorem dL_live_29 : decode cL_live 29 = .ok (.iconst 1, 1) := by decide +kernel
theorem dL_live_30 : decode cL_live 30 = .ok (.iadd, 1) := by decide +kernel
theorem dL_live_31 : decode cL_live 31 = .ok (.iaload, 1) := by decide +kernel
theorem dL_live_32 : decode cL_live 32 = .ok (.aload_n 3, 1) := by decide +kernel
theorem dL_live_33 : decode cL_live 33 = .ok (.invokestatic 19, 3) := by decide +kernel
theorem dL_live_36 : decode cL_live 36 = .ok (.ifCond .eq 7, 3) := by decide +kernel
theorem dL_live_39 : decode cL_live 39 = .ok (.iconst 1, 1) := by decide +kernel
theorem dL_live_40 : decode cL_live 40 = .ok (.goto 4, 3) := by decide +kernel
theorem dL_live_43 : decode cL_live 43 = .ok (.iconst 0, 1) := by decide +kernel
theorem dL_live_44 : decode cL_live 44 = .ok (.iadd, 1) := by decide +kernel
theorem dL_live_45 : decode cL_live 45 = .ok (.istore 4, 2) := by decide +kernel
theorem dL_live_47 : decode cL_live 47 = .ok (.iinc 5 1, 3) := by decide +kernel
theorem dL_live_50 : decode cL_live 50 = .ok (.goto (-44), 3) := by decide +kernel
theorem dL_live_53 : decode cL_live 53 = .ok (.iload 4, 2) := by decide +kernel
theorem dL_live_55 : decode cL_live 55 = .ok (.ireturn, 1) := by decide +kernel
set_option maxRecDepth 20000 in
theorem ggL_same_L_live : GoodIn wsL_same wsL_live := goodIn_r _ [5, 6, 7, 4, 8] (by decide +kernel) (by decide +kernel)
set_option maxRecDepth 20000 in
theorem gL_same_L_live : GoodIn wsL_same (va_wsS RL 25 yL_live wsL_live) := goodIn_app (goodIn_of _ (by decide +kernel)) ggL_same_L_live
set_option maxRecDepth 20000 in
theorem ggL_same_L_suspect : GoodIn wsL_same wsL_suspect := goodIn_r _ [11, 12, 13, 4, 14, 15, 16, 17, 6, 7, 8] (by decide +kernel) (by decide +kernel)
set_option maxRecDepth 20000 in
theorem gL_same_L_suspect : GoodIn wsL_same (va_wsS RL 29 yL_suspect wsL_suspect) := goodIn_app (goodIn_of _ (by decide +kernel)) ggL_same_L_suspect
set_option maxRecDepth 20000 in
theorem ggL_same_X5_at : GoodIn wsL_same wsX5_at := goodIn_r _ [22, 23, 24, 25, 26, 21, 27, 28, 29, 30, 31, 32, 33, 34, 35, 36, 37, 38, 39, 40, 41, 42, 43, 44, 45, 46, 47, 48, 49, 50, 51, 52, 53, 54, 55, 56, 57, 58, 59, 60, 61, 62, 63, 64, 65, 66, 67, 68, 69, 70, 71, 72, 73, 74, 75, 76, 77, 78, 79, 80, 81, 82, 83, 84, 85, 86, 87, 88, 89, 90, 91, 92, 93, 94, 95, 96, 168, 169, 170, 171, 172, 173, 174, 175, 176, 177, 178, 179, 180, 181, 182, 183, 184, 185, 186, 187, 188, 189, 190, 191, 192] (by decide +kernel) (by decide +kernel)
set_option maxRecDepth 20000 in
theorem gL_same_X5_at : GoodIn wsL_same (wsV RL 33 RX5 yX5_at wsX5_at) := goodIn_app (goodIn_of _ (by decide +kernel)) ggL_same_X5_at
set_option maxRecDepth 20000 in
theorem ggL_same_L_touch : GoodIn wsL_same wsL_touch := goodIn_r _ [99] (by decide +kernel) (by decide +kernel)
set_option maxRecDepth 20000 in
theorem gL_same_L_touch : GoodIn wsL_same (va_wsS RL 37 yL_touch wsL_touch) := goodIn_app (goodIn_of _ (by decide +kernel)) ggL_same_L_touch
set_option maxRecDepth 20000 in
theorem ggL_same_L_fed : GoodIn wsL_same wsL_fed := goodIn_r _ [8] (by decide +kernel) (by decide +kernel)
set_option maxRecDepth 20000 in
theorem gL_same_L_fed : GoodIn wsL_same (va_wsS RL 19 yL_fed wsL_fed) := goodIn_app (goodIn_of _ (by decide +kernel)) ggL_same_L_fed
set_option maxRecDepth 20000 in
theorem ggL_same_X5_row : GoodIn wsL_same wsX5_row := goodIn_r _ [103, 23, 24, 104, 38, 105, 106, 41, 107, 108, 21, 109, 110, 111, 112, 113, 114, 37, 39, 40, 42, 43, 44, 45, 46, 47, 48, 115, 50, 116, 117, 118, 49, 51, 52, 53, 54, 55, 56, 57, 58, 59, 60, 61, 62, 63, 64, 65, 66, 67, 68, 69, 70, 71, 72, 73, 74, 75, 76, 77, 78, 79, 80, 81, 82, 34, 35, 36, 168, 169, 170, 171, 172, 173, 174, 175, 176, 177, 178, 179, 180, 181, 182, 183, 184, 185, 186, 187, 188, 189, 190, 191, 192] (by decide +kernel) (by decide +kernel)
set_option maxRecDepth 20000 in
theorem gL_same_X5_row : GoodIn wsL_same (wsV RL 41 RX5 yX5_row wsX5_row) := goodIn_app (goodIn_of _ (by decide +kernel)) ggL_same_X5_row
set_option maxRecDepth 20000 in
theorem ggL_same_X5_ofTouch : GoodIn wsL_same wsX5_ofTouch := goodIn_r _ [122, 23, 123, 38, 124, 125, 41, 96, 126, 44, 45, 46, 47, 48, 168, 169, 170, 171, 172, 173, 174, 175, 176, 177, 178, 179, 180, 181, 182, 183, 184, 185, 186, 187] (by decide +kernel) (by decide +kernel)
set_option maxRecDepth 20000 in
theorem gL_same_X5_ofTouch : GoodIn wsL_same (wsV RL 45 RX5 yX5_ofTouch wsX5_ofTouch) := goodIn_app (goodIn_of _ (by decide +kernel)) ggL_same_X5_ofTouch
set_option maxRecDepth 20000 in
theorem ggL_same_X5_reading : GoodIn wsL_same wsX5_reading := goodIn_r _ [130, 23, 168, 169, 170, 171, 172, 173, 174, 175, 176, 177, 178, 179, 180, 181, 182, 183, 184, 185, 186, 187] (by decide +kernel) (by decide +kernel)
set_option maxRecDepth 20000 in
theorem gL_same_X5_reading : GoodIn wsL_same (wsV RL 48 RX5 yX5_reading wsX5_reading) := goodIn_app (goodIn_of _ (by decide +kernel)) ggL_same_X5_reading
set_option maxRecDepth 20000 in
theorem ggL_same_X5_ofNet : GoodIn wsL_same wsX5_ofNet := goodIn_r _ [134, 23, 135, 136, 21, 137, 138, 38, 139, 140, 41, 141, 142, 143, 144, 28, 29, 30, 31, 32, 168, 169, 170, 171, 172, 173, 174, 175, 176, 177, 178, 179, 180, 181, 182, 183, 184, 185, 186, 187] (by decide +kernel) (by decide +kernel)
set_option maxRecDepth 20000 in
theorem gL_same_X5_ofNet : GoodIn wsL_same (wsV RL 51 RX5 yX5_ofNet wsX5_ofNet) := goodIn_app (goodIn_of _ (by decide +kernel)) ggL_same_X5_ofNet
set_option maxRecDepth 20000 in
theorem ggL_same_X5_count : GoodIn wsL_same wsX5_count := goodIn_r _ [148, 23, 24, 149, 150, 151, 38, 152, 153, 95, 96, 154, 123, 124, 125, 41, 126, 44, 45, 46, 47, 48, 155, 156, 157, 158, 159, 160, 161, 104, 105, 106, 111, 112, 113, 114, 37, 39, 40, 42, 21, 43, 115, 50, 116, 117, 118, 49, 51, 52, 53, 54, 55, 56, 57, 58, 59, 60, 61, 62, 63, 64, 65, 66, 67, 68, 69, 70, 71, 72, 73, 74, 75, 76, 77, 78, 79, 80, 81, 82, 34, 35, 36, 162, 163, 164, 165, 166, 167, 144, 168, 169, 170, 171, 172, 173, 174, 175, 176, 177, 178, 179, 180, 181, 182, 183, 184, 185, 186, 187, 193, 194, 195, 196, 188, 189, 190, 191, 192] (by decide +kernel) (by decide +kernel)
set_option maxRecDepth 20000 in
theorem gL_same_X5_count : GoodIn wsL_same (wsV RL 54 RX5 yX5_count wsX5_count) := goodIn_app (goodIn_of _ (by decide +kernel)) ggL_same_X5_count
theorem dL_same_0 : decode cL_same 0 = .ok (.iconst 0, 1) := by decide +kernel
theorem dL_same_1 : decode cL_same 1 = .ok (.istore 8, 2) := by decide +kernel
theorem dL_same_3 : decode cL_same 3 = .ok (.iconst 0, 1) := by decide +kernel
theorem dL_same_4 : decode cL_same 4 = .ok (.istore 9, 2) := by decide +kernel
theorem dL_same_6 : decode cL_same 6 = .ok (.iconst 0, 1) := by decide +kernel
theorem dL_same_7 : decode cL_same 7 = .ok (.istore 10, 2) := by decide +kernel
theorem dL_same_9 : decode cL_same 9 = .ok (.aload_n 3, 1) := by decide +kernel
theorem dL_same_10 : decode cL_same 10 = .ok (.aload 4, 2) := by decide +kernel
theorem dL_same_12 : decode cL_same 12 = .ok (.aload 6, 2) := by decide +kernel
theorem dL_same_14 : decode cL_same 14 = .ok (.aload 7, 2) := by decide +kernel
theorem dL_same_16 : decode cL_same 16 = .ok (.invokestatic 25, 3) := by decide +kernel
theorem dL_same_19 : decode cL_same 19 = .ok (.istore 11, 2) := by decide +kernel
theorem dL_same_21 : decode cL_same 21 = .ok (.bipush 8, 2) := by decide +kernel
theorem dL_same_23 : decode cL_same 23 = .ok (.newarray .int, 2) := by decide +kernel
theorem dL_same_25 : decode cL_same 25 = .ok (.astore 12, 2) := by decide +kernel
theorem dL_same_27 : decode cL_same 27 = .ok (.iconst 0, 1) := by decide +kernel
theorem dL_same_28 : decode cL_same 28 = .ok (.istore 13, 2) := by decide +kernel
theorem dL_same_30 : decode cL_same 30 = .ok (.iload 13, 2) := by decide +kernel
theorem dL_same_32 : decode cL_same 32 = .ok (.bipush 8, 2) := by decide +kernel
theorem dL_same_34 : decode cL_same 34 = .ok (.if_icmp .ge 449, 3) := by decide +kernel
theorem dL_same_37 : decode cL_same 37 = .ok (.iconst 0, 1) := by decide +kernel
theorem dL_same_38 : decode cL_same 38 = .ok (.istore 14, 2) := by decide +kernel
theorem dL_same_40 : decode cL_same 40 = .ok (.iconst 0, 1) := by decide +kernel
theorem dL_same_41 : decode cL_same 41 = .ok (.istore 15, 2) := by decide +kernel
theorem dL_same_43 : decode cL_same 43 = .ok (.iconst 0, 1) := by decide +kernel
theorem dL_same_44 : decode cL_same 44 = .ok (.istore 16, 2) := by decide +kernel
theorem dL_same_46 : decode cL_same 46 = .ok (.iconst 0, 1) := by decide +kernel
theorem dL_same_47 : decode cL_same 47 = .ok (.istore 17, 2) := by decide +kernel
theorem dL_same_49 : decode cL_same 49 = .ok (.iload 17, 2) := by decide +kernel
theorem dL_same_51 : decode cL_same 51 = .ok (.bipush 8, 2) := by decide +kernel
theorem dL_same_53 : decode cL_same 53 = .ok (.if_icmp .ge 344, 3) := by decide +kernel
theorem dL_same_56 : decode cL_same 56 = .ok (.bipush 8, 2) := by decide +kernel
theorem dL_same_58 : decode cL_same 58 = .ok (.iload 13, 2) := by decide +kernel
theorem dL_same_60 : decode cL_same 60 = .ok (.imul, 1) := by decide +kernel
theorem dL_same_61 : decode cL_same 61 = .ok (.iload 17, 2) := by decide +kernel
theorem dL_same_63 : decode cL_same 63 = .ok (.iadd, 1) := by decide +kernel
theorem dL_same_64 : decode cL_same 64 = .ok (.istore 18, 2) := by decide +kernel
theorem dL_same_66 : decode cL_same 66 = .ok (.iload 18, 2) := by decide +kernel
theorem dL_same_68 : decode cL_same 68 = .ok (.aload 6, 2) := by decide +kernel
theorem dL_same_70 : decode cL_same 70 = .ok (.aload 7, 2) := by decide +kernel
theorem dL_same_72 : decode cL_same 72 = .ok (.invokestatic 29, 3) := by decide +kernel
theorem dL_same_75 : decode cL_same 75 = .ok (.istore 19, 2) := by decide +kernel
theorem dL_same_77 : decode cL_same 77 = .ok (.iload 19, 2) := by decide +kernel
theorem dL_same_79 : decode cL_same 79 = .ok (.ifCond .eq 18, 3) := by decide +kernel
theorem dL_same_82 : decode cL_same 82 = .ok (.lload_n 1, 1) := by decide +kernel
theorem dL_same_83 : decode cL_same 83 = .ok (.iload 18, 2) := by decide +kernel
theorem dL_same_85 : decode cL_same 85 = .ok (.lshr, 1) := by decide +kernel
theorem dL_same_86 : decode cL_same 86 = .ok (.lconst 1, 1) := by decide +kernel
theorem dL_same_87 : decode cL_same 87 = .ok (.land, 1) := by decide +kernel
theorem dL_same_88 : decode cL_same 88 = .ok (.lconst 1, 1) := by decide +kernel
theorem dL_same_89 : decode cL_same 89 = .ok (.lcmp, 1) := by decide +kernel
theorem dL_same_90 : decode cL_same 90 = .ok (.ifCond .ne 7, 3) := by decide +kernel
theorem dL_same_93 : decode cL_same 93 = .ok (.iconst 1, 1) := by decide +kernel
theorem dL_same_94 : decode cL_same 94 = .ok (.goto 4, 3) := by decide +kernel
theorem dL_same_97 : decode cL_same 97 = .ok (.iconst 0, 1) := by decide +kernel
theorem dL_same_98 : decode cL_same 98 = .ok (.istore 20, 2) := by decide +kernel
theorem dL_same_100 : decode cL_same 100 = .ok (.aload 12, 2) := by decide +kernel
theorem dL_same_102 : decode cL_same 102 = .ok (.aload 6, 2) := by decide +kernel
theorem dL_same_104 : decode cL_same 104 = .ok (.iload 18, 2) := by decide +kernel
theorem dL_same_106 : decode cL_same 106 = .ok (.iaload, 1) := by decide +kernel
theorem dL_same_107 : decode cL_same 107 = .ok (.dup2, 1) := by decide +kernel
theorem dL_same_108 : decode cL_same 108 = .ok (.iaload, 1) := by decide +kernel
theorem dL_same_109 : decode cL_same 109 = .ok (.iconst 1, 1) := by decide +kernel
theorem dL_same_110 : decode cL_same 110 = .ok (.iadd, 1) := by decide +kernel
theorem dL_same_111 : decode cL_same 111 = .ok (.iastore, 1) := by decide +kernel
theorem dL_same_112 : decode cL_same 112 = .ok (.iload 14, 2) := by decide +kernel
theorem dL_same_114 : decode cL_same 114 = .ok (.aload 6, 2) := by decide +kernel
theorem dL_same_116 : decode cL_same 116 = .ok (.iload 18, 2) := by decide +kernel
theorem dL_same_118 : decode cL_same 118 = .ok (.iaload, 1) := by decide +kernel
theorem dL_same_119 : decode cL_same 119 = .ok (.ifCond .le 10, 3) := by decide +kernel
theorem dL_same_122 : decode cL_same 122 = .ok (.iconst 1, 1) := by decide +kernel
theorem dL_same_123 : decode cL_same 123 = .ok (.iload 17, 2) := by decide +kernel
theorem dL_same_125 : decode cL_same 125 = .ok (.ishl, 1) := by decide +kernel
theorem dL_same_126 : decode cL_same 126 = .ok (.goto 4, 3) := by decide +kernel
theorem dL_same_129 : decode cL_same 129 = .ok (.iconst 0, 1) := by decide +kernel
theorem dL_same_130 : decode cL_same 130 = .ok (.ior, 1) := by decide +kernel
theorem dL_same_131 : decode cL_same 131 = .ok (.istore 14, 2) := by decide +kernel
theorem dL_same_133 : decode cL_same 133 = .ok (.iload 15, 2) := by decide +kernel
theorem dL_same_135 : decode cL_same 135 = .ok (.iload 19, 2) := by decide +kernel
theorem dL_same_137 : decode cL_same 137 = .ok (.ifCond .eq 10, 3) := by decide +kernel
theorem dL_same_140 : decode cL_same 140 = .ok (.iconst 1, 1) := by decide +kernel
theorem dL_same_141 : decode cL_same 141 = .ok (.iload 17, 2) := by decide +kernel
theorem dL_same_143 : decode cL_same 143 = .ok (.ishl, 1) := by decide +kernel
theorem dL_same_144 : decode cL_same 144 = .ok (.goto 4, 3) := by decide +kernel
theorem dL_same_147 : decode cL_same 147 = .ok (.iconst 0, 1) := by decide +kernel
theorem dL_same_148 : decode cL_same 148 = .ok (.ior, 1) := by decide +kernel
theorem dL_same_149 : decode cL_same 149 = .ok (.istore 15, 2) := by decide +kernel
theorem dL_same_151 : decode cL_same 151 = .ok (.iload 16, 2) := by decide +kernel
theorem dL_same_153 : decode cL_same 153 = .ok (.iload 20, 2) := by decide +kernel
theorem dL_same_155 : decode cL_same 155 = .ok (.iload 17, 2) := by decide +kernel
theorem dL_same_157 : decode cL_same 157 = .ok (.ishl, 1) := by decide +kernel
theorem dL_same_158 : decode cL_same 158 = .ok (.ior, 1) := by decide +kernel
theorem dL_same_159 : decode cL_same 159 = .ok (.istore 16, 2) := by decide +kernel
theorem dL_same_161 : decode cL_same 161 = .ok (.aload_n 0, 1) := by decide +kernel
theorem dL_same_162 : decode cL_same 162 = .ok (.iload 13, 2) := by decide +kernel
theorem dL_same_164 : decode cL_same 164 = .ok (.iload 17, 2) := by decide +kernel
theorem dL_same_166 : decode cL_same 166 = .ok (.iconst 0, 1) := by decide +kernel
theorem dL_same_167 : decode cL_same 167 = .ok (.invokevirtual 33, 3) := by decide +kernel
theorem dL_same_170 : decode cL_same 170 = .ok (.aload 6, 2) := by decide +kernel
theorem dL_same_172 : decode cL_same 172 = .ok (.iload 18, 2) := by decide +kernel
theorem dL_same_174 : decode cL_same 174 = .ok (.iaload, 1) := by decide +kernel
theorem dL_same_175 : decode cL_same 175 = .ok (.if_icmp .ne 46, 3) := by decide +kernel
theorem dL_same_178 : decode cL_same 178 = .ok (.aload_n 0, 1) := by decide +kernel
theorem dL_same_179 : decode cL_same 179 = .ok (.iload 13, 2) := by decide +kernel
theorem dL_same_181 : decode cL_same 181 = .ok (.iload 17, 2) := by decide +kernel
theorem dL_same_183 : decode cL_same 183 = .ok (.iconst 3, 1) := by decide +kernel
theorem dL_same_184 : decode cL_same 184 = .ok (.invokevirtual 33, 3) := by decide +kernel
theorem dL_same_187 : decode cL_same 187 = .ok (.iload 19, 2) := by decide +kernel
theorem dL_same_189 : decode cL_same 189 = .ok (.ifCond .eq 7, 3) := by decide +kernel
theorem dL_same_192 : decode cL_same 192 = .ok (.iconst 1, 1) := by decide +kernel
theorem dL_same_193 : decode cL_same 193 = .ok (.goto 4, 3) := by decide +kernel
theorem dL_same_196 : decode cL_same 196 = .ok (.iconst 0, 1) := by decide +kernel
theorem dL_same_197 : decode cL_same 197 = .ok (.if_icmp .ne 24, 3) := by decide +kernel
theorem dL_same_200 : decode cL_same 200 = .ok (.aload_n 0, 1) := by decide +kernel
theorem dL_same_201 : decode cL_same 201 = .ok (.iload 13, 2) := by decide +kernel
theorem dL_same_203 : decode cL_same 203 = .ok (.iload 17, 2) := by decide +kernel
theorem dL_same_205 : decode cL_same 205 = .ok (.bipush 6, 2) := by decide +kernel
theorem dL_same_207 : decode cL_same 207 = .ok (.invokevirtual 33, 3) := by decide +kernel
theorem dL_same_210 : decode cL_same 210 = .ok (.iload 18, 2) := by decide +kernel
theorem dL_same_212 : decode cL_same 212 = .ok (.aload_n 3, 1) := by decide +kernel
theorem dL_same_213 : decode cL_same 213 = .ok (.aload 4, 2) := by decide +kernel
theorem dL_same_215 : decode cL_same 215 = .ok (.invokestatic 37, 3) := by decide +kernel
theorem dL_same_218 : decode cL_same 218 = .ok (.if_icmp .eq 5, 3) := by decide +kernel
theorem dL_same_221 : decode cL_same 221 = .ok (.iconst 0, 1) := by decide +kernel
theorem dL_same_222 : decode cL_same 222 = .ok (.ireturn, 1) := by decide +kernel
theorem dL_same_223 : decode cL_same 223 = .ok (.aload_n 0, 1) := by decide +kernel
theorem dL_same_224 : decode cL_same 224 = .ok (.iload 13, 2) := by decide +kernel
theorem dL_same_226 : decode cL_same 226 = .ok (.iload 17, 2) := by decide +kernel
theorem dL_same_228 : decode cL_same 228 = .ok (.iconst 2, 1) := by decide +kernel
theorem dL_same_229 : decode cL_same 229 = .ok (.invokevirtual 33, 3) := by decide +kernel
theorem dL_same_232 : decode cL_same 232 = .ok (.istore 21, 2) := by decide +kernel
theorem dL_same_234 : decode cL_same 234 = .ok (.iload 21, 2) := by decide +kernel
theorem dL_same_236 : decode cL_same 236 = .ok (.ifCond .lt 31, 3) := by decide +kernel
theorem dL_same_239 : decode cL_same 239 = .ok (.aload_n 3, 1) := by decide +kernel
theorem dL_same_240 : decode cL_same 240 = .ok (.iconst 4, 1) := by decide +kernel
theorem dL_same_241 : decode cL_same 241 = .ok (.iaload, 1) := by decide +kernel
theorem dL_same_242 : decode cL_same 242 = .ok (.ifCond .eq 8, 3) := by decide +kernel
theorem dL_same_245 : decode cL_same 245 = .ok (.iload 11, 2) := by decide +kernel
theorem dL_same_247 : decode cL_same 247 = .ok (.ifCond .ne 22, 3) := by decide +kernel
theorem dL_same_250 : decode cL_same 250 = .ok (.iload 21, 2) := by decide +kernel
theorem dL_same_252 : decode cL_same 252 = .ok (.ifCond .ne 15, 3) := by decide +kernel
theorem dL_same_255 : decode cL_same 255 = .ok (.aload_n 0, 1) := by decide +kernel
theorem dL_same_256 : decode cL_same 256 = .ok (.iload 13, 2) := by decide +kernel
theorem dL_same_258 : decode cL_same 258 = .ok (.iload 17, 2) := by decide +kernel
theorem dL_same_260 : decode cL_same 260 = .ok (.iconst 1, 1) := by decide +kernel
theorem dL_same_261 : decode cL_same 261 = .ok (.invokevirtual 33, 3) := by decide +kernel
theorem dL_same_264 : decode cL_same 264 = .ok (.ifCond .eq 5, 3) := by decide +kernel
theorem dL_same_267 : decode cL_same 267 = .ok (.iconst 0, 1) := by decide +kernel
theorem dL_same_268 : decode cL_same 268 = .ok (.ireturn, 1) := by decide +kernel
theorem dL_same_269 : decode cL_same 269 = .ok (.iload 18, 2) := by decide +kernel
theorem dL_same_271 : decode cL_same 271 = .ok (.aload_n 3, 1) := by decide +kernel
theorem dL_same_272 : decode cL_same 272 = .ok (.aload 4, 2) := by decide +kernel
theorem dL_same_274 : decode cL_same 274 = .ok (.invokestatic 37, 3) := by decide +kernel
theorem dL_same_277 : decode cL_same 277 = .ok (.istore 22, 2) := by decide +kernel
theorem dL_same_279 : decode cL_same 279 = .ok (.iload 22, 2) := by decide +kernel
theorem dL_same_281 : decode cL_same 281 = .ok (.ifCond .lt 29, 3) := by decide +kernel
theorem dL_same_284 : decode cL_same 284 = .ok (.aload 6, 2) := by decide +kernel
theorem dL_same_286 : decode cL_same 286 = .ok (.iload 18, 2) := by decide +kernel
theorem dL_same_288 : decode cL_same 288 = .ok (.iaload, 1) := by decide +kernel
theorem dL_same_289 : decode cL_same 289 = .ok (.aload 4, 2) := by decide +kernel
theorem dL_same_291 : decode cL_same 291 = .ok (.iconst 2, 1) := by decide +kernel
theorem dL_same_292 : decode cL_same 292 = .ok (.iload 22, 2) := by decide +kernel
theorem dL_same_294 : decode cL_same 294 = .ok (.imul, 1) := by decide +kernel
theorem dL_same_295 : decode cL_same 295 = .ok (.iconst 1, 1) := by decide +kernel
theorem dL_same_296 : decode cL_same 296 = .ok (.iadd, 1) := by decide +kernel
theorem dL_same_297 : decode cL_same 297 = .ok (.iaload, 1) := by decide +kernel
theorem dL_same_298 : decode cL_same 298 = .ok (.aload 7, 2) := by decide +kernel
theorem dL_same_300 : decode cL_same 300 = .ok (.invokestatic 19, 3) := by decide +kernel
theorem dL_same_303 : decode cL_same 303 = .ok (.ifCond .eq 7, 3) := by decide +kernel
theorem dL_same_306 : decode cL_same 306 = .ok (.iconst 1, 1) := by decide +kernel
theorem dL_same_307 : decode cL_same 307 = .ok (.goto 4, 3) := by decide +kernel
theorem dL_same_310 : decode cL_same 310 = .ok (.iconst 0, 1) := by decide +kernel
theorem dL_same_311 : decode cL_same 311 = .ok (.istore 23, 2) := by decide +kernel
theorem dL_same_313 : decode cL_same 313 = .ok (.aload_n 3, 1) := by decide +kernel
theorem dL_same_314 : decode cL_same 314 = .ok (.iconst 0, 1) := by decide +kernel
theorem dL_same_315 : decode cL_same 315 = .ok (.iaload, 1) := by decide +kernel
theorem dL_same_316 : decode cL_same 316 = .ok (.ifCond .ne 35, 3) := by decide +kernel
theorem dL_same_319 : decode cL_same 319 = .ok (.aload_n 3, 1) := by decide +kernel
theorem dL_same_320 : decode cL_same 320 = .ok (.iconst 1, 1) := by decide +kernel
theorem dL_same_321 : decode cL_same 321 = .ok (.iaload, 1) := by decide +kernel
theorem dL_same_322 : decode cL_same 322 = .ok (.ifCond .ne 29, 3) := by decide +kernel
theorem dL_same_325 : decode cL_same 325 = .ok (.iload 21, 2) := by decide +kernel
theorem dL_same_327 : decode cL_same 327 = .ok (.iload 23, 2) := by decide +kernel
theorem dL_same_329 : decode cL_same 329 = .ok (.ifCond .eq 16, 3) := by decide +kernel
theorem dL_same_332 : decode cL_same 332 = .ok (.bipush 10, 2) := by decide +kernel
theorem dL_same_334 : decode cL_same 334 = .ok (.aload_n 3, 1) := by decide +kernel
theorem dL_same_335 : decode cL_same 335 = .ok (.iconst 2, 1) := by decide +kernel
theorem dL_same_336 : decode cL_same 336 = .ok (.iaload, 1) := by decide +kernel
theorem dL_same_337 : decode cL_same 337 = .ok (.imul, 1) := by decide +kernel
theorem dL_same_338 : decode cL_same 338 = .ok (.aload_n 3, 1) := by decide +kernel
theorem dL_same_339 : decode cL_same 339 = .ok (.iconst 4, 1) := by decide +kernel
theorem dL_same_340 : decode cL_same 340 = .ok (.iaload, 1) := by decide +kernel
theorem dL_same_341 : decode cL_same 341 = .ok (.imul, 1) := by decide +kernel
theorem dL_same_342 : decode cL_same 342 = .ok (.goto 4, 3) := by decide +kernel
theorem dL_same_345 : decode cL_same 345 = .ok (.iconst 0, 1) := by decide +kernel
theorem dL_same_346 : decode cL_same 346 = .ok (.if_icmp .eq 5, 3) := by decide +kernel
theorem dL_same_349 : decode cL_same 349 = .ok (.iconst 0, 1) := by decide +kernel
theorem dL_same_350 : decode cL_same 350 = .ok (.ireturn, 1) := by decide +kernel
theorem dL_same_351 : decode cL_same 351 = .ok (.iload 9, 2) := by decide +kernel
theorem dL_same_353 : decode cL_same 353 = .ok (.iload 19, 2) := by decide +kernel
theorem dL_same_355 : decode cL_same 355 = .ok (.ifCond .eq 7, 3) := by decide +kernel
theorem dL_same_358 : decode cL_same 358 = .ok (.iconst 1, 1) := by decide +kernel
theorem dL_same_359 : decode cL_same 359 = .ok (.goto 4, 3) := by decide +kernel
theorem dL_same_362 : decode cL_same 362 = .ok (.iconst 0, 1) := by decide +kernel
theorem dL_same_363 : decode cL_same 363 = .ok (.iadd, 1) := by decide +kernel
theorem dL_same_364 : decode cL_same 364 = .ok (.istore 9, 2) := by decide +kernel
theorem dL_same_366 : decode cL_same 366 = .ok (.iload 10, 2) := by decide +kernel
theorem dL_same_368 : decode cL_same 368 = .ok (.iload 20, 2) := by decide +kernel
theorem dL_same_370 : decode cL_same 370 = .ok (.iadd, 1) := by decide +kernel
theorem dL_same_371 : decode cL_same 371 = .ok (.istore 10, 2) := by decide +kernel
theorem dL_same_373 : decode cL_same 373 = .ok (.iload 8, 2) := by decide +kernel
theorem dL_same_375 : decode cL_same 375 = .ok (.aload 6, 2) := by decide +kernel
theorem dL_same_377 : decode cL_same 377 = .ok (.iload 18, 2) := by decide +kernel
theorem dL_same_379 : decode cL_same 379 = .ok (.iaload, 1) := by decide +kernel
theorem dL_same_380 : decode cL_same 380 = .ok (.ifCond .le 7, 3) := by decide +kernel
theorem dL_same_383 : decode cL_same 383 = .ok (.iconst 1, 1) := by decide +kernel
theorem dL_same_384 : decode cL_same 384 = .ok (.goto 4, 3) := by decide +kernel
theorem dL_same_387 : decode cL_same 387 = .ok (.iconst 0, 1) := by decide +kernel
theorem dL_same_388 : decode cL_same 388 = .ok (.iadd, 1) := by decide +kernel
theorem dL_same_389 : decode cL_same 389 = .ok (.istore 8, 2) := by decide +kernel
theorem dL_same_391 : decode cL_same 391 = .ok (.iinc 17 1, 3) := by decide +kernel
theorem dL_same_394 : decode cL_same 394 = .ok (.goto (-345), 3) := by decide +kernel
theorem dL_same_397 : decode cL_same 397 = .ok (.aload_n 0, 1) := by decide +kernel
theorem dL_same_398 : decode cL_same 398 = .ok (.iload 13, 2) := by decide +kernel
theorem dL_same_400 : decode cL_same 400 = .ok (.iconst 0, 1) := by decide +kernel
theorem dL_same_401 : decode cL_same 401 = .ok (.invokevirtual 41, 3) := by decide +kernel
theorem dL_same_404 : decode cL_same 404 = .ok (.iload 14, 2) := by decide +kernel
theorem dL_same_406 : decode cL_same 406 = .ok (.if_icmp .ne 27, 3) := by decide +kernel
theorem dL_same_409 : decode cL_same 409 = .ok (.aload_n 0, 1) := by decide +kernel
theorem dL_same_410 : decode cL_same 410 = .ok (.iload 13, 2) := by decide +kernel
theorem dL_same_412 : decode cL_same 412 = .ok (.iconst 1, 1) := by decide +kernel
theorem dL_same_413 : decode cL_same 413 = .ok (.invokevirtual 41, 3) := by decide +kernel
theorem dL_same_416 : decode cL_same 416 = .ok (.iload 15, 2) := by decide +kernel
theorem dL_same_418 : decode cL_same 418 = .ok (.if_icmp .ne 15, 3) := by decide +kernel
theorem dL_same_421 : decode cL_same 421 = .ok (.aload_n 0, 1) := by decide +kernel
theorem dL_same_422 : decode cL_same 422 = .ok (.iload 13, 2) := by decide +kernel
theorem dL_same_424 : decode cL_same 424 = .ok (.iconst 2, 1) := by decide +kernel
theorem dL_same_425 : decode cL_same 425 = .ok (.invokevirtual 41, 3) := by decide +kernel
theorem dL_same_428 : decode cL_same 428 = .ok (.iload 16, 2) := by decide +kernel
theorem dL_same_430 : decode cL_same 430 = .ok (.if_icmp .eq 5, 3) := by decide +kernel
theorem dL_same_433 : decode cL_same 433 = .ok (.iconst 0, 1) := by decide +kernel
theorem dL_same_434 : decode cL_same 434 = .ok (.ireturn, 1) := by decide +kernel
theorem dL_same_435 : decode cL_same 435 = .ok (.iconst 0, 1) := by decide +kernel
theorem dL_same_436 : decode cL_same 436 = .ok (.istore 17, 2) := by decide +kernel
theorem dL_same_438 : decode cL_same 438 = .ok (.iload 17, 2) := by decide +kernel
theorem dL_same_440 : decode cL_same 440 = .ok (.iconst 5, 1) := by decide +kernel
theorem dL_same_441 : decode cL_same 441 = .ok (.if_icmp .ge 36, 3) := by decide +kernel
theorem dL_same_444 : decode cL_same 444 = .ok (.iload 13, 2) := by decide +kernel
theorem dL_same_446 : decode cL_same 446 = .ok (.iconst 1, 1) := by decide +kernel
theorem dL_same_447 : decode cL_same 447 = .ok (.if_icmp .ne 30, 3) := by decide +kernel
theorem dL_same_450 : decode cL_same 450 = .ok (.aload_n 0, 1) := by decide +kernel
theorem dL_same_451 : decode cL_same 451 = .ok (.iload 13, 2) := by decide +kernel
theorem dL_same_453 : decode cL_same 453 = .ok (.iload 17, 2) := by decide +kernel
theorem dL_same_455 : decode cL_same 455 = .ok (.iconst 4, 1) := by decide +kernel
theorem dL_same_456 : decode cL_same 456 = .ok (.invokevirtual 33, 3) := by decide +kernel
theorem dL_same_459 : decode cL_same 459 = .ok (.iload 16, 2) := by decide +kernel
theorem dL_same_461 : decode cL_same 461 = .ok (.iload 17, 2) := by decide +kernel
theorem dL_same_463 : decode cL_same 463 = .ok (.ishr, 1) := by decide +kernel
theorem dL_same_464 : decode cL_same 464 = .ok (.iconst 1, 1) := by decide +kernel
theorem dL_same_465 : decode cL_same 465 = .ok (.iand, 1) := by decide +kernel
theorem dL_same_466 : decode cL_same 466 = .ok (.if_icmp .eq 5, 3) := by decide +kernel
theorem dL_same_469 : decode cL_same 469 = .ok (.iconst 0, 1) := by decide +kernel
theorem dL_same_470 : decode cL_same 470 = .ok (.ireturn, 1) := by decide +kernel
theorem dL_same_471 : decode cL_same 471 = .ok (.iinc 17 1, 3) := by decide +kernel
theorem dL_same_474 : decode cL_same 474 = .ok (.goto (-36), 3) := by decide +kernel
theorem dL_same_477 : decode cL_same 477 = .ok (.iinc 13 1, 3) := by decide +kernel
theorem dL_same_480 : decode cL_same 480 = .ok (.goto (-450), 3) := by decide +kernel
theorem dL_same_483 : decode cL_same 483 = .ok (.iconst 0, 1) := by decide +kernel
theorem dL_same_484 : decode cL_same 484 = .ok (.istore 13, 2) := by decide +kernel
theorem dL_same_486 : decode cL_same 486 = .ok (.iload 13, 2) := by decide +kernel
theorem dL_same_488 : decode cL_same 488 = .ok (.aload_n 3, 1) := by decide +kernel
theorem dL_same_489 : decode cL_same 489 = .ok (.iconst 5, 1) := by decide +kernel
theorem dL_same_490 : decode cL_same 490 = .ok (.iaload, 1) := by decide +kernel
theorem dL_same_491 : decode cL_same 491 = .ok (.if_icmp .ge 109, 3) := by decide +kernel
theorem dL_same_494 : decode cL_same 494 = .ok (.aload_n 0, 1) := by decide +kernel
theorem dL_same_495 : decode cL_same 495 = .ok (.iload 13, 2) := by decide +kernel
theorem dL_same_497 : decode cL_same 497 = .ok (.iconst 0, 1) := by decide +kernel
theorem dL_same_498 : decode cL_same 498 = .ok (.invokevirtual 45, 3) := by decide +kernel
theorem dL_same_501 : decode cL_same 501 = .ok (.aload 4, 2) := by decide +kernel
theorem dL_same_503 : decode cL_same 503 = .ok (.iconst 2, 1) := by decide +kernel
theorem dL_same_504 : decode cL_same 504 = .ok (.iload 13, 2) := by decide +kernel
theorem dL_same_506 : decode cL_same 506 = .ok (.imul, 1) := by decide +kernel
theorem dL_same_507 : decode cL_same 507 = .ok (.iaload, 1) := by decide +kernel
theorem dL_same_508 : decode cL_same 508 = .ok (.if_icmp .ne 84, 3) := by decide +kernel
theorem dL_same_511 : decode cL_same 511 = .ok (.aload_n 0, 1) := by decide +kernel
theorem dL_same_512 : decode cL_same 512 = .ok (.iload 13, 2) := by decide +kernel
theorem dL_same_514 : decode cL_same 514 = .ok (.iconst 1, 1) := by decide +kernel
theorem dL_same_515 : decode cL_same 515 = .ok (.invokevirtual 45, 3) := by decide +kernel
theorem dL_same_518 : decode cL_same 518 = .ok (.aload 6, 2) := by decide +kernel
theorem dL_same_520 : decode cL_same 520 = .ok (.aload 4, 2) := by decide +kernel
theorem dL_same_522 : decode cL_same 522 = .ok (.iconst 2, 1) := by decide +kernel
theorem dL_same_523 : decode cL_same 523 = .ok (.iload 13, 2) := by decide +kernel
theorem dL_same_525 : decode cL_same 525 = .ok (.imul, 1) := by decide +kernel
theorem dL_same_526 : decode cL_same 526 = .ok (.iaload, 1) := by decide +kernel
theorem dL_same_527 : decode cL_same 527 = .ok (.iaload, 1) := by decide +kernel
theorem dL_same_528 : decode cL_same 528 = .ok (.if_icmp .ne 64, 3) := by decide +kernel
theorem dL_same_531 : decode cL_same 531 = .ok (.aload_n 0, 1) := by decide +kernel
theorem dL_same_532 : decode cL_same 532 = .ok (.iload 13, 2) := by decide +kernel
theorem dL_same_534 : decode cL_same 534 = .ok (.iconst 2, 1) := by decide +kernel
theorem dL_same_535 : decode cL_same 535 = .ok (.invokevirtual 45, 3) := by decide +kernel
theorem dL_same_538 : decode cL_same 538 = .ok (.aload 4, 2) := by decide +kernel
theorem dL_same_540 : decode cL_same 540 = .ok (.iconst 2, 1) := by decide +kernel
theorem dL_same_541 : decode cL_same 541 = .ok (.iload 13, 2) := by decide +kernel
theorem dL_same_543 : decode cL_same 543 = .ok (.imul, 1) := by decide +kernel
theorem dL_same_544 : decode cL_same 544 = .ok (.iconst 1, 1) := by decide +kernel
theorem dL_same_545 : decode cL_same 545 = .ok (.iadd, 1) := by decide +kernel
theorem dL_same_546 : decode cL_same 546 = .ok (.iaload, 1) := by decide +kernel
theorem dL_same_547 : decode cL_same 547 = .ok (.if_icmp .ne 45, 3) := by decide +kernel
theorem dL_same_550 : decode cL_same 550 = .ok (.aload_n 0, 1) := by decide +kernel
theorem dL_same_551 : decode cL_same 551 = .ok (.iload 13, 2) := by decide +kernel
theorem dL_same_553 : decode cL_same 553 = .ok (.iconst 3, 1) := by decide +kernel
theorem dL_same_554 : decode cL_same 554 = .ok (.invokevirtual 45, 3) := by decide +kernel
theorem dL_same_557 : decode cL_same 557 = .ok (.aload 6, 2) := by decide +kernel
theorem dL_same_559 : decode cL_same 559 = .ok (.aload 4, 2) := by decide +kernel
theorem dL_same_561 : decode cL_same 561 = .ok (.iconst 2, 1) := by decide +kernel
theorem dL_same_562 : decode cL_same 562 = .ok (.iload 13, 2) := by decide +kernel
theorem dL_same_564 : decode cL_same 564 = .ok (.imul, 1) := by decide +kernel
theorem dL_same_565 : decode cL_same 565 = .ok (.iaload, 1) := by decide +kernel
theorem dL_same_566 : decode cL_same 566 = .ok (.iaload, 1) := by decide +kernel
theorem dL_same_567 : decode cL_same 567 = .ok (.aload 4, 2) := by decide +kernel
theorem dL_same_569 : decode cL_same 569 = .ok (.iconst 2, 1) := by decide +kernel
theorem dL_same_570 : decode cL_same 570 = .ok (.iload 13, 2) := by decide +kernel
theorem dL_same_572 : decode cL_same 572 = .ok (.imul, 1) := by decide +kernel
theorem dL_same_573 : decode cL_same 573 = .ok (.iconst 1, 1) := by decide +kernel
theorem dL_same_574 : decode cL_same 574 = .ok (.iadd, 1) := by decide +kernel
theorem dL_same_575 : decode cL_same 575 = .ok (.iaload, 1) := by decide +kernel
theorem dL_same_576 : decode cL_same 576 = .ok (.aload 7, 2) := by decide +kernel
theorem dL_same_578 : decode cL_same 578 = .ok (.invokestatic 19, 3) := by decide +kernel
theorem dL_same_581 : decode cL_same 581 = .ok (.ifCond .eq 7, 3) := by decide +kernel
theorem dL_same_584 : decode cL_same 584 = .ok (.iconst 1, 1) := by decide +kernel
theorem dL_same_585 : decode cL_same 585 = .ok (.goto 4, 3) := by decide +kernel
theorem dL_same_588 : decode cL_same 588 = .ok (.iconst 0, 1) := by decide +kernel
theorem dL_same_589 : decode cL_same 589 = .ok (.if_icmp .eq 5, 3) := by decide +kernel
theorem dL_same_592 : decode cL_same 592 = .ok (.iconst 0, 1) := by decide +kernel
theorem dL_same_593 : decode cL_same 593 = .ok (.ireturn, 1) := by decide +kernel
theorem dL_same_594 : decode cL_same 594 = .ok (.iinc 13 1, 3) := by decide +kernel
theorem dL_same_597 : decode cL_same 597 = .ok (.goto (-111), 3) := by decide +kernel
theorem dL_same_600 : decode cL_same 600 = .ok (.iconst 0, 1) := by decide +kernel
theorem dL_same_601 : decode cL_same 601 = .ok (.istore 13, 2) := by decide +kernel
theorem dL_same_603 : decode cL_same 603 = .ok (.iload 13, 2) := by decide +kernel
theorem dL_same_605 : decode cL_same 605 = .ok (.aload_n 3, 1) := by decide +kernel
theorem dL_same_606 : decode cL_same 606 = .ok (.bipush 6, 2) := by decide +kernel
theorem dL_same_608 : decode cL_same 608 = .ok (.iaload, 1) := by decide +kernel
theorem dL_same_609 : decode cL_same 609 = .ok (.if_icmp .ge 66, 3) := by decide +kernel
theorem dL_same_612 : decode cL_same 612 = .ok (.aload_n 0, 1) := by decide +kernel
theorem dL_same_613 : decode cL_same 613 = .ok (.iload 13, 2) := by decide +kernel
theorem dL_same_615 : decode cL_same 615 = .ok (.iconst 0, 1) := by decide +kernel
theorem dL_same_616 : decode cL_same 616 = .ok (.invokevirtual 48, 3) := by decide +kernel
theorem dL_same_619 : decode cL_same 619 = .ok (.aload 5, 2) := by decide +kernel
theorem dL_same_621 : decode cL_same 621 = .ok (.iconst 3, 1) := by decide +kernel
theorem dL_same_622 : decode cL_same 622 = .ok (.iload 13, 2) := by decide +kernel
theorem dL_same_624 : decode cL_same 624 = .ok (.imul, 1) := by decide +kernel
theorem dL_same_625 : decode cL_same 625 = .ok (.iaload, 1) := by decide +kernel
theorem dL_same_626 : decode cL_same 626 = .ok (.if_icmp .ne 41, 3) := by decide +kernel
theorem dL_same_629 : decode cL_same 629 = .ok (.aload_n 0, 1) := by decide +kernel
theorem dL_same_630 : decode cL_same 630 = .ok (.iload 13, 2) := by decide +kernel
theorem dL_same_632 : decode cL_same 632 = .ok (.iconst 1, 1) := by decide +kernel
theorem dL_same_633 : decode cL_same 633 = .ok (.invokevirtual 48, 3) := by decide +kernel
theorem dL_same_636 : decode cL_same 636 = .ok (.aload 5, 2) := by decide +kernel
theorem dL_same_638 : decode cL_same 638 = .ok (.iconst 3, 1) := by decide +kernel
theorem dL_same_639 : decode cL_same 639 = .ok (.iload 13, 2) := by decide +kernel
theorem dL_same_641 : decode cL_same 641 = .ok (.imul, 1) := by decide +kernel
theorem dL_same_642 : decode cL_same 642 = .ok (.iconst 1, 1) := by decide +kernel
theorem dL_same_643 : decode cL_same 643 = .ok (.iadd, 1) := by decide +kernel
theorem dL_same_644 : decode cL_same 644 = .ok (.iaload, 1) := by decide +kernel
theorem dL_same_645 : decode cL_same 645 = .ok (.if_icmp .ne 22, 3) := by decide +kernel
theorem dL_same_648 : decode cL_same 648 = .ok (.aload_n 0, 1) := by decide +kernel
theorem dL_same_649 : decode cL_same 649 = .ok (.iload 13, 2) := by decide +kernel
theorem dL_same_651 : decode cL_same 651 = .ok (.iconst 2, 1) := by decide +kernel
theorem dL_same_652 : decode cL_same 652 = .ok (.invokevirtual 48, 3) := by decide +kernel
theorem dL_same_655 : decode cL_same 655 = .ok (.aload 5, 2) := by decide +kernel
theorem dL_same_657 : decode cL_same 657 = .ok (.iconst 3, 1) := by decide +kernel
theorem dL_same_658 : decode cL_same 658 = .ok (.iload 13, 2) := by decide +kernel
theorem dL_same_660 : decode cL_same 660 = .ok (.imul, 1) := by decide +kernel
theorem dL_same_661 : decode cL_same 661 = .ok (.iconst 2, 1) := by decide +kernel
theorem dL_same_662 : decode cL_same 662 = .ok (.iadd, 1) := by decide +kernel
theorem dL_same_663 : decode cL_same 663 = .ok (.iaload, 1) := by decide +kernel
theorem dL_same_664 : decode cL_same 664 = .ok (.if_icmp .eq 5, 3) := by decide +kernel
theorem dL_same_667 : decode cL_same 667 = .ok (.iconst 0, 1) := by decide +kernel
theorem dL_same_668 : decode cL_same 668 = .ok (.ireturn, 1) := by decide +kernel
theorem dL_same_669 : decode cL_same 669 = .ok (.iinc 13 1, 3) := by decide +kernel
theorem dL_same_672 : decode cL_same 672 = .ok (.goto (-69), 3) := by decide +kernel
theorem dL_same_675 : decode cL_same 675 = .ok (.iconst 1, 1) := by decide +kernel
theorem dL_same_676 : decode cL_same 676 = .ok (.istore 13, 2) := by decide +kernel
theorem dL_same_678 : decode cL_same 678 = .ok (.iload 13, 2) := by decide +kernel
theorem dL_same_680 : decode cL_same 680 = .ok (.bipush 8, 2) := by decide +kernel
theorem dL_same_682 : decode cL_same 682 = .ok (.if_icmp .ge 41, 3) := by decide +kernel
theorem dL_same_685 : decode cL_same 685 = .ok (.aload_n 0, 1) := by decide +kernel
theorem dL_same_686 : decode cL_same 686 = .ok (.iload 13, 2) := by decide +kernel
theorem dL_same_688 : decode cL_same 688 = .ok (.iconst 0, 1) := by decide +kernel
theorem dL_same_689 : decode cL_same 689 = .ok (.invokevirtual 51, 3) := by decide +kernel
theorem dL_same_692 : decode cL_same 692 = .ok (.aload 12, 2) := by decide +kernel
theorem dL_same_694 : decode cL_same 694 = .ok (.iload 13, 2) := by decide +kernel
theorem dL_same_696 : decode cL_same 696 = .ok (.iaload, 1) := by decide +kernel
theorem dL_same_697 : decode cL_same 697 = .ok (.if_icmp .ne 18, 3) := by decide +kernel
theorem dL_same_700 : decode cL_same 700 = .ok (.aload_n 0, 1) := by decide +kernel
theorem dL_same_701 : decode cL_same 701 = .ok (.iload 13, 2) := by decide +kernel
theorem dL_same_703 : decode cL_same 703 = .ok (.iconst 1, 1) := by decide +kernel
theorem dL_same_704 : decode cL_same 704 = .ok (.invokevirtual 51, 3) := by decide +kernel
theorem dL_same_707 : decode cL_same 707 = .ok (.aload 7, 2) := by decide +kernel
theorem dL_same_709 : decode cL_same 709 = .ok (.iload 13, 2) := by decide +kernel
theorem dL_same_711 : decode cL_same 711 = .ok (.iaload, 1) := by decide +kernel
theorem dL_same_712 : decode cL_same 712 = .ok (.if_icmp .eq 5, 3) := by decide +kernel
theorem dL_same_715 : decode cL_same 715 = .ok (.iconst 0, 1) := by decide +kernel
theorem dL_same_716 : decode cL_same 716 = .ok (.ireturn, 1) := by decide +kernel
theorem dL_same_717 : decode cL_same 717 = .ok (.iinc 13 1, 3) := by decide +kernel
theorem dL_same_720 : decode cL_same 720 = .ok (.goto (-42), 3) := by decide +kernel
theorem dL_same_723 : decode cL_same 723 = .ok (.iconst 0, 1) := by decide +kernel
theorem dL_same_724 : decode cL_same 724 = .ok (.istore 13, 2) := by decide +kernel
theorem dL_same_726 : decode cL_same 726 = .ok (.iload 13, 2) := by decide +kernel
theorem dL_same_728 : decode cL_same 728 = .ok (.iconst 4, 1) := by decide +kernel
theorem dL_same_729 : decode cL_same 729 = .ok (.if_icmp .ge 27, 3) := by decide +kernel
theorem dL_same_732 : decode cL_same 732 = .ok (.aload_n 0, 1) := by decide +kernel
theorem dL_same_733 : decode cL_same 733 = .ok (.bipush 9, 2) := by decide +kernel
theorem dL_same_735 : decode cL_same 735 = .ok (.iload 13, 2) := by decide +kernel
theorem dL_same_737 : decode cL_same 737 = .ok (.iadd, 1) := by decide +kernel
theorem dL_same_738 : decode cL_same 738 = .ok (.invokevirtual 54, 3) := by decide +kernel
theorem dL_same_741 : decode cL_same 741 = .ok (.aload_n 3, 1) := by decide +kernel
theorem dL_same_742 : decode cL_same 742 = .ok (.iload 13, 2) := by decide +kernel
theorem dL_same_744 : decode cL_same 744 = .ok (.iaload, 1) := by decide +kernel
theorem dL_same_745 : decode cL_same 745 = .ok (.if_icmp .eq 5, 3) := by decide +kernel
theorem dL_same_748 : decode cL_same 748 = .ok (.iconst 0, 1) := by decide +kernel
theorem dL_same_749 : decode cL_same 749 = .ok (.ireturn, 1) := by decide +kernel
theorem dL_same_750 : decode cL_same 750 = .ok (.iinc 13 1, 3) := by decide +kernel
theorem dL_same_753 : decode cL_same 753 = .ok (.goto (-27), 3) := by decide +kernel
theorem dL_same_756 : decode cL_same 756 = .ok (.aload_n 0, 1) := by decide +kernel
theorem dL_same_757 : decode cL_same 757 = .ok (.iconst 0, 1) := by decide +kernel
theorem dL_same_758 : decode cL_same 758 = .ok (.invokevirtual 54, 3) := by decide +kernel
theorem dL_same_761 : decode cL_same 761 = .ok (.aload_n 3, 1) := by decide +kernel
theorem dL_same_762 : decode cL_same 762 = .ok (.iconst 4, 1) := by decide +kernel
theorem dL_same_763 : decode cL_same 763 = .ok (.iaload, 1) := by decide +kernel
theorem dL_same_764 : decode cL_same 764 = .ok (.if_icmp .ne 121, 3) := by decide +kernel
theorem dL_same_767 : decode cL_same 767 = .ok (.aload_n 0, 1) := by decide +kernel
theorem dL_same_768 : decode cL_same 768 = .ok (.iconst 1, 1) := by decide +kernel
theorem dL_same_769 : decode cL_same 769 = .ok (.invokevirtual 54, 3) := by decide +kernel
theorem dL_same_772 : decode cL_same 772 = .ok (.aload_n 3, 1) := by decide +kernel
theorem dL_same_773 : decode cL_same 773 = .ok (.iconst 5, 1) := by decide +kernel
theorem dL_same_774 : decode cL_same 774 = .ok (.iaload, 1) := by decide +kernel
theorem dL_same_775 : decode cL_same 775 = .ok (.if_icmp .ne 110, 3) := by decide +kernel
theorem dL_same_778 : decode cL_same 778 = .ok (.aload_n 0, 1) := by decide +kernel
theorem dL_same_779 : decode cL_same 779 = .ok (.iconst 2, 1) := by decide +kernel
theorem dL_same_780 : decode cL_same 780 = .ok (.invokevirtual 54, 3) := by decide +kernel
theorem dL_same_783 : decode cL_same 783 = .ok (.iload 11, 2) := by decide +kernel
theorem dL_same_785 : decode cL_same 785 = .ok (.if_icmp .ne 100, 3) := by decide +kernel
theorem dL_same_788 : decode cL_same 788 = .ok (.aload_n 0, 1) := by decide +kernel
theorem dL_same_789 : decode cL_same 789 = .ok (.iconst 3, 1) := by decide +kernel
theorem dL_same_790 : decode cL_same 790 = .ok (.invokevirtual 54, 3) := by decide +kernel
theorem dL_same_793 : decode cL_same 793 = .ok (.aload_n 3, 1) := by decide +kernel
theorem dL_same_794 : decode cL_same 794 = .ok (.bipush 6, 2) := by decide +kernel
theorem dL_same_796 : decode cL_same 796 = .ok (.iaload, 1) := by decide +kernel
theorem dL_same_797 : decode cL_same 797 = .ok (.if_icmp .ne 88, 3) := by decide +kernel
theorem dL_same_800 : decode cL_same 800 = .ok (.aload_n 0, 1) := by decide +kernel
theorem dL_same_801 : decode cL_same 801 = .ok (.iconst 4, 1) := by decide +kernel
theorem dL_same_802 : decode cL_same 802 = .ok (.invokevirtual 54, 3) := by decide +kernel
theorem dL_same_805 : decode cL_same 805 = .ok (.iload 8, 2) := by decide +kernel
theorem dL_same_807 : decode cL_same 807 = .ok (.if_icmp .ne 78, 3) := by decide +kernel
theorem dL_same_810 : decode cL_same 810 = .ok (.aload_n 0, 1) := by decide +kernel
theorem dL_same_811 : decode cL_same 811 = .ok (.iconst 5, 1) := by decide +kernel
theorem dL_same_812 : decode cL_same 812 = .ok (.invokevirtual 54, 3) := by decide +kernel
theorem dL_same_815 : decode cL_same 815 = .ok (.iload 9, 2) := by decide +kernel
theorem dL_same_817 : decode cL_same 817 = .ok (.if_icmp .ne 68, 3) := by decide +kernel
theorem dL_same_820 : decode cL_same 820 = .ok (.aload_n 0, 1) := by decide +kernel
theorem dL_same_821 : decode cL_same 821 = .ok (.bipush 6, 2) := by decide +kernel
theorem dL_same_823 : decode cL_same 823 = .ok (.invokevirtual 54, 3) := by decide +kernel
theorem dL_same_826 : decode cL_same 826 = .ok (.iload 10, 2) := by decide +kernel
theorem dL_same_828 : decode cL_same 828 = .ok (.if_icmp .ne 57, 3) := by decide +kernel
theorem dL_same_831 : decode cL_same 831 = .ok (.aload_n 0, 1) := by decide +kernel
theorem dL_same_832 : decode cL_same 832 = .ok (.aload_n 3, 1) := by decide +kernel
theorem dL_same_833 : decode cL_same 833 = .ok (.iconst 5, 1) := by decide +kernel
theorem dL_same_834 : decode cL_same 834 = .ok (.iaload, 1) := by decide +kernel
theorem dL_same_835 : decode cL_same 835 = .ok (.iconst 0, 1) := by decide +kernel
theorem dL_same_836 : decode cL_same 836 = .ok (.invokevirtual 45, 3) := by decide +kernel
theorem dL_same_839 : decode cL_same 839 = .ok (.iconst (-1), 1) := by decide +kernel
theorem dL_same_840 : decode cL_same 840 = .ok (.if_icmp .ne 45, 3) := by decide +kernel
theorem dL_same_843 : decode cL_same 843 = .ok (.aload_n 0, 1) := by decide +kernel
theorem dL_same_844 : decode cL_same 844 = .ok (.aload_n 3, 1) := by decide +kernel
theorem dL_same_845 : decode cL_same 845 = .ok (.bipush 6, 2) := by decide +kernel
theorem dL_same_847 : decode cL_same 847 = .ok (.iaload, 1) := by decide +kernel
theorem dL_same_848 : decode cL_same 848 = .ok (.iconst 0, 1) := by decide +kernel
theorem dL_same_849 : decode cL_same 849 = .ok (.invokevirtual 48, 3) := by decide +kernel
theorem dL_same_852 : decode cL_same 852 = .ok (.iconst (-1), 1) := by decide +kernel
theorem dL_same_853 : decode cL_same 853 = .ok (.if_icmp .ne 32, 3) := by decide +kernel
theorem dL_same_856 : decode cL_same 856 = .ok (.aload_n 3, 1) := by decide +kernel
theorem dL_same_857 : decode cL_same 857 = .ok (.bipush 6, 2) := by decide +kernel
theorem dL_same_859 : decode cL_same 859 = .ok (.iaload, 1) := by decide +kernel
theorem dL_same_860 : decode cL_same 860 = .ok (.ifCond .gt 21, 3) := by decide +kernel
theorem dL_same_863 : decode cL_same 863 = .ok (.aload_n 0, 1) := by decide +kernel
theorem dL_same_864 : decode cL_same 864 = .ok (.bipush 7, 2) := by decide +kernel
theorem dL_same_866 : decode cL_same 866 = .ok (.invokevirtual 54, 3) := by decide +kernel
theorem dL_same_869 : decode cL_same 869 = .ok (.iload 9, 2) := by decide +kernel
theorem dL_same_871 : decode cL_same 871 = .ok (.iload 9, 2) := by decide +kernel
theorem dL_same_873 : decode cL_same 873 = .ok (.iconst 1, 1) := by decide +kernel
theorem dL_same_874 : decode cL_same 874 = .ok (.isub, 1) := by decide +kernel
theorem dL_same_875 : decode cL_same 875 = .ok (.imul, 1) := by decide +kernel
theorem dL_same_876 : decode cL_same 876 = .ok (.iconst 2, 1) := by decide +kernel
theorem dL_same_877 : decode cL_same 877 = .ok (.idiv, 1) := by decide +kernel
theorem dL_same_878 : decode cL_same 878 = .ok (.if_icmp .ne 7, 3) := by decide +kernel
theorem dL_same_881 : decode cL_same 881 = .ok (.iconst 1, 1) := by decide +kernel
theorem dL_same_882 : decode cL_same 882 = .ok (.goto 4, 3) := by decide +kernel
theorem dL_same_885 : decode cL_same 885 = .ok (.iconst 0, 1) := by decide +kernel
theorem dL_same_886 : decode cL_same 886 = .ok (.ireturn, 1) := by decide +kernel
set_option maxRecDepth 20000 in
theorem ggL_law_X5_init : GoodIn wsL_law wsX5_init := goodIn_r _ [7, 8, 9, 10, 11, 12, 13, 14, 15, 16, 17, 18, 19, 20, 21, 22, 23, 24, 25, 26, 27, 28, 29, 30, 31, 32, 33, 3, 34, 35, 36, 37, 38, 39, 40, 41, 42, 43, 44, 45, 46, 47, 48, 49, 50, 51, 52, 53, 54, 55, 56, 57, 58, 59, 60, 61, 62, 63, 64, 65, 66, 67, 68, 69, 70, 71, 72, 73, 74, 75, 76, 77, 334, 335, 336, 337, 338, 339, 340, 341, 342, 343, 344, 345, 346, 327, 328, 329, 330, 331, 332, 333, 347, 348, 349, 350, 351, 352, 353, 354, 355] (by decide +kernel) (by decide +kernel)
set_option maxRecDepth 20000 in
theorem gL_law_X5_init : GoodIn wsL_law (wsX5_init) := ggL_law_X5_init
set_option maxRecDepth 20000 in
theorem ggL_law_L_cell : GoodIn wsL_law wsL_cell := goodIn_r _ [81, 82, 83] (by decide +kernel) (by decide +kernel)
set_option maxRecDepth 20000 in
theorem gL_law_L_cell : GoodIn wsL_law (va_wsS RL 61 yL_cell wsL_cell) := goodIn_app (goodIn_of _ (by decide +kernel)) ggL_law_L_cell
set_option maxRecDepth 20000 in
theorem ggL_law_L_low : GoodIn wsL_law wsL_low := goodIn_r _ [86, 87] (by decide +kernel) (by decide +kernel)
set_option maxRecDepth 20000 in
theorem gL_law_L_low : GoodIn wsL_law (va_wsS RL 65 yL_low wsL_low) := goodIn_app (goodIn_of _ (by decide +kernel)) ggL_law_L_low
set_option maxRecDepth 20000 in
theorem ggL_law_L_touch : GoodIn wsL_law wsL_touch := goodIn_r _ [90] (by decide +kernel) (by decide +kernel)
set_option maxRecDepth 20000 in
theorem gL_law_L_touch : GoodIn wsL_law (va_wsS RL 37 yL_touch wsL_touch) := goodIn_app (goodIn_of _ (by decide +kernel)) ggL_law_L_touch
set_option maxRecDepth 20000 in
theorem ggL_law_L_near : GoodIn wsL_law wsL_near := goodIn_r _ [93] (by decide +kernel) (by decide +kernel)
set_option maxRecDepth 20000 in
theorem gL_law_L_near : GoodIn wsL_law (va_wsS RL 68 yL_near wsL_near) := goodIn_app (goodIn_of _ (by decide +kernel)) ggL_law_L_near
set_option maxRecDepth 20000 in
theorem ggL_law_X5_track : GoodIn wsL_law wsX5_track := goodIn_r _ [97, 23, 14, 98, 22, 99, 100, 71, 72, 101, 13, 102, 103, 34, 48, 49, 50, 51, 35, 36, 37, 38, 39, 40, 42, 44, 45, 46, 47, 104, 105, 106, 107, 2, 108, 109, 110, 111, 112, 113, 114, 115, 116, 117, 118, 119, 120, 121, 122, 123, 124, 125, 126, 327, 328, 329, 330, 331, 332, 333, 349, 350, 334, 335, 336, 337, 338, 339, 340, 341, 342, 343, 344, 345, 346] (by decide +kernel) (by decide +kernel)
set_option maxRecDepth 20000 in
theorem gL_law_X5_track : GoodIn wsL_law (wsV RL 72 RX5 yX5_track wsX5_track) := goodIn_app (goodIn_of _ (by decide +kernel)) ggL_law_X5_track
set_option maxRecDepth 20000 in
theorem ggL_law_X5_feed : GoodIn wsL_law wsX5_feed := goodIn_r _ [130, 23, 14, 98, 22, 99, 100, 71, 72, 101, 13, 102, 103, 34, 48, 49, 50, 51, 35, 36, 37, 38, 39, 40, 42, 44, 45, 46, 47, 131, 132, 133, 109, 2, 110, 120, 121, 122, 123, 134, 135, 136, 137, 124, 125, 126, 327, 328, 329, 330, 331, 332, 333, 349, 350, 334, 335, 336, 337, 338, 339, 340, 341, 342, 343, 344, 345, 346] (by decide +kernel) (by decide +kernel)
set_option maxRecDepth 20000 in
theorem gL_law_X5_feed : GoodIn wsL_law (wsV RL 75 RX5 yX5_feed wsX5_feed) := goodIn_app (goodIn_of _ (by decide +kernel)) ggL_law_X5_feed
set_option maxRecDepth 20000 in
theorem ggL_law_L_fed : GoodIn wsL_law wsL_fed := goodIn_r _ [140] (by decide +kernel) (by decide +kernel)
set_option maxRecDepth 20000 in
theorem gL_law_L_fed : GoodIn wsL_law (va_wsS RL 19 yL_fed wsL_fed) := goodIn_app (goodIn_of _ (by decide +kernel)) ggL_law_L_fed
set_option maxRecDepth 20000 in
theorem ggL_law_L_beside : GoodIn wsL_law wsL_beside := goodIn_r _ [143, 144, 145, 80, 146] (by decide +kernel) (by decide +kernel)
set_option maxRecDepth 20000 in
theorem gL_law_L_beside : GoodIn wsL_law (va_wsS RL 16 yL_beside wsL_beside) := goodIn_app (goodIn_of _ (by decide +kernel)) ggL_law_L_beside
set_option maxRecDepth 20000 in
theorem ggL_law_X5_touch : GoodIn wsL_law wsX5_touch := goodIn_r _ [150, 23, 14, 98, 22, 99, 100, 71, 72, 101, 13, 102, 103, 34, 48, 49, 50, 51, 35, 36, 37, 38, 39, 40, 42, 44, 45, 46, 47, 151, 152, 153, 107, 2, 108, 109, 110, 154, 155, 156, 157, 158, 159, 160, 161, 118, 119, 120, 121, 122, 123, 124, 125, 126, 327, 328, 329, 330, 331, 332, 333, 349, 350, 334, 335, 336, 337, 338, 339, 340, 341, 342, 343, 344, 345, 346] (by decide +kernel) (by decide +kernel)
set_option maxRecDepth 20000 in
theorem gL_law_X5_touch : GoodIn wsL_law (wsV RL 78 RX5 yX5_touch wsX5_touch) := goodIn_app (goodIn_of _ (by decide +kernel)) ggL_law_X5_touch
set_option maxRecDepth 20000 in
theorem ggL_law_X5_mend : GoodIn wsL_law wsX5_mend := goodIn_r _ [165, 23, 14, 98, 22, 99, 100, 71, 72, 101, 13, 102, 103, 34, 48, 49, 50, 51, 35, 36, 37, 38, 39, 40, 42, 44, 45, 46, 47, 166, 167, 168, 120, 121, 122, 123, 124, 125, 126, 327, 328, 329, 330, 331, 332, 333, 349, 350, 334, 335, 336, 337, 338, 339, 340, 341, 342, 343, 344, 345, 346] (by decide +kernel) (by decide +kernel)
set_option maxRecDepth 20000 in
theorem gL_law_X5_mend : GoodIn wsL_law (wsV RL 80 RX5 yX5_mend wsX5_mend) := goodIn_app (goodIn_of _ (by decide +kernel)) ggL_law_X5_mend
set_option maxRecDepth 20000 in
theorem ggL_law_X5_warm : GoodIn wsL_law wsX5_warm := goodIn_r _ [172, 23, 14, 98, 22, 99, 100, 71, 72, 101, 13, 102, 103, 34, 48, 49, 50, 51, 35, 36, 37, 38, 39, 40, 42, 44, 45, 46, 47, 173, 174, 175, 176, 177, 178, 179, 180, 181, 182, 183, 134, 135, 136, 137, 184, 185, 186, 187, 43, 188, 2, 189, 190, 191, 192, 193, 124, 125, 126, 327, 328, 329, 330, 331, 332, 333, 349, 350, 334, 335, 336, 337, 338, 339, 340, 341, 342, 343, 344, 345, 346] (by decide +kernel) (by decide +kernel)
set_option maxRecDepth 20000 in
theorem gL_law_X5_warm : GoodIn wsL_law (wsV RL 83 RX5 yX5_warm wsX5_warm) := goodIn_app (goodIn_of _ (by decide +kernel)) ggL_law_X5_warm
set_option maxRecDepth 20000 in
theorem ggL_law_X5_at : GoodIn wsL_law wsX5_at := goodIn_r _ [197, 14, 19, 198, 107, 2, 108, 199, 200, 201, 202, 203, 204, 205, 206, 207, 208, 13, 209, 210, 35, 118, 119, 134, 135, 136, 137, 36, 211, 18, 212, 213, 214, 215, 216, 217, 58, 218, 219, 220, 221, 222, 57, 223, 224, 63, 225, 49, 50, 51, 66, 226, 227, 228, 65, 41, 188, 189, 190, 191, 192, 193, 229, 230, 231, 232, 233, 234, 235, 236, 237, 155, 156, 157, 37, 38, 327, 328, 329, 330, 331, 332, 333, 334, 335, 336, 337, 338, 339, 340, 341, 342, 343, 344, 345, 346, 347, 348, 353, 354, 355] (by decide +kernel) (by decide +kernel)
set_option maxRecDepth 20000 in
theorem gL_law_X5_at : GoodIn wsL_law (wsV RL 33 RX5 yX5_at wsX5_at) := goodIn_app (goodIn_of _ (by decide +kernel)) ggL_law_X5_at
set_option maxRecDepth 20000 in
theorem ggL_law_X5_probe : GoodIn wsL_law wsX5_probe := goodIn_r _ [241, 23, 14, 98, 22, 99, 100, 71, 72, 101, 13, 102, 103, 34, 48, 49, 50, 51, 35, 36, 37, 38, 39, 40, 42, 44, 45, 46, 47, 242, 243, 244, 107, 2, 108, 205, 206, 207, 124, 125, 126, 327, 328, 329, 330, 331, 332, 333, 349, 350, 334, 335, 336, 337, 338, 339, 340, 341, 342, 343, 344, 345, 346] (by decide +kernel) (by decide +kernel)
set_option maxRecDepth 20000 in
theorem gL_law_X5_probe : GoodIn wsL_law (wsV RL 86 RX5 yX5_probe wsX5_probe) := goodIn_app (goodIn_of _ (by decide +kernel)) ggL_law_X5_probe
set_option maxRecDepth 20000 in
theorem ggL_law_L_suspect : GoodIn wsL_law wsL_suspect := goodIn_r _ [247, 141, 142, 80, 143, 144, 145, 146, 138, 139, 140] (by decide +kernel) (by decide +kernel)
set_option maxRecDepth 20000 in
theorem gL_law_L_suspect : GoodIn wsL_law (va_wsS RL 29 yL_suspect wsL_suspect) := goodIn_app (goodIn_of _ (by decide +kernel)) ggL_law_L_suspect
set_option maxRecDepth 20000 in
theorem ggL_law_X5_wouldRead : GoodIn wsL_law wsX5_wouldRead := goodIn_r _ [251, 14, 19, 198, 107, 2, 108, 208, 13, 209, 210, 35, 118, 119, 134, 135, 136, 137, 36, 252, 18, 253, 254, 58, 222, 57, 223, 224, 63, 225, 49, 50, 51, 66, 226, 227, 228, 65, 41, 188, 189, 190, 191, 192, 193, 205, 206, 207, 327, 328, 329, 330, 331, 332, 333, 334, 335, 336, 337, 338, 339, 340, 341, 342, 343, 344, 345, 346, 347, 348, 353, 354, 355] (by decide +kernel) (by decide +kernel)
set_option maxRecDepth 20000 in
theorem gL_law_X5_wouldRead : GoodIn wsL_law (wsV RL 89 RX5 yX5_wouldRead wsX5_wouldRead) := goodIn_app (goodIn_of _ (by decide +kernel)) ggL_law_X5_wouldRead
set_option maxRecDepth 20000 in
theorem ggL_law_L_live : GoodIn wsL_law wsL_live := goodIn_r _ [257, 138, 139, 80, 140] (by decide +kernel) (by decide +kernel)
set_option maxRecDepth 20000 in
theorem gL_law_L_live : GoodIn wsL_law (va_wsS RL 25 yL_live wsL_live) := goodIn_app (goodIn_of _ (by decide +kernel)) ggL_law_L_live
set_option maxRecDepth 20000 in
theorem ggL_law_X5_set : GoodIn wsL_law wsX5_set := goodIn_r _ [261, 23, 14, 98, 22, 99, 100, 71, 72, 101, 13, 102, 103, 34, 48, 49, 50, 51, 35, 36, 37, 38, 39, 40, 42, 44, 45, 46, 47, 262, 263, 264, 120, 121, 122, 123, 124, 125, 126, 327, 328, 329, 330, 331, 332, 333, 349, 350, 334, 335, 336, 337, 338, 339, 340, 341, 342, 343, 344, 345, 346] (by decide +kernel) (by decide +kernel)
set_option maxRecDepth 20000 in
theorem gL_law_X5_set : GoodIn wsL_law (wsV RL 93 RX5 yX5_set wsX5_set) := goodIn_app (goodIn_of _ (by decide +kernel)) ggL_law_X5_set
set_option maxRecDepth 20000 in
theorem ggL_law_X5_cool : GoodIn wsL_law wsX5_cool := goodIn_r _ [268, 23, 14, 98, 22, 99, 100, 71, 72, 101, 13, 102, 103, 34, 48, 49, 50, 51, 35, 36, 37, 38, 39, 40, 42, 44, 45, 46, 47, 121, 122, 123, 124, 125, 126, 327, 328, 329, 330, 331, 332, 333, 334, 335, 336, 337, 338, 339, 340, 341, 342, 343, 344, 345, 346, 349, 350] (by decide +kernel) (by decide +kernel)
set_option maxRecDepth 20000 in
theorem gL_law_X5_cool : GoodIn wsL_law (wsV RL 96 RX5 yX5_cool wsX5_cool) := goodIn_app (goodIn_of _ (by decide +kernel)) ggL_law_X5_cool
set_option maxRecDepth 20000 in
theorem ggL_law_L_same0 : GoodIn wsL_law [Cond.code yL_same cL_same 24 (some .boolean)] := fun w hw => by rw [List.mem_singleton] at hw; rw [hw]; exact ⟨List.mem_of_getElem? (i := 271) rfl, good_of_word rfl⟩
set_option maxRecDepth 20000 in
theorem ggL_law_L_same : GoodIn wsL_law wsL_same := goodIn_ca (a := []) ggL_law_L_same0 (goodIn_r _ [3, 255, 256, 80, 257, 138, 139, 140, 245, 246, 247, 141, 142, 143, 144, 145, 146, 194, 195, 196, 2, 197, 14, 19, 198, 107, 108, 199, 200, 201, 202, 203, 204, 205, 206, 207, 208, 13, 209, 210, 35, 118, 119, 134, 135, 136, 137, 36, 211, 18, 212, 213, 214, 215, 216, 217, 58, 218, 219, 220, 221, 222, 57, 223, 224, 63, 225, 49, 50, 51, 66, 226, 227, 228, 65, 41, 188, 189, 190, 191, 192, 193, 229, 230, 231, 232, 233, 234, 235, 236, 237, 155, 156, 157, 37, 38, 88, 89, 90, 272, 273, 274, 275, 276, 277, 278, 279, 280, 281, 282, 283, 284, 285, 286, 287, 288, 289, 290, 291, 292, 293, 294, 181, 182, 183, 39, 295, 296, 297, 298, 299, 300, 301, 302, 303, 109, 110, 304, 305, 306, 307, 308, 309, 42, 310, 311, 312, 313, 27, 23, 177, 178, 179, 180, 314, 315, 316, 317, 318, 319, 320, 321, 322, 323, 324, 325, 326, 327, 328, 329, 330, 331, 332, 333, 334, 335, 336, 337, 338, 339, 340, 341, 342, 343, 344, 345, 346, 347, 348, 353, 354, 355, 351, 352, 349, 350] (by decide +kernel) (by decide +kernel))
set_option maxRecDepth 20000 in
theorem gL_law_L_same : GoodIn wsL_law (va_wsS RL 100 yL_same wsL_same) := goodIn_app (goodIn_of _ (by decide +kernel)) ggL_law_L_same
theorem dL_law_0 : decode cL_law 0 = .ok (.new 23, 3) := by decide +kernel
theorem dL_law_3 : decode cL_law 3 = .ok (.dup, 1) := by decide +kernel
theorem dL_law_4 : decode cL_law 4 = .ok (.invokespecial 58, 3) := by decide +kernel
theorem dL_law_7 : decode cL_law 7 = .ok (.astore_n 1, 1) := by decide +kernel
theorem dL_law_8 : decode cL_law 8 = .ok (.bipush 7, 2) := by decide +kernel
theorem dL_law_10 : decode cL_law 10 = .ok (.newarray .int, 2) := by decide +kernel
theorem dL_law_12 : decode cL_law 12 = .ok (.astore_n 2, 1) := by decide +kernel
theorem dL_law_13 : decode cL_law 13 = .ok (.bipush 6, 2) := by decide +kernel
theorem dL_law_15 : decode cL_law 15 = .ok (.newarray .int, 2) := by decide +kernel
theorem dL_law_17 : decode cL_law 17 = .ok (.astore_n 3, 1) := by decide +kernel
theorem dL_law_18 : decode cL_law 18 = .ok (.bipush 24, 2) := by decide +kernel
theorem dL_law_20 : decode cL_law 20 = .ok (.newarray .int, 2) := by decide +kernel
theorem dL_law_22 : decode cL_law 22 = .ok (.astore 4, 2) := by decide +kernel
theorem dL_law_24 : decode cL_law 24 = .ok (.bipush 64, 2) := by decide +kernel
theorem dL_law_26 : decode cL_law 26 = .ok (.newarray .int, 2) := by decide +kernel
theorem dL_law_28 : decode cL_law 28 = .ok (.astore 5, 2) := by decide +kernel
theorem dL_law_30 : decode cL_law 30 = .ok (.bipush 8, 2) := by decide +kernel
theorem dL_law_32 : decode cL_law 32 = .ok (.newarray .int, 2) := by decide +kernel
theorem dL_law_34 : decode cL_law 34 = .ok (.astore 6, 2) := by decide +kernel
theorem dL_law_36 : decode cL_law 36 = .ok (.ldc2_w 59, 3) := by decide +kernel
theorem dL_law_39 : decode cL_law 39 = .ok (.lstore 7, 2) := by decide +kernel
theorem dL_law_41 : decode cL_law 41 = .ok (.aload_n 2, 1) := by decide +kernel
theorem dL_law_42 : decode cL_law 42 = .ok (.iconst 0, 1) := by decide +kernel
theorem dL_law_43 : decode cL_law 43 = .ok (.bipush 15, 2) := by decide +kernel
theorem dL_law_45 : decode cL_law 45 = .ok (.iastore, 1) := by decide +kernel
theorem dL_law_46 : decode cL_law 46 = .ok (.aload_n 2, 1) := by decide +kernel
theorem dL_law_47 : decode cL_law 47 = .ok (.iconst 1, 1) := by decide +kernel
theorem dL_law_48 : decode cL_law 48 = .ok (.iconst 5, 1) := by decide +kernel
theorem dL_law_49 : decode cL_law 49 = .ok (.iastore, 1) := by decide +kernel
theorem dL_law_50 : decode cL_law 50 = .ok (.aload_n 2, 1) := by decide +kernel
theorem dL_law_51 : decode cL_law 51 = .ok (.iconst 2, 1) := by decide +kernel
theorem dL_law_52 : decode cL_law 52 = .ok (.bipush 20, 2) := by decide +kernel
theorem dL_law_54 : decode cL_law 54 = .ok (.iastore, 1) := by decide +kernel
theorem dL_law_55 : decode cL_law 55 = .ok (.aload_n 2, 1) := by decide +kernel
theorem dL_law_56 : decode cL_law 56 = .ok (.iconst 3, 1) := by decide +kernel
theorem dL_law_57 : decode cL_law 57 = .ok (.iconst 3, 1) := by decide +kernel
theorem dL_law_58 : decode cL_law 58 = .ok (.iastore, 1) := by decide +kernel
theorem dL_law_59 : decode cL_law 59 = .ok (.iconst 0, 1) := by decide +kernel
theorem dL_law_60 : decode cL_law 60 = .ok (.istore 9, 2) := by decide +kernel
theorem dL_law_62 : decode cL_law 62 = .ok (.iload 9, 2) := by decide +kernel
theorem dL_law_64 : decode cL_law 64 = .ok (.bipush 34, 2) := by decide +kernel
theorem dL_law_66 : decode cL_law 66 = .ok (.if_icmp .ge 1224, 3) := by decide +kernel
theorem dL_law_69 : decode cL_law 69 = .ok (.aload_n 0, 1) := by decide +kernel
theorem dL_law_70 : decode cL_law 70 = .ok (.iconst 2, 1) := by decide +kernel
theorem dL_law_71 : decode cL_law 71 = .ok (.iload 9, 2) := by decide +kernel
theorem dL_law_73 : decode cL_law 73 = .ok (.imul, 1) := by decide +kernel
theorem dL_law_74 : decode cL_law 74 = .ok (.invokestatic 61, 3) := by decide +kernel
theorem dL_law_77 : decode cL_law 77 = .ok (.istore 10, 2) := by decide +kernel
theorem dL_law_79 : decode cL_law 79 = .ok (.aload_n 0, 1) := by decide +kernel
theorem dL_law_80 : decode cL_law 80 = .ok (.iconst 2, 1) := by decide +kernel
theorem dL_law_81 : decode cL_law 81 = .ok (.iload 9, 2) := by decide +kernel
theorem dL_law_83 : decode cL_law 83 = .ok (.imul, 1) := by decide +kernel
theorem dL_law_84 : decode cL_law 84 = .ok (.iconst 1, 1) := by decide +kernel
theorem dL_law_85 : decode cL_law 85 = .ok (.iadd, 1) := by decide +kernel
theorem dL_law_86 : decode cL_law 86 = .ok (.invokestatic 61, 3) := by decide +kernel
theorem dL_law_89 : decode cL_law 89 = .ok (.istore 11, 2) := by decide +kernel
theorem dL_law_91 : decode cL_law 91 = .ok (.iload 9, 2) := by decide +kernel
theorem dL_law_93 : decode cL_law 93 = .ok (.bipush 8, 2) := by decide +kernel
theorem dL_law_95 : decode cL_law 95 = .ok (.if_icmp .ge 19, 3) := by decide +kernel
theorem dL_law_98 : decode cL_law 98 = .ok (.iload 9, 2) := by decide +kernel
theorem dL_law_100 : decode cL_law 100 = .ok (.iconst 4, 1) := by decide +kernel
theorem dL_law_101 : decode cL_law 101 = .ok (.irem, 1) := by decide +kernel
theorem dL_law_102 : decode cL_law 102 = .ok (.iconst 3, 1) := by decide +kernel
theorem dL_law_103 : decode cL_law 103 = .ok (.if_icmp .ne 7, 3) := by decide +kernel
theorem dL_law_106 : decode cL_law 106 = .ok (.iconst 3, 1) := by decide +kernel
theorem dL_law_107 : decode cL_law 107 = .ok (.goto 14, 3) := by decide +kernel
theorem dL_law_110 : decode cL_law 110 = .ok (.iconst 0, 1) := by decide +kernel
theorem dL_law_111 : decode cL_law 111 = .ok (.goto 10, 3) := by decide +kernel
theorem dL_law_114 : decode cL_law 114 = .ok (.iload 10, 2) := by decide +kernel
theorem dL_law_116 : decode cL_law 116 = .ok (.bipush 15, 2) := by decide +kernel
theorem dL_law_118 : decode cL_law 118 = .ok (.invokestatic 65, 3) := by decide +kernel
theorem dL_law_121 : decode cL_law 121 = .ok (.istore 12, 2) := by decide +kernel
theorem dL_law_123 : decode cL_law 123 = .ok (.iload 11, 2) := by decide +kernel
theorem dL_law_125 : decode cL_law 125 = .ok (.iconst 5, 1) := by decide +kernel
theorem dL_law_126 : decode cL_law 126 = .ok (.invokestatic 65, 3) := by decide +kernel
theorem dL_law_129 : decode cL_law 129 = .ok (.istore 13, 2) := by decide +kernel
theorem dL_law_131 : decode cL_law 131 = .ok (.iload 11, 2) := by decide +kernel
theorem dL_law_133 : decode cL_law 133 = .ok (.iconst 4, 1) := by decide +kernel
theorem dL_law_134 : decode cL_law 134 = .ok (.ishr, 1) := by decide +kernel
theorem dL_law_135 : decode cL_law 135 = .ok (.iconst 5, 1) := by decide +kernel
theorem dL_law_136 : decode cL_law 136 = .ok (.invokestatic 65, 3) := by decide +kernel
theorem dL_law_139 : decode cL_law 139 = .ok (.istore 14, 2) := by decide +kernel
theorem dL_law_141 : decode cL_law 141 = .ok (.bipush 8, 2) := by decide +kernel
theorem dL_law_143 : decode cL_law 143 = .ok (.iload 13, 2) := by decide +kernel
theorem dL_law_145 : decode cL_law 145 = .ok (.imul, 1) := by decide +kernel
theorem dL_law_146 : decode cL_law 146 = .ok (.iload 14, 2) := by decide +kernel
theorem dL_law_148 : decode cL_law 148 = .ok (.iadd, 1) := by decide +kernel
theorem dL_law_149 : decode cL_law 149 = .ok (.istore 15, 2) := by decide +kernel
theorem dL_law_151 : decode cL_law 151 = .ok (.iconst 0, 1) := by decide +kernel
theorem dL_law_152 : decode cL_law 152 = .ok (.istore 16, 2) := by decide +kernel
theorem dL_law_154 : decode cL_law 154 = .ok (.iload 12, 2) := by decide +kernel
theorem dL_law_156 : decode cL_law 156 = .ok (.iconst 3, 1) := by decide +kernel
theorem dL_law_157 : decode cL_law 157 = .ok (.if_icmp .ge 155, 3) := by decide +kernel
theorem dL_law_160 : decode cL_law 160 = .ok (.iload 11, 2) := by decide +kernel
theorem dL_law_162 : decode cL_law 162 = .ok (.bipush 8, 2) := by decide +kernel
theorem dL_law_164 : decode cL_law 164 = .ok (.ishr, 1) := by decide +kernel
theorem dL_law_165 : decode cL_law 165 = .ok (.iconst 5, 1) := by decide +kernel
theorem dL_law_166 : decode cL_law 166 = .ok (.invokestatic 65, 3) := by decide +kernel
theorem dL_law_169 : decode cL_law 169 = .ok (.istore 17, 2) := by decide +kernel
theorem dL_law_171 : decode cL_law 171 = .ok (.iload 15, 2) := by decide +kernel
theorem dL_law_173 : decode cL_law 173 = .ok (.aload_n 2, 1) := by decide +kernel
theorem dL_law_174 : decode cL_law 174 = .ok (.aload_n 3, 1) := by decide +kernel
theorem dL_law_175 : decode cL_law 175 = .ok (.invokestatic 37, 3) := by decide +kernel
theorem dL_law_178 : decode cL_law 178 = .ok (.ifCond .lt 7, 3) := by decide +kernel
theorem dL_law_181 : decode cL_law 181 = .ok (.iconst 1, 1) := by decide +kernel
theorem dL_law_182 : decode cL_law 182 = .ok (.goto 4, 3) := by decide +kernel
theorem dL_law_185 : decode cL_law 185 = .ok (.iconst 0, 1) := by decide +kernel
theorem dL_law_186 : decode cL_law 186 = .ok (.istore 18, 2) := by decide +kernel
theorem dL_law_188 : decode cL_law 188 = .ok (.iconst 0, 1) := by decide +kernel
theorem dL_law_189 : decode cL_law 189 = .ok (.istore 19, 2) := by decide +kernel
theorem dL_law_191 : decode cL_law 191 = .ok (.iload 19, 2) := by decide +kernel
theorem dL_law_193 : decode cL_law 193 = .ok (.aload_n 2, 1) := by decide +kernel
theorem dL_law_194 : decode cL_law 194 = .ok (.iconst 5, 1) := by decide +kernel
theorem dL_law_195 : decode cL_law 195 = .ok (.iaload, 1) := by decide +kernel
theorem dL_law_196 : decode cL_law 196 = .ok (.if_icmp .ge 51, 3) := by decide +kernel
theorem dL_law_199 : decode cL_law 199 = .ok (.iload 18, 2) := by decide +kernel
theorem dL_law_201 : decode cL_law 201 = .ok (.ifCond .ne 33, 3) := by decide +kernel
theorem dL_law_204 : decode cL_law 204 = .ok (.iload 15, 2) := by decide +kernel
theorem dL_law_206 : decode cL_law 206 = .ok (.aload_n 3, 1) := by decide +kernel
theorem dL_law_207 : decode cL_law 207 = .ok (.iconst 2, 1) := by decide +kernel
theorem dL_law_208 : decode cL_law 208 = .ok (.iload 19, 2) := by decide +kernel
theorem dL_law_210 : decode cL_law 210 = .ok (.imul, 1) := by decide +kernel
theorem dL_law_211 : decode cL_law 211 = .ok (.iaload, 1) := by decide +kernel
theorem dL_law_212 : decode cL_law 212 = .ok (.invokestatic 68, 3) := by decide +kernel
theorem dL_law_215 : decode cL_law 215 = .ok (.ifCond .eq 23, 3) := by decide +kernel
theorem dL_law_218 : decode cL_law 218 = .ok (.aload_n 3, 1) := by decide +kernel
theorem dL_law_219 : decode cL_law 219 = .ok (.iconst 2, 1) := by decide +kernel
theorem dL_law_220 : decode cL_law 220 = .ok (.iload 19, 2) := by decide +kernel
theorem dL_law_222 : decode cL_law 222 = .ok (.imul, 1) := by decide +kernel
theorem dL_law_223 : decode cL_law 223 = .ok (.iconst 1, 1) := by decide +kernel
theorem dL_law_224 : decode cL_law 224 = .ok (.iadd, 1) := by decide +kernel
theorem dL_law_225 : decode cL_law 225 = .ok (.iaload, 1) := by decide +kernel
theorem dL_law_226 : decode cL_law 226 = .ok (.aload 5, 2) := by decide +kernel
theorem dL_law_228 : decode cL_law 228 = .ok (.iload 15, 2) := by decide +kernel
theorem dL_law_230 : decode cL_law 230 = .ok (.iaload, 1) := by decide +kernel
theorem dL_law_231 : decode cL_law 231 = .ok (.if_icmp .ne 7, 3) := by decide +kernel
theorem dL_law_234 : decode cL_law 234 = .ok (.iconst 1, 1) := by decide +kernel
theorem dL_law_235 : decode cL_law 235 = .ok (.goto 4, 3) := by decide +kernel
theorem dL_law_238 : decode cL_law 238 = .ok (.iconst 0, 1) := by decide +kernel
theorem dL_law_239 : decode cL_law 239 = .ok (.istore 18, 2) := by decide +kernel
theorem dL_law_241 : decode cL_law 241 = .ok (.iinc 19 1, 3) := by decide +kernel
theorem dL_law_244 : decode cL_law 244 = .ok (.goto (-53), 3) := by decide +kernel
theorem dL_law_247 : decode cL_law 247 = .ok (.aload_n 1, 1) := by decide +kernel
theorem dL_law_248 : decode cL_law 248 = .ok (.iload 13, 2) := by decide +kernel
theorem dL_law_250 : decode cL_law 250 = .ok (.iload 14, 2) := by decide +kernel
theorem dL_law_252 : decode cL_law 252 = .ok (.iload 17, 2) := by decide +kernel
theorem dL_law_254 : decode cL_law 254 = .ok (.invokevirtual 72, 3) := by decide +kernel
theorem dL_law_257 : decode cL_law 257 = .ok (.iload 18, 2) := by decide +kernel
theorem dL_law_259 : decode cL_law 259 = .ok (.ifCond .eq 8, 3) := by decide +kernel
theorem dL_law_262 : decode cL_law 262 = .ok (.bipush (-5), 2) := by decide +kernel
theorem dL_law_264 : decode cL_law 264 = .ok (.goto 8, 3) := by decide +kernel
theorem dL_law_267 : decode cL_law 267 = .ok (.aload 5, 2) := by decide +kernel
theorem dL_law_269 : decode cL_law 269 = .ok (.iload 15, 2) := by decide +kernel
theorem dL_law_271 : decode cL_law 271 = .ok (.iaload, 1) := by decide +kernel
theorem dL_law_272 : decode cL_law 272 = .ok (.if_icmp .eq 5, 3) := by decide +kernel
theorem dL_law_275 : decode cL_law 275 = .ok (.iconst 0, 1) := by decide +kernel
theorem dL_law_276 : decode cL_law 276 = .ok (.ireturn, 1) := by decide +kernel
theorem dL_law_277 : decode cL_law 277 = .ok (.iload 18, 2) := by decide +kernel
theorem dL_law_279 : decode cL_law 279 = .ok (.ifCond .ne 7, 3) := by decide +kernel
theorem dL_law_282 : decode cL_law 282 = .ok (.iconst 1, 1) := by decide +kernel
theorem dL_law_283 : decode cL_law 283 = .ok (.goto 4, 3) := by decide +kernel
theorem dL_law_286 : decode cL_law 286 = .ok (.iconst 0, 1) := by decide +kernel
theorem dL_law_287 : decode cL_law 287 = .ok (.istore 16, 2) := by decide +kernel
theorem dL_law_289 : decode cL_law 289 = .ok (.aload 5, 2) := by decide +kernel
theorem dL_law_291 : decode cL_law 291 = .ok (.iload 15, 2) := by decide +kernel
theorem dL_law_293 : decode cL_law 293 = .ok (.iload 18, 2) := by decide +kernel
theorem dL_law_295 : decode cL_law 295 = .ok (.ifCond .eq 11, 3) := by decide +kernel
theorem dL_law_298 : decode cL_law 298 = .ok (.aload 5, 2) := by decide +kernel
theorem dL_law_300 : decode cL_law 300 = .ok (.iload 15, 2) := by decide +kernel
theorem dL_law_302 : decode cL_law 302 = .ok (.iaload, 1) := by decide +kernel
theorem dL_law_303 : decode cL_law 303 = .ok (.goto 5, 3) := by decide +kernel
theorem dL_law_306 : decode cL_law 306 = .ok (.iload 17, 2) := by decide +kernel
theorem dL_law_308 : decode cL_law 308 = .ok (.iastore, 1) := by decide +kernel
theorem dL_law_309 : decode cL_law 309 = .ok (.goto 937, 3) := by decide +kernel
theorem dL_law_312 : decode cL_law 312 = .ok (.iload 12, 2) := by decide +kernel
theorem dL_law_314 : decode cL_law 314 = .ok (.iconst 5, 1) := by decide +kernel
theorem dL_law_315 : decode cL_law 315 = .ok (.if_icmp .ge 113, 3) := by decide +kernel
theorem dL_law_318 : decode cL_law 318 = .ok (.iconst 1, 1) := by decide +kernel
theorem dL_law_319 : decode cL_law 319 = .ok (.iload 11, 2) := by decide +kernel
theorem dL_law_321 : decode cL_law 321 = .ok (.iconst 4, 1) := by decide +kernel
theorem dL_law_322 : decode cL_law 322 = .ok (.invokestatic 65, 3) := by decide +kernel
theorem dL_law_325 : decode cL_law 325 = .ok (.iadd, 1) := by decide +kernel
theorem dL_law_326 : decode cL_law 326 = .ok (.istore 17, 2) := by decide +kernel
theorem dL_law_328 : decode cL_law 328 = .ok (.iconst 1, 1) := by decide +kernel
theorem dL_law_329 : decode cL_law 329 = .ok (.iload 11, 2) := by decide +kernel
theorem dL_law_331 : decode cL_law 331 = .ok (.iconst 5, 1) := by decide +kernel
theorem dL_law_332 : decode cL_law 332 = .ok (.ishr, 1) := by decide +kernel
theorem dL_law_333 : decode cL_law 333 = .ok (.iconst 4, 1) := by decide +kernel
theorem dL_law_334 : decode cL_law 334 = .ok (.invokestatic 65, 3) := by decide +kernel
theorem dL_law_337 : decode cL_law 337 = .ok (.iadd, 1) := by decide +kernel
theorem dL_law_338 : decode cL_law 338 = .ok (.istore 18, 2) := by decide +kernel
theorem dL_law_340 : decode cL_law 340 = .ok (.aload_n 1, 1) := by decide +kernel
theorem dL_law_341 : decode cL_law 341 = .ok (.iload 17, 2) := by decide +kernel
theorem dL_law_343 : decode cL_law 343 = .ok (.iload 18, 2) := by decide +kernel
theorem dL_law_345 : decode cL_law 345 = .ok (.invokevirtual 75, 3) := by decide +kernel
theorem dL_law_348 : decode cL_law 348 = .ok (.istore 19, 2) := by decide +kernel
theorem dL_law_350 : decode cL_law 350 = .ok (.iload 17, 2) := by decide +kernel
theorem dL_law_352 : decode cL_law 352 = .ok (.iload 18, 2) := by decide +kernel
theorem dL_law_354 : decode cL_law 354 = .ok (.if_icmp .ne 13, 3) := by decide +kernel
theorem dL_law_357 : decode cL_law 357 = .ok (.iload 19, 2) := by decide +kernel
theorem dL_law_359 : decode cL_law 359 = .ok (.bipush (-2), 2) := by decide +kernel
theorem dL_law_361 : decode cL_law 361 = .ok (.if_icmp .eq 30, 3) := by decide +kernel
theorem dL_law_364 : decode cL_law 364 = .ok (.goto 25, 3) := by decide +kernel
theorem dL_law_367 : decode cL_law 367 = .ok (.iload 19, 2) := by decide +kernel
theorem dL_law_369 : decode cL_law 369 = .ok (.iload 17, 2) := by decide +kernel
theorem dL_law_371 : decode cL_law 371 = .ok (.iload 18, 2) := by decide +kernel
theorem dL_law_373 : decode cL_law 373 = .ok (.aload 6, 2) := by decide +kernel
theorem dL_law_375 : decode cL_law 375 = .ok (.invokestatic 19, 3) := by decide +kernel
theorem dL_law_378 : decode cL_law 378 = .ok (.ifCond .eq 7, 3) := by decide +kernel
theorem dL_law_381 : decode cL_law 381 = .ok (.iconst 0, 1) := by decide +kernel
theorem dL_law_382 : decode cL_law 382 = .ok (.goto 4, 3) := by decide +kernel
theorem dL_law_385 : decode cL_law 385 = .ok (.iconst 1, 1) := by decide +kernel
theorem dL_law_386 : decode cL_law 386 = .ok (.if_icmp .eq 5, 3) := by decide +kernel
theorem dL_law_389 : decode cL_law 389 = .ok (.iconst 0, 1) := by decide +kernel
theorem dL_law_390 : decode cL_law 390 = .ok (.ireturn, 1) := by decide +kernel
theorem dL_law_391 : decode cL_law 391 = .ok (.iload 17, 2) := by decide +kernel
theorem dL_law_393 : decode cL_law 393 = .ok (.iload 18, 2) := by decide +kernel
theorem dL_law_395 : decode cL_law 395 = .ok (.if_icmp .eq 30, 3) := by decide +kernel
theorem dL_law_398 : decode cL_law 398 = .ok (.aload 6, 2) := by decide +kernel
theorem dL_law_400 : decode cL_law 400 = .ok (.iload 17, 2) := by decide +kernel
theorem dL_law_402 : decode cL_law 402 = .ok (.dup2, 1) := by decide +kernel
theorem dL_law_403 : decode cL_law 403 = .ok (.iaload, 1) := by decide +kernel
theorem dL_law_404 : decode cL_law 404 = .ok (.iconst 1, 1) := by decide +kernel
theorem dL_law_405 : decode cL_law 405 = .ok (.iload 18, 2) := by decide +kernel
theorem dL_law_407 : decode cL_law 407 = .ok (.ishl, 1) := by decide +kernel
theorem dL_law_408 : decode cL_law 408 = .ok (.ixor, 1) := by decide +kernel
theorem dL_law_409 : decode cL_law 409 = .ok (.iastore, 1) := by decide +kernel
theorem dL_law_410 : decode cL_law 410 = .ok (.aload 6, 2) := by decide +kernel
theorem dL_law_412 : decode cL_law 412 = .ok (.iload 18, 2) := by decide +kernel
theorem dL_law_414 : decode cL_law 414 = .ok (.dup2, 1) := by decide +kernel
theorem dL_law_415 : decode cL_law 415 = .ok (.iaload, 1) := by decide +kernel
theorem dL_law_416 : decode cL_law 416 = .ok (.iconst 1, 1) := by decide +kernel
theorem dL_law_417 : decode cL_law 417 = .ok (.iload 17, 2) := by decide +kernel
theorem dL_law_419 : decode cL_law 419 = .ok (.ishl, 1) := by decide +kernel
theorem dL_law_420 : decode cL_law 420 = .ok (.ixor, 1) := by decide +kernel
theorem dL_law_421 : decode cL_law 421 = .ok (.iastore, 1) := by decide +kernel
theorem dL_law_422 : decode cL_law 422 = .ok (.iconst 1, 1) := by decide +kernel
theorem dL_law_423 : decode cL_law 423 = .ok (.istore 16, 2) := by decide +kernel
theorem dL_law_425 : decode cL_law 425 = .ok (.goto 821, 3) := by decide +kernel
theorem dL_law_428 : decode cL_law 428 = .ok (.iload 12, 2) := by decide +kernel
theorem dL_law_430 : decode cL_law 430 = .ok (.bipush 7, 2) := by decide +kernel
theorem dL_law_432 : decode cL_law 432 = .ok (.if_icmp .ge 188, 3) := by decide +kernel
theorem dL_law_435 : decode cL_law 435 = .ok (.iconst 1, 1) := by decide +kernel
theorem dL_law_436 : decode cL_law 436 = .ok (.iload 11, 2) := by decide +kernel
theorem dL_law_438 : decode cL_law 438 = .ok (.bipush 9, 2) := by decide +kernel
theorem dL_law_440 : decode cL_law 440 = .ok (.ishr, 1) := by decide +kernel
theorem dL_law_441 : decode cL_law 441 = .ok (.iconst 4, 1) := by decide +kernel
theorem dL_law_442 : decode cL_law 442 = .ok (.invokestatic 65, 3) := by decide +kernel
theorem dL_law_445 : decode cL_law 445 = .ok (.iadd, 1) := by decide +kernel
