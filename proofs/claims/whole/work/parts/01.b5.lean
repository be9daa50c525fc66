theorem dX6_whyNotProbed_0 : decode cX6_whyNotProbed 0 = .ok (.iload_n 1, 1) := by decide +kernel
theorem dX6_whyNotProbed_1 : decode cX6_whyNotProbed 1 = .ok (.iload_n 2, 1) := by decide +kernel
theorem dX6_whyNotProbed_2 : decode cX6_whyNotProbed 2 = .ok (.invokestatic 76, 3) := by decide +kernel
theorem dX6_whyNotProbed_5 : decode cX6_whyNotProbed 5 = .ok (.ifCond .ne 7, 3) := by decide +kernel
theorem dX6_whyNotProbed_8 : decode cX6_whyNotProbed 8 = .ok (.iconst (-1), 1) := by decide +kernel
theorem dX6_whyNotProbed_9 : decode cX6_whyNotProbed 9 = .ok (.goto 21, 3) := by decide +kernel
theorem dX6_whyNotProbed_12 : decode cX6_whyNotProbed 12 = .ok (.aload_n 0, 1) := by decide +kernel
theorem dX6_whyNotProbed_13 : decode cX6_whyNotProbed 13 = .ok (.getfield 7, 3) := by decide +kernel
theorem dX6_whyNotProbed_16 : decode cX6_whyNotProbed 16 = .ok (.bipush 6, 2) := by decide +kernel
theorem dX6_whyNotProbed_18 : decode cX6_whyNotProbed 18 = .ok (.iaload, 1) := by decide +kernel
theorem dX6_whyNotProbed_19 : decode cX6_whyNotProbed 19 = .ok (.bipush 8, 2) := by decide +kernel
theorem dX6_whyNotProbed_21 : decode cX6_whyNotProbed 21 = .ok (.if_icmp .ne 8, 3) := by decide +kernel
theorem dX6_whyNotProbed_24 : decode cX6_whyNotProbed 24 = .ok (.bipush (-4), 2) := by decide +kernel
theorem dX6_whyNotProbed_26 : decode cX6_whyNotProbed 26 = .ok (.goto 4, 3) := by decide +kernel
theorem dX6_whyNotProbed_29 : decode cX6_whyNotProbed 29 = .ok (.iconst 0, 1) := by decide +kernel
theorem dX6_whyNotProbed_30 : decode cX6_whyNotProbed 30 = .ok (.ireturn, 1) := by decide +kernel
set_option maxRecDepth 20000 in
theorem ggX6_probes_X6_placeOf : GoodIn wsX6_probes wsX6_placeOf := goodIn_r _ [6] (by decide +kernel) (by decide +kernel)
set_option maxRecDepth 20000 in
theorem gX6_probes_X6_placeOf : GoodIn wsX6_probes (va_wsS RX6 80 yX6_placeOf wsX6_placeOf) := goodIn_app (goodIn_of _ (by decide +kernel)) ggX6_probes_X6_placeOf
set_option maxRecDepth 20000 in
theorem ggX6_probes_X6_readOf : GoodIn wsX6_probes wsX6_readOf := goodIn_r _ [9, 10] (by decide +kernel) (by decide +kernel)
set_option maxRecDepth 20000 in
theorem gX6_probes_X6_readOf : GoodIn wsX6_probes (va_wsS RX6 118 yX6_readOf wsX6_readOf) := goodIn_app (goodIn_of _ (by decide +kernel)) ggX6_probes_X6_readOf
theorem dX6_probes_0 : decode cX6_probes 0 = .ok (.bipush 85, 2) := by decide +kernel
theorem dX6_probes_2 : decode cX6_probes 2 = .ok (.iconst 3, 1) := by decide +kernel
theorem dX6_probes_3 : decode cX6_probes 3 = .ok (.aload_n 0, 1) := by decide +kernel
theorem dX6_probes_4 : decode cX6_probes 4 = .ok (.getfield 7, 3) := by decide +kernel
theorem dX6_probes_7 : decode cX6_probes 7 = .ok (.bipush 6, 2) := by decide +kernel
theorem dX6_probes_9 : decode cX6_probes 9 = .ok (.iaload, 1) := by decide +kernel
theorem dX6_probes_10 : decode cX6_probes 10 = .ok (.imul, 1) := by decide +kernel
theorem dX6_probes_11 : decode cX6_probes 11 = .ok (.iadd, 1) := by decide +kernel
theorem dX6_probes_12 : decode cX6_probes 12 = .ok (.istore_n 3, 1) := by decide +kernel
theorem dX6_probes_13 : decode cX6_probes 13 = .ok (.aload_n 0, 1) := by decide +kernel
theorem dX6_probes_14 : decode cX6_probes 14 = .ok (.getfield 7, 3) := by decide +kernel
theorem dX6_probes_17 : decode cX6_probes 17 = .ok (.iload_n 3, 1) := by decide +kernel
theorem dX6_probes_18 : decode cX6_probes 18 = .ok (.iconst 0, 1) := by decide +kernel
theorem dX6_probes_19 : decode cX6_probes 19 = .ok (.iadd, 1) := by decide +kernel
theorem dX6_probes_20 : decode cX6_probes 20 = .ok (.iload_n 1, 1) := by decide +kernel
theorem dX6_probes_21 : decode cX6_probes 21 = .ok (.iload_n 2, 1) := by decide +kernel
theorem dX6_probes_22 : decode cX6_probes 22 = .ok (.invokestatic 80, 3) := by decide +kernel
theorem dX6_probes_25 : decode cX6_probes 25 = .ok (.iastore, 1) := by decide +kernel
theorem dX6_probes_26 : decode cX6_probes 26 = .ok (.aload_n 0, 1) := by decide +kernel
theorem dX6_probes_27 : decode cX6_probes 27 = .ok (.getfield 7, 3) := by decide +kernel
theorem dX6_probes_30 : decode cX6_probes 30 = .ok (.iload_n 3, 1) := by decide +kernel
theorem dX6_probes_31 : decode cX6_probes 31 = .ok (.iconst 1, 1) := by decide +kernel
theorem dX6_probes_32 : decode cX6_probes 32 = .ok (.iadd, 1) := by decide +kernel
theorem dX6_probes_33 : decode cX6_probes 33 = .ok (.aload_n 0, 1) := by decide +kernel
theorem dX6_probes_34 : decode cX6_probes 34 = .ok (.getfield 13, 3) := by decide +kernel
theorem dX6_probes_37 : decode cX6_probes 37 = .ok (.iload_n 1, 1) := by decide +kernel
theorem dX6_probes_38 : decode cX6_probes 38 = .ok (.iload_n 2, 1) := by decide +kernel
theorem dX6_probes_39 : decode cX6_probes 39 = .ok (.invokestatic 80, 3) := by decide +kernel
theorem dX6_probes_42 : decode cX6_probes 42 = .ok (.faload, 1) := by decide +kernel
theorem dX6_probes_43 : decode cX6_probes 43 = .ok (.invokestatic 118, 3) := by decide +kernel
theorem dX6_probes_46 : decode cX6_probes 46 = .ok (.iastore, 1) := by decide +kernel
theorem dX6_probes_47 : decode cX6_probes 47 = .ok (.aload_n 0, 1) := by decide +kernel
theorem dX6_probes_48 : decode cX6_probes 48 = .ok (.getfield 7, 3) := by decide +kernel
theorem dX6_probes_51 : decode cX6_probes 51 = .ok (.iload_n 3, 1) := by decide +kernel
theorem dX6_probes_52 : decode cX6_probes 52 = .ok (.iconst 2, 1) := by decide +kernel
theorem dX6_probes_53 : decode cX6_probes 53 = .ok (.iadd, 1) := by decide +kernel
theorem dX6_probes_54 : decode cX6_probes 54 = .ok (.aload_n 0, 1) := by decide +kernel
theorem dX6_probes_55 : decode cX6_probes 55 = .ok (.getfield 7, 3) := by decide +kernel
theorem dX6_probes_58 : decode cX6_probes 58 = .ok (.iconst 4, 1) := by decide +kernel
theorem dX6_probes_59 : decode cX6_probes 59 = .ok (.iaload, 1) := by decide +kernel
theorem dX6_probes_60 : decode cX6_probes 60 = .ok (.iastore, 1) := by decide +kernel
theorem dX6_probes_61 : decode cX6_probes 61 = .ok (.aload_n 0, 1) := by decide +kernel
theorem dX6_probes_62 : decode cX6_probes 62 = .ok (.getfield 7, 3) := by decide +kernel
theorem dX6_probes_65 : decode cX6_probes 65 = .ok (.bipush 6, 2) := by decide +kernel
theorem dX6_probes_67 : decode cX6_probes 67 = .ok (.dup2, 1) := by decide +kernel
theorem dX6_probes_68 : decode cX6_probes 68 = .ok (.iaload, 1) := by decide +kernel
theorem dX6_probes_69 : decode cX6_probes 69 = .ok (.iconst 1, 1) := by decide +kernel
theorem dX6_probes_70 : decode cX6_probes 70 = .ok (.iadd, 1) := by decide +kernel
theorem dX6_probes_71 : decode cX6_probes 71 = .ok (.iastore, 1) := by decide +kernel
theorem dX6_probes_72 : decode cX6_probes 72 = .ok (.aload_n 0, 1) := by decide +kernel
theorem dX6_probes_73 : decode cX6_probes 73 = .ok (.getfield 7, 3) := by decide +kernel
theorem dX6_probes_76 : decode cX6_probes 76 = .ok (.iload_n 3, 1) := by decide +kernel
theorem dX6_probes_77 : decode cX6_probes 77 = .ok (.iconst 1, 1) := by decide +kernel
theorem dX6_probes_78 : decode cX6_probes 78 = .ok (.iadd, 1) := by decide +kernel
theorem dX6_probes_79 : decode cX6_probes 79 = .ok (.iaload, 1) := by decide +kernel
theorem dX6_probes_80 : decode cX6_probes 80 = .ok (.ireturn, 1) := by decide +kernel
set_option maxRecDepth 20000 in
theorem ggX6_probe_X6_whyNotProbed : GoodIn wsX6_probe wsX6_whyNotProbed := goodIn_r _ [5, 6, 7, 8, 4, 9, 10, 11, 12, 13, 14, 15, 41, 42, 43, 44, 45, 46, 47, 48, 49, 50, 51, 52, 53, 54, 55, 56, 57, 58, 59, 60, 61, 62, 63, 64, 65] (by decide +kernel) (by decide +kernel)
set_option maxRecDepth 20000 in
theorem gX6_probe_X6_whyNotProbed : GoodIn wsX6_probe (wsV RX6 193 RX6 yX6_whyNotProbed wsX6_whyNotProbed) := goodIn_app (goodIn_of _ (by decide +kernel)) ggX6_probe_X6_whyNotProbed
set_option maxRecDepth 20000 in
theorem ggX6_probe_X6_record : GoodIn wsX6_probe wsX6_record := goodIn_r _ [19, 20, 21, 22, 6, 23, 24, 25, 4, 26, 27, 28, 29, 41, 42, 43, 44, 45, 46, 47, 48, 49, 50, 51, 52, 53, 54, 55, 56, 57, 58, 59, 60, 61, 62, 63, 64, 65] (by decide +kernel) (by decide +kernel)
set_option maxRecDepth 20000 in
theorem gX6_probe_X6_record : GoodIn wsX6_probe (wsV RX6 150 RX6 yX6_record wsX6_record) := goodIn_app (goodIn_of _ (by decide +kernel)) ggX6_probe_X6_record
set_option maxRecDepth 20000 in
theorem ggX6_probe_X6_probes : GoodIn wsX6_probe wsX6_probes := goodIn_r _ [33, 6, 23, 34, 35, 4, 36, 37, 38, 39, 40, 41, 42, 43, 44, 45, 46, 47, 48, 49, 50, 51, 52, 53, 54, 55, 56, 57, 58, 59, 60, 61, 62, 63, 64, 65] (by decide +kernel) (by decide +kernel)
set_option maxRecDepth 20000 in
theorem gX6_probe_X6_probes : GoodIn wsX6_probe (wsV RX6 196 RX6 yX6_probes wsX6_probes) := goodIn_app (goodIn_of _ (by decide +kernel)) ggX6_probe_X6_probes
theorem dX6_probe_0 : decode cX6_probe 0 = .ok (.aload_n 0, 1) := by decide +kernel
theorem dX6_probe_1 : decode cX6_probe 1 = .ok (.iload_n 1, 1) := by decide +kernel
theorem dX6_probe_2 : decode cX6_probe 2 = .ok (.iload_n 2, 1) := by decide +kernel
theorem dX6_probe_3 : decode cX6_probe 3 = .ok (.invokevirtual 193, 3) := by decide +kernel
theorem dX6_probe_6 : decode cX6_probe 6 = .ok (.istore_n 3, 1) := by decide +kernel
theorem dX6_probe_7 : decode cX6_probe 7 = .ok (.iload_n 3, 1) := by decide +kernel
theorem dX6_probe_8 : decode cX6_probe 8 = .ok (.ifCond .ge 5, 3) := by decide +kernel
theorem dX6_probe_11 : decode cX6_probe 11 = .ok (.iload_n 3, 1) := by decide +kernel
theorem dX6_probe_12 : decode cX6_probe 12 = .ok (.ireturn, 1) := by decide +kernel
theorem dX6_probe_13 : decode cX6_probe 13 = .ok (.aload_n 0, 1) := by decide +kernel
theorem dX6_probe_14 : decode cX6_probe 14 = .ok (.invokevirtual 150, 3) := by decide +kernel
theorem dX6_probe_17 : decode cX6_probe 17 = .ok (.aload_n 0, 1) := by decide +kernel
theorem dX6_probe_18 : decode cX6_probe 18 = .ok (.iload_n 1, 1) := by decide +kernel
theorem dX6_probe_19 : decode cX6_probe 19 = .ok (.iload_n 2, 1) := by decide +kernel
theorem dX6_probe_20 : decode cX6_probe 20 = .ok (.invokevirtual 196, 3) := by decide +kernel
theorem dX6_probe_23 : decode cX6_probe 23 = .ok (.ireturn, 1) := by decide +kernel
set_option maxRecDepth 20000 in
theorem ggX6_at_X6_isPlace : GoodIn wsX6_at wsX6_isPlace := goodIn_r _ [7, 8, 9, 6, 10, 11, 12, 13] (by decide +kernel) (by decide +kernel)
set_option maxRecDepth 20000 in
theorem gX6_at_X6_isPlace : GoodIn wsX6_at (va_wsS RX6 76 yX6_isPlace wsX6_isPlace) := goodIn_app (goodIn_of _ (by decide +kernel)) ggX6_at_X6_isPlace
set_option maxRecDepth 20000 in
theorem ggX6_at_X6_placeOf : GoodIn wsX6_at wsX6_placeOf := goodIn_r _ [16] (by decide +kernel) (by decide +kernel)
set_option maxRecDepth 20000 in
theorem gX6_at_X6_placeOf : GoodIn wsX6_at (va_wsS RX6 80 yX6_placeOf wsX6_placeOf) := goodIn_app (goodIn_of _ (by decide +kernel)) ggX6_at_X6_placeOf
set_option maxRecDepth 20000 in
theorem ggX6_at_X6_netAt : GoodIn wsX6_at wsX6_netAt := goodIn_r _ [20, 21, 110, 111, 112, 113, 114, 115, 116, 117, 118, 119, 120, 121, 122, 123, 124, 125, 126, 127, 128, 129, 130, 131, 132, 133, 134] (by decide +kernel) (by decide +kernel)
set_option maxRecDepth 20000 in
theorem gX6_at_X6_netAt : GoodIn wsX6_at (wsV RX6 87 RX6 yX6_netAt wsX6_netAt) := goodIn_app (goodIn_of _ (by decide +kernel)) ggX6_at_X6_netAt
set_option maxRecDepth 20000 in
theorem ggX6_at_Jxf58ca_floatToIntBits_5c35a : GoodIn wsX6_at wsJxf58ca_floatToIntBits_5c35a := goodIn_r _ [25, 26, 27, 28, 29, 30, 31, 32, 24, 33] (by decide +kernel) (by decide +kernel)
set_option maxRecDepth 20000 in
theorem gX6_at_Jxf58ca_floatToIntBits_5c35a : GoodIn wsX6_at (va_wsS RX6 199 yJxf58ca_floatToIntBits_5c35a wsJxf58ca_floatToIntBits_5c35a) := goodIn_app (goodIn_of _ (by decide +kernel)) ggX6_at_Jxf58ca_floatToIntBits_5c35a
set_option maxRecDepth 20000 in
theorem ggX6_at_X6_readOf : GoodIn wsX6_at wsX6_readOf := goodIn_r _ [36, 37] (by decide +kernel) (by decide +kernel)
set_option maxRecDepth 20000 in
theorem gX6_at_X6_readOf : GoodIn wsX6_at (va_wsS RX6 118 yX6_readOf wsX6_readOf) := goodIn_app (goodIn_of _ (by decide +kernel)) ggX6_at_X6_readOf
set_option maxRecDepth 20000 in
theorem ggX6_at_X6_isSuspect : GoodIn wsX6_at wsX6_isSuspect := goodIn_r _ [41, 42, 43, 6, 44, 4, 5, 7, 8, 9, 10, 11, 12, 13, 14, 15, 16, 17, 18, 19, 20, 21, 45, 46, 47, 48, 110, 111, 112, 113, 114, 115, 116, 117, 118, 119, 120, 121, 122, 123, 124, 125, 126, 127, 128, 129, 130, 131, 132, 133, 134] (by decide +kernel) (by decide +kernel)
set_option maxRecDepth 20000 in
theorem gX6_at_X6_isSuspect : GoodIn wsX6_at (wsV RX6 126 RX6 yX6_isSuspect wsX6_isSuspect) := goodIn_app (goodIn_of _ (by decide +kernel)) ggX6_at_X6_isSuspect
set_option maxRecDepth 20000 in
theorem ggX6_at_X6_findSuspects : GoodIn wsX6_at wsX6_findSuspects := goodIn_r _ [52, 53, 2, 3, 38, 39, 40, 6, 41, 42, 43, 44, 4, 5, 7, 8, 9, 10, 11, 12, 13, 14, 15, 16, 17, 18, 19, 20, 21, 45, 46, 47, 48, 54, 55, 56, 57, 58, 59, 60, 61, 62, 63, 64, 65, 66, 67, 68, 69, 70, 71, 72, 73, 74, 75, 76, 77, 78, 79, 80, 81, 82, 83, 84, 85, 86, 87, 88, 89, 90, 91, 92, 93, 94, 95, 96, 97, 98, 99, 100, 34, 35, 36, 37, 110, 111, 112, 113, 114, 115, 116, 117, 118, 119, 120, 121, 122, 123, 124, 125, 126, 127, 128, 129, 130, 131, 132, 133, 134] (by decide +kernel) (by decide +kernel)
set_option maxRecDepth 20000 in
theorem gX6_at_X6_findSuspects : GoodIn wsX6_at (wsV RX6 135 RX6 yX6_findSuspects wsX6_findSuspects) := goodIn_app (goodIn_of _ (by decide +kernel)) ggX6_at_X6_findSuspects
set_option maxRecDepth 20000 in
theorem ggX6_at_X6_findPairs : GoodIn wsX6_at wsX6_findPairs := goodIn_r _ [104, 105, 53, 3, 49, 50, 51, 6, 52, 2, 38, 39, 40, 41, 42, 43, 44, 4, 5, 7, 8, 9, 10, 11, 12, 13, 14, 15, 16, 17, 18, 19, 20, 21, 45, 46, 47, 48, 54, 55, 56, 57, 58, 59, 60, 61, 62, 63, 64, 65, 66, 67, 68, 69, 70, 71, 72, 73, 74, 75, 76, 77, 78, 79, 80, 81, 82, 83, 84, 85, 86, 87, 88, 89, 90, 91, 92, 93, 94, 95, 96, 97, 98, 99, 100, 34, 35, 36, 37, 106, 107, 108, 109, 110, 111, 112, 113, 114, 115, 116, 117, 118, 119, 120, 121, 122, 123, 124, 125, 126, 127, 128, 129, 130, 131, 132, 133, 134] (by decide +kernel) (by decide +kernel)
set_option maxRecDepth 20000 in
theorem gX6_at_X6_findPairs : GoodIn wsX6_at (wsV RX6 144 RX6 yX6_findPairs wsX6_findPairs) := goodIn_app (goodIn_of _ (by decide +kernel)) ggX6_at_X6_findPairs
set_option maxRecDepth 20000 in
theorem ggX6_at_X6_touchAt : GoodIn wsX6_at wsX6_touchAt := goodIn_r _ [81, 21, 82, 83, 84, 6, 85, 110, 111, 112, 113, 114, 115, 116, 117, 118, 119, 120, 121, 122, 123, 124, 125, 126, 127, 128, 129, 130, 131, 132, 133, 134] (by decide +kernel) (by decide +kernel)
set_option maxRecDepth 20000 in
theorem gX6_at_X6_touchAt : GoodIn wsX6_at (wsV RX6 97 RX6 yX6_touchAt wsX6_touchAt) := goodIn_app (goodIn_of _ (by decide +kernel)) ggX6_at_X6_touchAt
theorem dX6_at_0 : decode cX6_at 0 = .ok (.iload_n 1, 1) := by decide +kernel
theorem dX6_at_1 : decode cX6_at 1 = .ok (.iload_n 2, 1) := by decide +kernel
theorem dX6_at_2 : decode cX6_at 2 = .ok (.invokestatic 76, 3) := by decide +kernel
theorem dX6_at_5 : decode cX6_at 5 = .ok (.ifCond .ne 5, 3) := by decide +kernel
theorem dX6_at_8 : decode cX6_at 8 = .ok (.iconst (-1), 1) := by decide +kernel
theorem dX6_at_9 : decode cX6_at 9 = .ok (.ireturn, 1) := by decide +kernel
theorem dX6_at_10 : decode cX6_at 10 = .ok (.iload_n 1, 1) := by decide +kernel
theorem dX6_at_11 : decode cX6_at 11 = .ok (.iload_n 2, 1) := by decide +kernel
theorem dX6_at_12 : decode cX6_at 12 = .ok (.invokestatic 80, 3) := by decide +kernel
theorem dX6_at_15 : decode cX6_at 15 = .ok (.istore 4, 2) := by decide +kernel
theorem dX6_at_17 : decode cX6_at 17 = .ok (.iload_n 3, 1) := by decide +kernel
theorem dX6_at_18 : decode cX6_at 18 = .ok (.tableswitch 117 0 6 #[42, 49, 60, 71, 86, 98, 110], 42) := by decide +kernel
theorem dX6_at_60 : decode cX6_at 60 = .ok (.aload_n 0, 1) := by decide +kernel
theorem dX6_at_61 : decode cX6_at 61 = .ok (.iload 4, 2) := by decide +kernel
theorem dX6_at_63 : decode cX6_at 63 = .ok (.invokevirtual 87, 3) := by decide +kernel
theorem dX6_at_66 : decode cX6_at 66 = .ok (.ireturn, 1) := by decide +kernel
theorem dX6_at_67 : decode cX6_at 67 = .ok (.aload_n 0, 1) := by decide +kernel
theorem dX6_at_68 : decode cX6_at 68 = .ok (.getfield 13, 3) := by decide +kernel
theorem dX6_at_71 : decode cX6_at 71 = .ok (.iload 4, 2) := by decide +kernel
theorem dX6_at_73 : decode cX6_at 73 = .ok (.faload, 1) := by decide +kernel
theorem dX6_at_74 : decode cX6_at 74 = .ok (.invokestatic 199, 3) := by decide +kernel
theorem dX6_at_77 : decode cX6_at 77 = .ok (.ireturn, 1) := by decide +kernel
theorem dX6_at_78 : decode cX6_at 78 = .ok (.aload_n 0, 1) := by decide +kernel
theorem dX6_at_79 : decode cX6_at 79 = .ok (.getfield 13, 3) := by decide +kernel
theorem dX6_at_82 : decode cX6_at 82 = .ok (.iload 4, 2) := by decide +kernel
theorem dX6_at_84 : decode cX6_at 84 = .ok (.faload, 1) := by decide +kernel
theorem dX6_at_85 : decode cX6_at 85 = .ok (.invokestatic 118, 3) := by decide +kernel
theorem dX6_at_88 : decode cX6_at 88 = .ok (.ireturn, 1) := by decide +kernel
theorem dX6_at_89 : decode cX6_at 89 = .ok (.aload_n 0, 1) := by decide +kernel
theorem dX6_at_90 : decode cX6_at 90 = .ok (.iload 4, 2) := by decide +kernel
theorem dX6_at_92 : decode cX6_at 92 = .ok (.invokevirtual 126, 3) := by decide +kernel
theorem dX6_at_95 : decode cX6_at 95 = .ok (.ifCond .eq 7, 3) := by decide +kernel
theorem dX6_at_98 : decode cX6_at 98 = .ok (.iconst 1, 1) := by decide +kernel
theorem dX6_at_99 : decode cX6_at 99 = .ok (.goto 4, 3) := by decide +kernel
theorem dX6_at_102 : decode cX6_at 102 = .ok (.iconst 0, 1) := by decide +kernel
theorem dX6_at_103 : decode cX6_at 103 = .ok (.ireturn, 1) := by decide +kernel
theorem dX6_at_104 : decode cX6_at 104 = .ok (.aload_n 0, 1) := by decide +kernel
theorem dX6_at_105 : decode cX6_at 105 = .ok (.invokevirtual 135, 3) := by decide +kernel
theorem dX6_at_108 : decode cX6_at 108 = .ok (.aload_n 0, 1) := by decide +kernel
theorem dX6_at_109 : decode cX6_at 109 = .ok (.getfield 47, 3) := by decide +kernel
theorem dX6_at_112 : decode cX6_at 112 = .ok (.iload 4, 2) := by decide +kernel
theorem dX6_at_114 : decode cX6_at 114 = .ok (.iaload, 1) := by decide +kernel
theorem dX6_at_115 : decode cX6_at 115 = .ok (.ireturn, 1) := by decide +kernel
theorem dX6_at_116 : decode cX6_at 116 = .ok (.aload_n 0, 1) := by decide +kernel
theorem dX6_at_117 : decode cX6_at 117 = .ok (.invokevirtual 144, 3) := by decide +kernel
theorem dX6_at_120 : decode cX6_at 120 = .ok (.aload_n 0, 1) := by decide +kernel
theorem dX6_at_121 : decode cX6_at 121 = .ok (.getfield 50, 3) := by decide +kernel
theorem dX6_at_124 : decode cX6_at 124 = .ok (.iload 4, 2) := by decide +kernel
theorem dX6_at_126 : decode cX6_at 126 = .ok (.iaload, 1) := by decide +kernel
theorem dX6_at_127 : decode cX6_at 127 = .ok (.ireturn, 1) := by decide +kernel
theorem dX6_at_128 : decode cX6_at 128 = .ok (.aload_n 0, 1) := by decide +kernel
theorem dX6_at_129 : decode cX6_at 129 = .ok (.iload 4, 2) := by decide +kernel
theorem dX6_at_131 : decode cX6_at 131 = .ok (.invokevirtual 97, 3) := by decide +kernel
theorem dX6_at_134 : decode cX6_at 134 = .ok (.ireturn, 1) := by decide +kernel
theorem dX6_at_135 : decode cX6_at 135 = .ok (.bipush (-2), 2) := by decide +kernel
theorem dX6_at_137 : decode cX6_at 137 = .ok (.ireturn, 1) := by decide +kernel
set_option maxRecDepth 20000 in
theorem ggX6_row_X6_isOnSide : GoodIn wsX6_row wsX6_isOnSide := goodIn_r _ [6, 7, 8, 5, 9] (by decide +kernel) (by decide +kernel)
set_option maxRecDepth 20000 in
theorem gX6_row_X6_isOnSide : GoodIn wsX6_row (va_wsS RX6 72 yX6_isOnSide wsX6_isOnSide) := goodIn_app (goodIn_of _ (by decide +kernel)) ggX6_row_X6_isOnSide
set_option maxRecDepth 20000 in
theorem ggX6_row_X6_within : GoodIn wsX6_row wsX6_within := goodIn_r _ [9] (by decide +kernel) (by decide +kernel)
set_option maxRecDepth 20000 in
theorem gX6_row_X6_within : GoodIn wsX6_row (va_wsS RX6 68 yX6_within wsX6_within) := goodIn_app (goodIn_of _ (by decide +kernel)) ggX6_row_X6_within
set_option maxRecDepth 20000 in
theorem ggX6_row_X6_findSuspects : GoodIn wsX6_row wsX6_findSuspects := goodIn_r _ [13, 1, 2, 14, 15, 16, 17, 5, 18, 19, 20, 21, 22, 23, 24, 3, 4, 6, 7, 8, 9, 25, 26, 27, 28, 29, 30, 31, 32, 33, 34, 35, 36, 37, 38, 39, 40, 41, 42, 43, 44, 45, 46, 47, 48, 49, 50, 51, 52, 53, 54, 55, 56, 57, 58, 59, 60, 61, 62, 63, 64, 65, 66, 67, 68, 69, 70, 71, 72, 73, 74, 75, 76, 77, 78, 79, 80, 81, 82, 83, 84, 85, 86, 87, 88, 89, 90, 91, 92, 93, 94, 95, 96, 97, 98, 99, 100, 101, 102, 103, 104, 105, 106, 107, 108, 109, 110, 111, 112] (by decide +kernel) (by decide +kernel)
set_option maxRecDepth 20000 in
theorem gX6_row_X6_findSuspects : GoodIn wsX6_row (wsV RX6 135 RX6 yX6_findSuspects wsX6_findSuspects) := goodIn_app (goodIn_of _ (by decide +kernel)) ggX6_row_X6_findSuspects
set_option maxRecDepth 20000 in
theorem ggX6_row_X6_placeOf : GoodIn wsX6_row wsX6_placeOf := goodIn_r _ [27] (by decide +kernel) (by decide +kernel)
set_option maxRecDepth 20000 in
theorem gX6_row_X6_placeOf : GoodIn wsX6_row (va_wsS RX6 80 yX6_placeOf wsX6_placeOf) := goodIn_app (goodIn_of _ (by decide +kernel)) ggX6_row_X6_placeOf
set_option maxRecDepth 20000 in
theorem ggX6_row_X6_netAt : GoodIn wsX6_row wsX6_netAt := goodIn_r _ [31, 32, 88, 89, 90, 91, 92, 93, 94, 95, 96, 97, 98, 99, 100, 101, 102, 103, 104, 105, 106, 107, 108, 109, 110, 111, 112] (by decide +kernel) (by decide +kernel)
set_option maxRecDepth 20000 in
theorem gX6_row_X6_netAt : GoodIn wsX6_row (wsV RX6 87 RX6 yX6_netAt wsX6_netAt) := goodIn_app (goodIn_of _ (by decide +kernel)) ggX6_row_X6_netAt
theorem dX6_row_0 : decode cX6_row 0 = .ok (.iload_n 1, 1) := by decide +kernel
theorem dX6_row_1 : decode cX6_row 1 = .ok (.invokestatic 72, 3) := by decide +kernel
theorem dX6_row_4 : decode cX6_row 4 = .ok (.ifCond .ne 5, 3) := by decide +kernel
theorem dX6_row_7 : decode cX6_row 7 = .ok (.iconst (-1), 1) := by decide +kernel
theorem dX6_row_8 : decode cX6_row 8 = .ok (.ireturn, 1) := by decide +kernel
theorem dX6_row_9 : decode cX6_row 9 = .ok (.iload_n 2, 1) := by decide +kernel
theorem dX6_row_10 : decode cX6_row 10 = .ok (.iconst 0, 1) := by decide +kernel
theorem dX6_row_11 : decode cX6_row 11 = .ok (.iconst 2, 1) := by decide +kernel
theorem dX6_row_12 : decode cX6_row 12 = .ok (.invokestatic 68, 3) := by decide +kernel
theorem dX6_row_15 : decode cX6_row 15 = .ok (.ifCond .ne 6, 3) := by decide +kernel
theorem dX6_row_18 : decode cX6_row 18 = .ok (.bipush (-2), 2) := by decide +kernel
theorem dX6_row_20 : decode cX6_row 20 = .ok (.ireturn, 1) := by decide +kernel
theorem dX6_row_21 : decode cX6_row 21 = .ok (.aload_n 0, 1) := by decide +kernel
theorem dX6_row_22 : decode cX6_row 22 = .ok (.invokevirtual 135, 3) := by decide +kernel
theorem dX6_row_25 : decode cX6_row 25 = .ok (.iconst 0, 1) := by decide +kernel
theorem dX6_row_26 : decode cX6_row 26 = .ok (.istore_n 3, 1) := by decide +kernel
theorem dX6_row_27 : decode cX6_row 27 = .ok (.iconst 0, 1) := by decide +kernel
theorem dX6_row_28 : decode cX6_row 28 = .ok (.istore 4, 2) := by decide +kernel
theorem dX6_row_30 : decode cX6_row 30 = .ok (.iload 4, 2) := by decide +kernel
theorem dX6_row_32 : decode cX6_row 32 = .ok (.bipush 8, 2) := by decide +kernel
theorem dX6_row_34 : decode cX6_row 34 = .ok (.if_icmp .ge 70, 3) := by decide +kernel
theorem dX6_row_37 : decode cX6_row 37 = .ok (.iload_n 1, 1) := by decide +kernel
theorem dX6_row_38 : decode cX6_row 38 = .ok (.iload 4, 2) := by decide +kernel
theorem dX6_row_40 : decode cX6_row 40 = .ok (.invokestatic 80, 3) := by decide +kernel
theorem dX6_row_43 : decode cX6_row 43 = .ok (.istore 5, 2) := by decide +kernel
theorem dX6_row_45 : decode cX6_row 45 = .ok (.iload_n 2, 1) := by decide +kernel
theorem dX6_row_46 : decode cX6_row 46 = .ok (.ifCond .ne 20, 3) := by decide +kernel
theorem dX6_row_49 : decode cX6_row 49 = .ok (.aload_n 0, 1) := by decide +kernel
theorem dX6_row_50 : decode cX6_row 50 = .ok (.iload 5, 2) := by decide +kernel
theorem dX6_row_52 : decode cX6_row 52 = .ok (.invokevirtual 87, 3) := by decide +kernel
theorem dX6_row_55 : decode cX6_row 55 = .ok (.ifCond .le 7, 3) := by decide +kernel
theorem dX6_row_58 : decode cX6_row 58 = .ok (.iconst 1, 1) := by decide +kernel
theorem dX6_row_59 : decode cX6_row 59 = .ok (.goto 29, 3) := by decide +kernel
theorem dX6_row_62 : decode cX6_row 62 = .ok (.iconst 0, 1) := by decide +kernel
theorem dX6_row_63 : decode cX6_row 63 = .ok (.goto 25, 3) := by decide +kernel
theorem dX6_row_66 : decode cX6_row 66 = .ok (.iload_n 2, 1) := by decide +kernel
theorem dX6_row_67 : decode cX6_row 67 = .ok (.iconst 1, 1) := by decide +kernel
theorem dX6_row_68 : decode cX6_row 68 = .ok (.if_icmp .ne 13, 3) := by decide +kernel
theorem dX6_row_71 : decode cX6_row 71 = .ok (.aload_n 0, 1) := by decide +kernel
theorem dX6_row_72 : decode cX6_row 72 = .ok (.getfield 44, 3) := by decide +kernel
theorem dX6_row_75 : decode cX6_row 75 = .ok (.iload 5, 2) := by decide +kernel
theorem dX6_row_77 : decode cX6_row 77 = .ok (.iaload, 1) := by decide +kernel
theorem dX6_row_78 : decode cX6_row 78 = .ok (.goto 10, 3) := by decide +kernel
theorem dX6_row_81 : decode cX6_row 81 = .ok (.aload_n 0, 1) := by decide +kernel
theorem dX6_row_82 : decode cX6_row 82 = .ok (.getfield 47, 3) := by decide +kernel
theorem dX6_row_85 : decode cX6_row 85 = .ok (.iload 5, 2) := by decide +kernel
theorem dX6_row_87 : decode cX6_row 87 = .ok (.iaload, 1) := by decide +kernel
theorem dX6_row_88 : decode cX6_row 88 = .ok (.istore 6, 2) := by decide +kernel
theorem dX6_row_90 : decode cX6_row 90 = .ok (.iload_n 3, 1) := by decide +kernel
theorem dX6_row_91 : decode cX6_row 91 = .ok (.iload 6, 2) := by decide +kernel
theorem dX6_row_93 : decode cX6_row 93 = .ok (.iload 4, 2) := by decide +kernel
theorem dX6_row_95 : decode cX6_row 95 = .ok (.ishl, 1) := by decide +kernel
theorem dX6_row_96 : decode cX6_row 96 = .ok (.ior, 1) := by decide +kernel
theorem dX6_row_97 : decode cX6_row 97 = .ok (.istore_n 3, 1) := by decide +kernel
theorem dX6_row_98 : decode cX6_row 98 = .ok (.iinc 4 1, 3) := by decide +kernel
theorem dX6_row_101 : decode cX6_row 101 = .ok (.goto (-71), 3) := by decide +kernel
theorem dX6_row_104 : decode cX6_row 104 = .ok (.iload_n 3, 1) := by decide +kernel
theorem dX6_row_105 : decode cX6_row 105 = .ok (.ireturn, 1) := by decide +kernel
set_option maxRecDepth 20000 in
theorem ggX6_ofTouch_X6_isTouch : GoodIn wsX6_ofTouch wsX6_isTouch := goodIn_r _ [5, 6, 7, 8, 4, 9, 26, 27, 28, 29, 30, 31, 32, 33, 34, 35, 36, 37, 38, 39, 40, 41, 42, 43, 44, 45, 46, 47, 48, 49, 50] (by decide +kernel) (by decide +kernel)
set_option maxRecDepth 20000 in
theorem gX6_ofTouch_X6_isTouch : GoodIn wsX6_ofTouch (wsV RX6 175 RX6 yX6_isTouch wsX6_isTouch) := goodIn_app (goodIn_of _ (by decide +kernel)) ggX6_ofTouch_X6_isTouch
set_option maxRecDepth 20000 in
theorem ggX6_ofTouch_X6_touchPart : GoodIn wsX6_ofTouch wsX6_touchPart := goodIn_r _ [13, 6, 26, 27, 28, 29, 30, 31, 32, 33, 34, 35, 36, 37, 38, 39, 40, 41, 42, 43, 44, 45, 46, 47, 48, 49, 50] (by decide +kernel) (by decide +kernel)
set_option maxRecDepth 20000 in
theorem gX6_ofTouch_X6_touchPart : GoodIn wsX6_ofTouch (wsV RX6 84 RX6 yX6_touchPart wsX6_touchPart) := goodIn_app (goodIn_of _ (by decide +kernel)) ggX6_ofTouch_X6_touchPart
set_option maxRecDepth 20000 in
theorem ggX6_ofTouch_X6_netAt : GoodIn wsX6_ofTouch wsX6_netAt := goodIn_r _ [17, 6, 26, 27, 28, 29, 30, 31, 32, 33, 34, 35, 36, 37, 38, 39, 40, 41, 42, 43, 44, 45, 46, 47, 48, 49, 50] (by decide +kernel) (by decide +kernel)
set_option maxRecDepth 20000 in
theorem gX6_ofTouch_X6_netAt : GoodIn wsX6_ofTouch (wsV RX6 87 RX6 yX6_netAt wsX6_netAt) := goodIn_app (goodIn_of _ (by decide +kernel)) ggX6_ofTouch_X6_netAt
set_option maxRecDepth 20000 in
theorem ggX6_ofTouch_X6_isLive : GoodIn wsX6_ofTouch wsX6_isLive := goodIn_r _ [21, 10, 11, 12, 4, 13, 6, 14, 15, 16, 17, 22, 23, 24, 25, 26, 27, 28, 29, 30, 31, 32, 33, 34, 35, 36, 37, 38, 39, 40, 41, 42, 43, 44, 45, 46, 47, 48, 49, 50] (by decide +kernel) (by decide +kernel)
set_option maxRecDepth 20000 in
theorem gX6_ofTouch_X6_isLive : GoodIn wsX6_ofTouch (wsV RX6 100 RX6 yX6_isLive wsX6_isLive) := goodIn_app (goodIn_of _ (by decide +kernel)) ggX6_ofTouch_X6_isLive
theorem dX6_ofTouch_0 : decode cX6_ofTouch 0 = .ok (.aload_n 0, 1) := by decide +kernel
theorem dX6_ofTouch_1 : decode cX6_ofTouch 1 = .ok (.iload_n 1, 1) := by decide +kernel
theorem dX6_ofTouch_2 : decode cX6_ofTouch 2 = .ok (.invokevirtual 175, 3) := by decide +kernel
theorem dX6_ofTouch_5 : decode cX6_ofTouch 5 = .ok (.ifCond .ne 5, 3) := by decide +kernel
theorem dX6_ofTouch_8 : decode cX6_ofTouch 8 = .ok (.iconst (-1), 1) := by decide +kernel
theorem dX6_ofTouch_9 : decode cX6_ofTouch 9 = .ok (.ireturn, 1) := by decide +kernel
theorem dX6_ofTouch_10 : decode cX6_ofTouch 10 = .ok (.iload_n 2, 1) := by decide +kernel
theorem dX6_ofTouch_11 : decode cX6_ofTouch 11 = .ok (.tableswitch 68 0 3 #[29, 36, 47, 54], 29) := by decide +kernel
theorem dX6_ofTouch_40 : decode cX6_ofTouch 40 = .ok (.aload_n 0, 1) := by decide +kernel
theorem dX6_ofTouch_41 : decode cX6_ofTouch 41 = .ok (.iload_n 1, 1) := by decide +kernel
theorem dX6_ofTouch_42 : decode cX6_ofTouch 42 = .ok (.iconst 0, 1) := by decide +kernel
theorem dX6_ofTouch_43 : decode cX6_ofTouch 43 = .ok (.invokevirtual 84, 3) := by decide +kernel
theorem dX6_ofTouch_46 : decode cX6_ofTouch 46 = .ok (.ireturn, 1) := by decide +kernel
theorem dX6_ofTouch_47 : decode cX6_ofTouch 47 = .ok (.aload_n 0, 1) := by decide +kernel
theorem dX6_ofTouch_48 : decode cX6_ofTouch 48 = .ok (.aload_n 0, 1) := by decide +kernel
theorem dX6_ofTouch_49 : decode cX6_ofTouch 49 = .ok (.iload_n 1, 1) := by decide +kernel
theorem dX6_ofTouch_50 : decode cX6_ofTouch 50 = .ok (.iconst 0, 1) := by decide +kernel
theorem dX6_ofTouch_51 : decode cX6_ofTouch 51 = .ok (.invokevirtual 84, 3) := by decide +kernel
theorem dX6_ofTouch_54 : decode cX6_ofTouch 54 = .ok (.invokevirtual 87, 3) := by decide +kernel
theorem dX6_ofTouch_57 : decode cX6_ofTouch 57 = .ok (.ireturn, 1) := by decide +kernel
theorem dX6_ofTouch_58 : decode cX6_ofTouch 58 = .ok (.aload_n 0, 1) := by decide +kernel
theorem dX6_ofTouch_59 : decode cX6_ofTouch 59 = .ok (.iload_n 1, 1) := by decide +kernel
theorem dX6_ofTouch_60 : decode cX6_ofTouch 60 = .ok (.iconst 1, 1) := by decide +kernel
theorem dX6_ofTouch_61 : decode cX6_ofTouch 61 = .ok (.invokevirtual 84, 3) := by decide +kernel
theorem dX6_ofTouch_64 : decode cX6_ofTouch 64 = .ok (.ireturn, 1) := by decide +kernel
theorem dX6_ofTouch_65 : decode cX6_ofTouch 65 = .ok (.aload_n 0, 1) := by decide +kernel
theorem dX6_ofTouch_66 : decode cX6_ofTouch 66 = .ok (.iload_n 1, 1) := by decide +kernel
theorem dX6_ofTouch_67 : decode cX6_ofTouch 67 = .ok (.invokevirtual 100, 3) := by decide +kernel
theorem dX6_ofTouch_70 : decode cX6_ofTouch 70 = .ok (.ifCond .eq 7, 3) := by decide +kernel
theorem dX6_ofTouch_73 : decode cX6_ofTouch 73 = .ok (.iconst 1, 1) := by decide +kernel
theorem dX6_ofTouch_74 : decode cX6_ofTouch 74 = .ok (.goto 4, 3) := by decide +kernel
theorem dX6_ofTouch_77 : decode cX6_ofTouch 77 = .ok (.iconst 0, 1) := by decide +kernel
theorem dX6_ofTouch_78 : decode cX6_ofTouch 78 = .ok (.ireturn, 1) := by decide +kernel
theorem dX6_ofTouch_79 : decode cX6_ofTouch 79 = .ok (.bipush (-2), 2) := by decide +kernel
theorem dX6_ofTouch_81 : decode cX6_ofTouch 81 = .ok (.ireturn, 1) := by decide +kernel
set_option maxRecDepth 20000 in
theorem ggX6_reading_X6_within : GoodIn wsX6_reading wsX6_within := goodIn_r _ [5] (by decide +kernel) (by decide +kernel)
set_option maxRecDepth 20000 in
theorem gX6_reading_X6_within : GoodIn wsX6_reading (va_wsS RX6 68 yX6_within wsX6_within) := goodIn_app (goodIn_of _ (by decide +kernel)) ggX6_reading_X6_within
set_option maxRecDepth 20000 in
theorem ggX6_reading_X6_readingPart : GoodIn wsX6_reading wsX6_readingPart := goodIn_r _ [9, 1, 10, 11, 12, 13, 14, 15, 16, 17, 18, 19, 20, 21, 22, 23, 24, 25, 26, 27, 28, 29, 30, 31, 32, 33, 34] (by decide +kernel) (by decide +kernel)
set_option maxRecDepth 20000 in
theorem gX6_reading_X6_readingPart : GoodIn wsX6_reading (wsV RX6 115 RX6 yX6_readingPart wsX6_readingPart) := goodIn_app (goodIn_of _ (by decide +kernel)) ggX6_reading_X6_readingPart
theorem dX6_reading_0 : decode cX6_reading 0 = .ok (.iload_n 1, 1) := by decide +kernel
theorem dX6_reading_1 : decode cX6_reading 1 = .ok (.iconst 0, 1) := by decide +kernel
theorem dX6_reading_2 : decode cX6_reading 2 = .ok (.aload_n 0, 1) := by decide +kernel
theorem dX6_reading_3 : decode cX6_reading 3 = .ok (.getfield 7, 3) := by decide +kernel
theorem dX6_reading_6 : decode cX6_reading 6 = .ok (.bipush 6, 2) := by decide +kernel
theorem dX6_reading_8 : decode cX6_reading 8 = .ok (.iaload, 1) := by decide +kernel
theorem dX6_reading_9 : decode cX6_reading 9 = .ok (.iconst 1, 1) := by decide +kernel
theorem dX6_reading_10 : decode cX6_reading 10 = .ok (.isub, 1) := by decide +kernel
theorem dX6_reading_11 : decode cX6_reading 11 = .ok (.invokestatic 68, 3) := by decide +kernel
theorem dX6_reading_14 : decode cX6_reading 14 = .ok (.ifCond .ne 5, 3) := by decide +kernel
theorem dX6_reading_17 : decode cX6_reading 17 = .ok (.iconst (-1), 1) := by decide +kernel
theorem dX6_reading_18 : decode cX6_reading 18 = .ok (.ireturn, 1) := by decide +kernel
theorem dX6_reading_19 : decode cX6_reading 19 = .ok (.iload_n 2, 1) := by decide +kernel
theorem dX6_reading_20 : decode cX6_reading 20 = .ok (.iconst 0, 1) := by decide +kernel
theorem dX6_reading_21 : decode cX6_reading 21 = .ok (.iconst 2, 1) := by decide +kernel
theorem dX6_reading_22 : decode cX6_reading 22 = .ok (.invokestatic 68, 3) := by decide +kernel
theorem dX6_reading_25 : decode cX6_reading 25 = .ok (.ifCond .eq 12, 3) := by decide +kernel
theorem dX6_reading_28 : decode cX6_reading 28 = .ok (.aload_n 0, 1) := by decide +kernel
theorem dX6_reading_29 : decode cX6_reading 29 = .ok (.iload_n 1, 1) := by decide +kernel
theorem dX6_reading_30 : decode cX6_reading 30 = .ok (.iload_n 2, 1) := by decide +kernel
theorem dX6_reading_31 : decode cX6_reading 31 = .ok (.invokevirtual 115, 3) := by decide +kernel
theorem dX6_reading_34 : decode cX6_reading 34 = .ok (.goto 5, 3) := by decide +kernel
theorem dX6_reading_37 : decode cX6_reading 37 = .ok (.bipush (-2), 2) := by decide +kernel
theorem dX6_reading_39 : decode cX6_reading 39 = .ok (.ireturn, 1) := by decide +kernel
set_option maxRecDepth 20000 in
theorem ggX6_ofNet_X6_isNet : GoodIn wsX6_ofNet wsX6_isNet := goodIn_r _ [6, 7, 8, 5, 9] (by decide +kernel) (by decide +kernel)
set_option maxRecDepth 20000 in
theorem gX6_ofNet_X6_isNet : GoodIn wsX6_ofNet (va_wsS RX6 163 yX6_isNet wsX6_isNet) := goodIn_app (goodIn_of _ (by decide +kernel)) ggX6_ofNet_X6_isNet
set_option maxRecDepth 20000 in
theorem ggX6_ofNet_X6_netAt : GoodIn wsX6_ofNet wsX6_netAt := goodIn_r _ [13, 2, 26, 27, 28, 29, 30, 31, 32, 33, 34, 35, 36, 37, 38, 39, 40, 41, 42, 43, 44, 45, 46, 47, 48, 49, 50] (by decide +kernel) (by decide +kernel)
set_option maxRecDepth 20000 in
theorem gX6_ofNet_X6_netAt : GoodIn wsX6_ofNet (wsV RX6 87 RX6 yX6_netAt wsX6_netAt) := goodIn_app (goodIn_of _ (by decide +kernel)) ggX6_ofNet_X6_netAt
set_option maxRecDepth 20000 in
theorem ggX6_ofNet_Jxf58ca_floatToIntBits_5c35a : GoodIn wsX6_ofNet wsJxf58ca_floatToIntBits_5c35a := goodIn_r _ [17, 18, 19, 20, 21, 22, 23, 24, 16, 25] (by decide +kernel) (by decide +kernel)
set_option maxRecDepth 20000 in
theorem gX6_ofNet_Jxf58ca_floatToIntBits_5c35a : GoodIn wsX6_ofNet (va_wsS RX6 199 yJxf58ca_floatToIntBits_5c35a wsJxf58ca_floatToIntBits_5c35a) := goodIn_app (goodIn_of _ (by decide +kernel)) ggX6_ofNet_Jxf58ca_floatToIntBits_5c35a
theorem dX6_ofNet_0 : decode cX6_ofNet 0 = .ok (.iload_n 1, 1) := by decide +kernel
theorem dX6_ofNet_1 : decode cX6_ofNet 1 = .ok (.invokestatic 163, 3) := by decide +kernel
theorem dX6_ofNet_4 : decode cX6_ofNet 4 = .ok (.ifCond .ne 5, 3) := by decide +kernel
theorem dX6_ofNet_7 : decode cX6_ofNet 7 = .ok (.iconst (-1), 1) := by decide +kernel
theorem dX6_ofNet_8 : decode cX6_ofNet 8 = .ok (.ireturn, 1) := by decide +kernel
theorem dX6_ofNet_9 : decode cX6_ofNet 9 = .ok (.iconst 0, 1) := by decide +kernel
theorem dX6_ofNet_10 : decode cX6_ofNet 10 = .ok (.istore_n 3, 1) := by decide +kernel
theorem dX6_ofNet_11 : decode cX6_ofNet 11 = .ok (.fconst 0, 1) := by decide +kernel
theorem dX6_ofNet_12 : decode cX6_ofNet 12 = .ok (.fstore 4, 2) := by decide +kernel
theorem dX6_ofNet_14 : decode cX6_ofNet 14 = .ok (.iconst 0, 1) := by decide +kernel
theorem dX6_ofNet_15 : decode cX6_ofNet 15 = .ok (.istore 5, 2) := by decide +kernel
theorem dX6_ofNet_17 : decode cX6_ofNet 17 = .ok (.iload 5, 2) := by decide +kernel
theorem dX6_ofNet_19 : decode cX6_ofNet 19 = .ok (.bipush 64, 2) := by decide +kernel
theorem dX6_ofNet_21 : decode cX6_ofNet 21 = .ok (.if_icmp .ge 34, 3) := by decide +kernel
theorem dX6_ofNet_24 : decode cX6_ofNet 24 = .ok (.aload_n 0, 1) := by decide +kernel
theorem dX6_ofNet_25 : decode cX6_ofNet 25 = .ok (.iload 5, 2) := by decide +kernel
theorem dX6_ofNet_27 : decode cX6_ofNet 27 = .ok (.invokevirtual 87, 3) := by decide +kernel
theorem dX6_ofNet_30 : decode cX6_ofNet 30 = .ok (.iload_n 1, 1) := by decide +kernel
theorem dX6_ofNet_31 : decode cX6_ofNet 31 = .ok (.if_icmp .ne 18, 3) := by decide +kernel
theorem dX6_ofNet_34 : decode cX6_ofNet 34 = .ok (.iinc 3 1, 3) := by decide +kernel
theorem dX6_ofNet_37 : decode cX6_ofNet 37 = .ok (.fload 4, 2) := by decide +kernel
theorem dX6_ofNet_39 : decode cX6_ofNet 39 = .ok (.aload_n 0, 1) := by decide +kernel
theorem dX6_ofNet_40 : decode cX6_ofNet 40 = .ok (.getfield 13, 3) := by decide +kernel
theorem dX6_ofNet_43 : decode cX6_ofNet 43 = .ok (.iload 5, 2) := by decide +kernel
theorem dX6_ofNet_45 : decode cX6_ofNet 45 = .ok (.faload, 1) := by decide +kernel
theorem dX6_ofNet_46 : decode cX6_ofNet 46 = .ok (.fadd, 1) := by decide +kernel
theorem dX6_ofNet_47 : decode cX6_ofNet 47 = .ok (.fstore 4, 2) := by decide +kernel
theorem dX6_ofNet_49 : decode cX6_ofNet 49 = .ok (.iinc 5 1, 3) := by decide +kernel
theorem dX6_ofNet_52 : decode cX6_ofNet 52 = .ok (.goto (-35), 3) := by decide +kernel
theorem dX6_ofNet_55 : decode cX6_ofNet 55 = .ok (.iload_n 2, 1) := by decide +kernel
theorem dX6_ofNet_56 : decode cX6_ofNet 56 = .ok (.ifCond .ne 7, 3) := by decide +kernel
theorem dX6_ofNet_59 : decode cX6_ofNet 59 = .ok (.iload_n 3, 1) := by decide +kernel
theorem dX6_ofNet_60 : decode cX6_ofNet 60 = .ok (.goto 35, 3) := by decide +kernel
theorem dX6_ofNet_63 : decode cX6_ofNet 63 = .ok (.iload_n 2, 1) := by decide +kernel
theorem dX6_ofNet_64 : decode cX6_ofNet 64 = .ok (.iconst 1, 1) := by decide +kernel
theorem dX6_ofNet_65 : decode cX6_ofNet 65 = .ok (.if_icmp .ne 15, 3) := by decide +kernel
theorem dX6_ofNet_68 : decode cX6_ofNet 68 = .ok (.aload_n 0, 1) := by decide +kernel
theorem dX6_ofNet_69 : decode cX6_ofNet 69 = .ok (.getfield 7, 3) := by decide +kernel
theorem dX6_ofNet_72 : decode cX6_ofNet 72 = .ok (.bipush 71, 2) := by decide +kernel
theorem dX6_ofNet_74 : decode cX6_ofNet 74 = .ok (.iload_n 1, 1) := by decide +kernel
theorem dX6_ofNet_75 : decode cX6_ofNet 75 = .ok (.iadd, 1) := by decide +kernel
theorem dX6_ofNet_76 : decode cX6_ofNet 76 = .ok (.iaload, 1) := by decide +kernel
theorem dX6_ofNet_77 : decode cX6_ofNet 77 = .ok (.goto 18, 3) := by decide +kernel
theorem dX6_ofNet_80 : decode cX6_ofNet 80 = .ok (.iload_n 2, 1) := by decide +kernel
theorem dX6_ofNet_81 : decode cX6_ofNet 81 = .ok (.iconst 2, 1) := by decide +kernel
theorem dX6_ofNet_82 : decode cX6_ofNet 82 = .ok (.if_icmp .ne 11, 3) := by decide +kernel
theorem dX6_ofNet_85 : decode cX6_ofNet 85 = .ok (.fload 4, 2) := by decide +kernel
theorem dX6_ofNet_87 : decode cX6_ofNet 87 = .ok (.invokestatic 199, 3) := by decide +kernel
theorem dX6_ofNet_90 : decode cX6_ofNet 90 = .ok (.goto 5, 3) := by decide +kernel
theorem dX6_ofNet_93 : decode cX6_ofNet 93 = .ok (.bipush (-2), 2) := by decide +kernel
theorem dX6_ofNet_95 : decode cX6_ofNet 95 = .ok (.ireturn, 1) := by decide +kernel
set_option maxRecDepth 20000 in
theorem ggX6_liveMany_X6_isLive : GoodIn wsX6_liveMany wsX6_isLive := goodIn_r _ [6, 7, 8, 9, 5, 10, 1, 11, 12, 13, 14, 15, 16, 17, 18, 19, 20, 21, 22, 23, 24, 25, 26, 27, 28, 29, 30, 31, 32, 33, 34, 35, 36, 37, 38, 39, 40, 41, 42, 43] (by decide +kernel) (by decide +kernel)
set_option maxRecDepth 20000 in
theorem gX6_liveMany_X6_isLive : GoodIn wsX6_liveMany (wsV RX6 100 RX6 yX6_isLive wsX6_isLive) := goodIn_app (goodIn_of _ (by decide +kernel)) ggX6_liveMany_X6_isLive
theorem dX6_liveMany_0 : decode cX6_liveMany 0 = .ok (.iconst 0, 1) := by decide +kernel
theorem dX6_liveMany_1 : decode cX6_liveMany 1 = .ok (.istore_n 1, 1) := by decide +kernel
theorem dX6_liveMany_2 : decode cX6_liveMany 2 = .ok (.iconst 0, 1) := by decide +kernel
theorem dX6_liveMany_3 : decode cX6_liveMany 3 = .ok (.istore_n 2, 1) := by decide +kernel
theorem dX6_liveMany_4 : decode cX6_liveMany 4 = .ok (.iload_n 2, 1) := by decide +kernel
theorem dX6_liveMany_5 : decode cX6_liveMany 5 = .ok (.aload_n 0, 1) := by decide +kernel
theorem dX6_liveMany_6 : decode cX6_liveMany 6 = .ok (.getfield 7, 3) := by decide +kernel
theorem dX6_liveMany_9 : decode cX6_liveMany 9 = .ok (.iconst 5, 1) := by decide +kernel
theorem dX6_liveMany_10 : decode cX6_liveMany 10 = .ok (.iaload, 1) := by decide +kernel
theorem dX6_liveMany_11 : decode cX6_liveMany 11 = .ok (.if_icmp .ge 25, 3) := by decide +kernel
theorem dX6_liveMany_14 : decode cX6_liveMany 14 = .ok (.iload_n 1, 1) := by decide +kernel
theorem dX6_liveMany_15 : decode cX6_liveMany 15 = .ok (.aload_n 0, 1) := by decide +kernel
theorem dX6_liveMany_16 : decode cX6_liveMany 16 = .ok (.iload_n 2, 1) := by decide +kernel
theorem dX6_liveMany_17 : decode cX6_liveMany 17 = .ok (.invokevirtual 100, 3) := by decide +kernel
theorem dX6_liveMany_20 : decode cX6_liveMany 20 = .ok (.ifCond .eq 7, 3) := by decide +kernel
theorem dX6_liveMany_23 : decode cX6_liveMany 23 = .ok (.iconst 1, 1) := by decide +kernel
theorem dX6_liveMany_24 : decode cX6_liveMany 24 = .ok (.goto 4, 3) := by decide +kernel
theorem dX6_liveMany_27 : decode cX6_liveMany 27 = .ok (.iconst 0, 1) := by decide +kernel
theorem dX6_liveMany_28 : decode cX6_liveMany 28 = .ok (.iadd, 1) := by decide +kernel
theorem dX6_liveMany_29 : decode cX6_liveMany 29 = .ok (.istore_n 1, 1) := by decide +kernel
theorem dX6_liveMany_30 : decode cX6_liveMany 30 = .ok (.iinc 2 1, 3) := by decide +kernel
theorem dX6_liveMany_33 : decode cX6_liveMany 33 = .ok (.goto (-29), 3) := by decide +kernel
theorem dX6_liveMany_36 : decode cX6_liveMany 36 = .ok (.iload_n 1, 1) := by decide +kernel
theorem dX6_liveMany_37 : decode cX6_liveMany 37 = .ok (.ireturn, 1) := by decide +kernel
set_option maxRecDepth 20000 in
theorem ggX6_tracksMany_X6_netAt : GoodIn wsX6_tracksMany wsX6_netAt := goodIn_r _ [5, 6, 7, 8, 9, 10, 11, 12, 13, 14, 15, 16, 17, 18, 19, 20, 21, 22, 23, 24, 25, 26, 27, 28, 29, 30, 31] (by decide +kernel) (by decide +kernel)
set_option maxRecDepth 20000 in
theorem gX6_tracksMany_X6_netAt : GoodIn wsX6_tracksMany (wsV RX6 87 RX6 yX6_netAt wsX6_netAt) := goodIn_app (goodIn_of _ (by decide +kernel)) ggX6_tracksMany_X6_netAt
theorem dX6_tracksMany_0 : decode cX6_tracksMany 0 = .ok (.iconst 0, 1) := by decide +kernel
theorem dX6_tracksMany_1 : decode cX6_tracksMany 1 = .ok (.istore_n 1, 1) := by decide +kernel
theorem dX6_tracksMany_2 : decode cX6_tracksMany 2 = .ok (.iconst 0, 1) := by decide +kernel
theorem dX6_tracksMany_3 : decode cX6_tracksMany 3 = .ok (.istore_n 2, 1) := by decide +kernel
theorem dX6_tracksMany_4 : decode cX6_tracksMany 4 = .ok (.iload_n 2, 1) := by decide +kernel
theorem dX6_tracksMany_5 : decode cX6_tracksMany 5 = .ok (.bipush 64, 2) := by decide +kernel
theorem dX6_tracksMany_7 : decode cX6_tracksMany 7 = .ok (.if_icmp .ge 25, 3) := by decide +kernel
theorem dX6_tracksMany_10 : decode cX6_tracksMany 10 = .ok (.iload_n 1, 1) := by decide +kernel
theorem dX6_tracksMany_11 : decode cX6_tracksMany 11 = .ok (.aload_n 0, 1) := by decide +kernel
theorem dX6_tracksMany_12 : decode cX6_tracksMany 12 = .ok (.iload_n 2, 1) := by decide +kernel
theorem dX6_tracksMany_13 : decode cX6_tracksMany 13 = .ok (.invokevirtual 87, 3) := by decide +kernel
theorem dX6_tracksMany_16 : decode cX6_tracksMany 16 = .ok (.ifCond .le 7, 3) := by decide +kernel
theorem dX6_tracksMany_19 : decode cX6_tracksMany 19 = .ok (.iconst 1, 1) := by decide +kernel
theorem dX6_tracksMany_20 : decode cX6_tracksMany 20 = .ok (.goto 4, 3) := by decide +kernel
theorem dX6_tracksMany_23 : decode cX6_tracksMany 23 = .ok (.iconst 0, 1) := by decide +kernel
theorem dX6_tracksMany_24 : decode cX6_tracksMany 24 = .ok (.iadd, 1) := by decide +kernel
theorem dX6_tracksMany_25 : decode cX6_tracksMany 25 = .ok (.istore_n 1, 1) := by decide +kernel
theorem dX6_tracksMany_26 : decode cX6_tracksMany 26 = .ok (.iinc 2 1, 3) := by decide +kernel
theorem dX6_tracksMany_29 : decode cX6_tracksMany 29 = .ok (.goto (-25), 3) := by decide +kernel
theorem dX6_tracksMany_32 : decode cX6_tracksMany 32 = .ok (.iload_n 1, 1) := by decide +kernel
theorem dX6_tracksMany_33 : decode cX6_tracksMany 33 = .ok (.ireturn, 1) := by decide +kernel
theorem dX6_warmest_0 : decode cX6_warmest 0 = .ok (.iconst 0, 1) := by decide +kernel
theorem dX6_warmest_1 : decode cX6_warmest 1 = .ok (.istore_n 1, 1) := by decide +kernel
theorem dX6_warmest_2 : decode cX6_warmest 2 = .ok (.iconst 1, 1) := by decide +kernel
theorem dX6_warmest_3 : decode cX6_warmest 3 = .ok (.istore_n 2, 1) := by decide +kernel
theorem dX6_warmest_4 : decode cX6_warmest 4 = .ok (.iload_n 2, 1) := by decide +kernel
theorem dX6_warmest_5 : decode cX6_warmest 5 = .ok (.bipush 64, 2) := by decide +kernel
theorem dX6_warmest_7 : decode cX6_warmest 7 = .ok (.if_icmp .ge 31, 3) := by decide +kernel
theorem dX6_warmest_10 : decode cX6_warmest 10 = .ok (.aload_n 0, 1) := by decide +kernel
theorem dX6_warmest_11 : decode cX6_warmest 11 = .ok (.getfield 13, 3) := by decide +kernel
theorem dX6_warmest_14 : decode cX6_warmest 14 = .ok (.iload_n 2, 1) := by decide +kernel
theorem dX6_warmest_15 : decode cX6_warmest 15 = .ok (.faload, 1) := by decide +kernel
theorem dX6_warmest_16 : decode cX6_warmest 16 = .ok (.aload_n 0, 1) := by decide +kernel
theorem dX6_warmest_17 : decode cX6_warmest 17 = .ok (.getfield 13, 3) := by decide +kernel
theorem dX6_warmest_20 : decode cX6_warmest 20 = .ok (.iload_n 1, 1) := by decide +kernel
theorem dX6_warmest_21 : decode cX6_warmest 21 = .ok (.faload, 1) := by decide +kernel
theorem dX6_warmest_22 : decode cX6_warmest 22 = .ok (.fcmp .l, 1) := by decide +kernel
theorem dX6_warmest_23 : decode cX6_warmest 23 = .ok (.ifCond .le 7, 3) := by decide +kernel
theorem dX6_warmest_26 : decode cX6_warmest 26 = .ok (.iload_n 2, 1) := by decide +kernel
theorem dX6_warmest_27 : decode cX6_warmest 27 = .ok (.goto 4, 3) := by decide +kernel
theorem dX6_warmest_30 : decode cX6_warmest 30 = .ok (.iload_n 1, 1) := by decide +kernel
theorem dX6_warmest_31 : decode cX6_warmest 31 = .ok (.istore_n 1, 1) := by decide +kernel
theorem dX6_warmest_32 : decode cX6_warmest 32 = .ok (.iinc 2 1, 3) := by decide +kernel
theorem dX6_warmest_35 : decode cX6_warmest 35 = .ok (.goto (-31), 3) := by decide +kernel
theorem dX6_warmest_38 : decode cX6_warmest 38 = .ok (.iload_n 1, 1) := by decide +kernel
theorem dX6_warmest_39 : decode cX6_warmest 39 = .ok (.ireturn, 1) := by decide +kernel
set_option maxRecDepth 20000 in
theorem ggX6_count_X6_liveMany : GoodIn wsX6_count wsX6_liveMany := goodIn_r _ [8, 1, 9, 10, 11, 7, 12, 13, 14, 15, 16, 17, 18, 19, 20, 21, 22, 23, 24, 124, 125, 126, 127, 128, 129, 130, 131, 132, 133, 134, 135, 136, 137, 138, 139, 140, 141, 142, 143, 144, 145, 146, 147, 148] (by decide +kernel) (by decide +kernel)
set_option maxRecDepth 20000 in
theorem gX6_count_X6_liveMany : GoodIn wsX6_count (wsV RX6 204 RX6 yX6_liveMany wsX6_liveMany) := goodIn_app (goodIn_of _ (by decide +kernel)) ggX6_count_X6_liveMany
set_option maxRecDepth 20000 in
theorem ggX6_count_X6_tracksMany : GoodIn wsX6_count wsX6_tracksMany := goodIn_r _ [28, 17, 18, 19, 7, 20, 1, 124, 125, 126, 127, 128, 129, 130, 131, 132, 133, 134, 135, 136, 137, 138, 139, 140, 141, 142, 143, 144, 145, 146, 147, 148] (by decide +kernel) (by decide +kernel)
set_option maxRecDepth 20000 in
theorem gX6_count_X6_tracksMany : GoodIn wsX6_count (wsV RX6 208 RX6 yX6_tracksMany wsX6_tracksMany) := goodIn_app (goodIn_of _ (by decide +kernel)) ggX6_count_X6_tracksMany
set_option maxRecDepth 20000 in
theorem ggX6_count_X6_suspectsMany : GoodIn wsX6_count wsX6_suspectsMany := goodIn_r _ [32, 33, 34, 35, 7, 36, 37, 38, 39, 40, 41, 42, 43, 44, 45, 46, 47, 48, 49, 50, 51, 17, 18, 19, 20, 1, 21, 22, 23, 24, 124, 125, 126, 127, 128, 129, 130, 131, 132, 133, 134, 135, 136, 137, 138, 139, 140, 141, 142, 143, 144, 145, 146, 147, 148] (by decide +kernel) (by decide +kernel)
set_option maxRecDepth 20000 in
theorem gX6_count_X6_suspectsMany : GoodIn wsX6_count (wsV RX6 211 RX6 yX6_suspectsMany wsX6_suspectsMany) := goodIn_app (goodIn_of _ (by decide +kernel)) ggX6_count_X6_suspectsMany
set_option maxRecDepth 20000 in
theorem ggX6_count_X6_singlesMany : GoodIn wsX6_count wsX6_singlesMany := goodIn_r _ [55, 56, 57, 58, 59, 7, 60, 61, 62, 33, 34, 35, 36, 37, 38, 39, 40, 41, 42, 43, 44, 45, 46, 47, 48, 49, 50, 51, 17, 18, 19, 20, 1, 21, 22, 23, 24, 63, 64, 65, 66, 67, 68, 69, 70, 71, 72, 73, 74, 75, 76, 77, 78, 79, 80, 81, 82, 83, 84, 85, 86, 87, 88, 89, 90, 13, 14, 15, 16, 9, 10, 11, 12, 91, 92, 93, 94, 95, 96, 97, 98, 99, 100, 101, 102, 103, 104, 105, 124, 125, 126, 127, 128, 129, 130, 131, 132, 133, 134, 135, 136, 137, 138, 139, 140, 141, 142, 143, 144, 145, 146, 147, 148] (by decide +kernel) (by decide +kernel)
set_option maxRecDepth 20000 in
theorem gX6_count_X6_singlesMany : GoodIn wsX6_count (wsV RX6 214 RX6 yX6_singlesMany wsX6_singlesMany) := goodIn_app (goodIn_of _ (by decide +kernel)) ggX6_count_X6_singlesMany
set_option maxRecDepth 20000 in
theorem ggX6_count_X6_pairsMany : GoodIn wsX6_count wsX6_pairsMany := goodIn_r _ [109, 110, 111, 112, 113, 7, 114, 61, 62, 57, 58, 59, 60, 56, 33, 34, 35, 36, 37, 38, 39, 40, 41, 42, 43, 44, 45, 46, 47, 48, 49, 50, 51, 17, 18, 19, 20, 1, 21, 22, 23, 24, 63, 64, 65, 66, 67, 68, 69, 70, 71, 72, 73, 74, 75, 76, 77, 78, 79, 80, 81, 82, 83, 84, 85, 86, 87, 88, 89, 90, 13, 14, 15, 16, 9, 10, 11, 12, 91, 92, 93, 94, 95, 96, 97, 98, 99, 100, 101, 102, 103, 104, 105, 115, 116, 117, 118, 124, 125, 126, 127, 128, 129, 130, 131, 132, 133, 134, 135, 136, 137, 138, 139, 140, 141, 142, 143, 144, 145, 146, 147, 148] (by decide +kernel) (by decide +kernel)
set_option maxRecDepth 20000 in
theorem gX6_count_X6_pairsMany : GoodIn wsX6_count (wsV RX6 217 RX6 yX6_pairsMany wsX6_pairsMany) := goodIn_app (goodIn_of _ (by decide +kernel)) ggX6_count_X6_pairsMany
set_option maxRecDepth 20000 in
theorem ggX6_count_X6_warmest : GoodIn wsX6_count wsX6_warmest := goodIn_r _ [122, 123, 124, 125, 126, 127, 128, 129, 130, 131, 132, 133, 134, 135, 136, 137, 138, 139, 140, 141, 142, 143, 144, 145, 146, 147, 148] (by decide +kernel) (by decide +kernel)
set_option maxRecDepth 20000 in
theorem gX6_count_X6_warmest : GoodIn wsX6_count (wsV RX6 220 RX6 yX6_warmest wsX6_warmest) := goodIn_app (goodIn_of _ (by decide +kernel)) ggX6_count_X6_warmest
theorem dX6_count_0 : decode cX6_count 0 = .ok (.iload_n 1, 1) := by decide +kernel
theorem dX6_count_1 : decode cX6_count 1 = .ok (.tableswitch 165 0 14 #[75, 82, 89, 94, 102, 107, 112, 117, 122, 127, 134, 141, 148, 155, 160], 75) := by decide +kernel
theorem dX6_count_76 : decode cX6_count 76 = .ok (.aload_n 0, 1) := by decide +kernel
theorem dX6_count_77 : decode cX6_count 77 = .ok (.getfield 7, 3) := by decide +kernel
theorem dX6_count_80 : decode cX6_count 80 = .ok (.iconst 4, 1) := by decide +kernel
theorem dX6_count_81 : decode cX6_count 81 = .ok (.iaload, 1) := by decide +kernel
theorem dX6_count_82 : decode cX6_count 82 = .ok (.ireturn, 1) := by decide +kernel
theorem dX6_count_83 : decode cX6_count 83 = .ok (.aload_n 0, 1) := by decide +kernel
theorem dX6_count_84 : decode cX6_count 84 = .ok (.getfield 7, 3) := by decide +kernel
theorem dX6_count_87 : decode cX6_count 87 = .ok (.iconst 5, 1) := by decide +kernel
theorem dX6_count_88 : decode cX6_count 88 = .ok (.iaload, 1) := by decide +kernel
theorem dX6_count_89 : decode cX6_count 89 = .ok (.ireturn, 1) := by decide +kernel
theorem dX6_count_90 : decode cX6_count 90 = .ok (.aload_n 0, 1) := by decide +kernel
theorem dX6_count_91 : decode cX6_count 91 = .ok (.invokevirtual 204, 3) := by decide +kernel
theorem dX6_count_94 : decode cX6_count 94 = .ok (.ireturn, 1) := by decide +kernel
theorem dX6_count_95 : decode cX6_count 95 = .ok (.aload_n 0, 1) := by decide +kernel
theorem dX6_count_96 : decode cX6_count 96 = .ok (.getfield 7, 3) := by decide +kernel
theorem dX6_count_99 : decode cX6_count 99 = .ok (.bipush 6, 2) := by decide +kernel
theorem dX6_count_101 : decode cX6_count 101 = .ok (.iaload, 1) := by decide +kernel
theorem dX6_count_102 : decode cX6_count 102 = .ok (.ireturn, 1) := by decide +kernel
theorem dX6_count_103 : decode cX6_count 103 = .ok (.aload_n 0, 1) := by decide +kernel
theorem dX6_count_104 : decode cX6_count 104 = .ok (.invokevirtual 208, 3) := by decide +kernel
theorem dX6_count_107 : decode cX6_count 107 = .ok (.ireturn, 1) := by decide +kernel
theorem dX6_count_108 : decode cX6_count 108 = .ok (.aload_n 0, 1) := by decide +kernel
theorem dX6_count_109 : decode cX6_count 109 = .ok (.invokevirtual 211, 3) := by decide +kernel
theorem dX6_count_112 : decode cX6_count 112 = .ok (.ireturn, 1) := by decide +kernel
theorem dX6_count_113 : decode cX6_count 113 = .ok (.aload_n 0, 1) := by decide +kernel
theorem dX6_count_114 : decode cX6_count 114 = .ok (.invokevirtual 214, 3) := by decide +kernel
theorem dX6_count_117 : decode cX6_count 117 = .ok (.ireturn, 1) := by decide +kernel
theorem dX6_count_118 : decode cX6_count 118 = .ok (.aload_n 0, 1) := by decide +kernel
theorem dX6_count_119 : decode cX6_count 119 = .ok (.invokevirtual 217, 3) := by decide +kernel
theorem dX6_count_122 : decode cX6_count 122 = .ok (.ireturn, 1) := by decide +kernel
theorem dX6_count_123 : decode cX6_count 123 = .ok (.aload_n 0, 1) := by decide +kernel
theorem dX6_count_124 : decode cX6_count 124 = .ok (.invokevirtual 220, 3) := by decide +kernel
theorem dX6_count_127 : decode cX6_count 127 = .ok (.ireturn, 1) := by decide +kernel
theorem dX6_count_128 : decode cX6_count 128 = .ok (.aload_n 0, 1) := by decide +kernel
theorem dX6_count_129 : decode cX6_count 129 = .ok (.getfield 7, 3) := by decide +kernel
theorem dX6_count_132 : decode cX6_count 132 = .ok (.iconst 0, 1) := by decide +kernel
theorem dX6_count_133 : decode cX6_count 133 = .ok (.iaload, 1) := by decide +kernel
theorem dX6_count_134 : decode cX6_count 134 = .ok (.ireturn, 1) := by decide +kernel
theorem dX6_count_135 : decode cX6_count 135 = .ok (.aload_n 0, 1) := by decide +kernel
theorem dX6_count_136 : decode cX6_count 136 = .ok (.getfield 7, 3) := by decide +kernel
theorem dX6_count_139 : decode cX6_count 139 = .ok (.iconst 1, 1) := by decide +kernel
theorem dX6_count_140 : decode cX6_count 140 = .ok (.iaload, 1) := by decide +kernel
theorem dX6_count_141 : decode cX6_count 141 = .ok (.ireturn, 1) := by decide +kernel
theorem dX6_count_142 : decode cX6_count 142 = .ok (.aload_n 0, 1) := by decide +kernel
theorem dX6_count_143 : decode cX6_count 143 = .ok (.getfield 7, 3) := by decide +kernel
theorem dX6_count_146 : decode cX6_count 146 = .ok (.iconst 2, 1) := by decide +kernel
theorem dX6_count_147 : decode cX6_count 147 = .ok (.iaload, 1) := by decide +kernel
theorem dX6_count_148 : decode cX6_count 148 = .ok (.ireturn, 1) := by decide +kernel
theorem dX6_count_149 : decode cX6_count 149 = .ok (.aload_n 0, 1) := by decide +kernel
theorem dX6_count_150 : decode cX6_count 150 = .ok (.getfield 7, 3) := by decide +kernel
theorem dX6_count_153 : decode cX6_count 153 = .ok (.iconst 3, 1) := by decide +kernel
theorem dX6_count_154 : decode cX6_count 154 = .ok (.iaload, 1) := by decide +kernel
theorem dX6_count_155 : decode cX6_count 155 = .ok (.ireturn, 1) := by decide +kernel
theorem dX6_count_156 : decode cX6_count 156 = .ok (.aload_n 0, 1) := by decide +kernel
theorem dX6_count_157 : decode cX6_count 157 = .ok (.getfield 223, 3) := by decide +kernel
theorem dX6_count_160 : decode cX6_count 160 = .ok (.ireturn, 1) := by decide +kernel
theorem dX6_count_161 : decode cX6_count 161 = .ok (.aload_n 0, 1) := by decide +kernel
theorem dX6_count_162 : decode cX6_count 162 = .ok (.getfield 56, 3) := by decide +kernel
theorem dX6_count_165 : decode cX6_count 165 = .ok (.ireturn, 1) := by decide +kernel
theorem dX6_count_166 : decode cX6_count 166 = .ok (.bipush (-2), 2) := by decide +kernel
theorem dX6_count_168 : decode cX6_count 168 = .ok (.ireturn, 1) := by decide +kernel
set_option maxRecDepth 20000 in
theorem ggX6_mean_Jxe99ae_doubleToLongBits_ccdee : GoodIn wsX6_mean wsJxe99ae_doubleToLongBits_ccdee := goodIn_r _ [6, 7, 8, 9, 10, 11, 12, 13, 5, 14] (by decide +kernel) (by decide +kernel)
set_option maxRecDepth 20000 in
theorem gX6_mean_Jxe99ae_doubleToLongBits_ccdee : GoodIn wsX6_mean (va_wsS RX6 228 yJxe99ae_doubleToLongBits_ccdee wsJxe99ae_doubleToLongBits_ccdee) := goodIn_app (goodIn_of _ (by decide +kernel)) ggX6_mean_Jxe99ae_doubleToLongBits_ccdee
theorem dX6_mean_0 : decode cX6_mean 0 = .ok (.dconst 0, 1) := by decide +kernel
theorem dX6_mean_1 : decode cX6_mean 1 = .ok (.dstore_n 1, 1) := by decide +kernel
theorem dX6_mean_2 : decode cX6_mean 2 = .ok (.iconst 0, 1) := by decide +kernel
theorem dX6_mean_3 : decode cX6_mean 3 = .ok (.istore_n 3, 1) := by decide +kernel
theorem dX6_mean_4 : decode cX6_mean 4 = .ok (.iload_n 3, 1) := by decide +kernel
theorem dX6_mean_5 : decode cX6_mean 5 = .ok (.bipush 64, 2) := by decide +kernel
theorem dX6_mean_7 : decode cX6_mean 7 = .ok (.if_icmp .ge 19, 3) := by decide +kernel
theorem dX6_mean_10 : decode cX6_mean 10 = .ok (.dload_n 1, 1) := by decide +kernel
theorem dX6_mean_11 : decode cX6_mean 11 = .ok (.aload_n 0, 1) := by decide +kernel
theorem dX6_mean_12 : decode cX6_mean 12 = .ok (.getfield 13, 3) := by decide +kernel
theorem dX6_mean_15 : decode cX6_mean 15 = .ok (.iload_n 3, 1) := by decide +kernel
theorem dX6_mean_16 : decode cX6_mean 16 = .ok (.faload, 1) := by decide +kernel
theorem dX6_mean_17 : decode cX6_mean 17 = .ok (.f2d, 1) := by decide +kernel
theorem dX6_mean_18 : decode cX6_mean 18 = .ok (.dadd, 1) := by decide +kernel
theorem dX6_mean_19 : decode cX6_mean 19 = .ok (.dstore_n 1, 1) := by decide +kernel
theorem dX6_mean_20 : decode cX6_mean 20 = .ok (.iinc 3 1, 3) := by decide +kernel
theorem dX6_mean_23 : decode cX6_mean 23 = .ok (.goto (-19), 3) := by decide +kernel
theorem dX6_mean_26 : decode cX6_mean 26 = .ok (.dload_n 1, 1) := by decide +kernel
theorem dX6_mean_27 : decode cX6_mean 27 = .ok (.ldc2_w 226, 3) := by decide +kernel
theorem dX6_mean_30 : decode cX6_mean 30 = .ok (.ddiv, 1) := by decide +kernel
theorem dX6_mean_31 : decode cX6_mean 31 = .ok (.invokestatic 228, 3) := by decide +kernel
theorem dX6_mean_34 : decode cX6_mean 34 = .ok (.lreturn, 1) := by decide +kernel
theorem dX6_unlikeAt_0 : decode cX6_unlikeAt 0 = .ok (.iconst 0, 1) := by decide +kernel
theorem dX6_unlikeAt_1 : decode cX6_unlikeAt 1 = .ok (.istore_n 2, 1) := by decide +kernel
theorem dX6_unlikeAt_2 : decode cX6_unlikeAt 2 = .ok (.iconst 0, 1) := by decide +kernel
theorem dX6_unlikeAt_3 : decode cX6_unlikeAt 3 = .ok (.istore_n 3, 1) := by decide +kernel
theorem dX6_unlikeAt_4 : decode cX6_unlikeAt 4 = .ok (.iload_n 3, 1) := by decide +kernel
theorem dX6_unlikeAt_5 : decode cX6_unlikeAt 5 = .ok (.bipush 64, 2) := by decide +kernel
theorem dX6_unlikeAt_7 : decode cX6_unlikeAt 7 = .ok (.if_icmp .ge 102, 3) := by decide +kernel
theorem dX6_unlikeAt_10 : decode cX6_unlikeAt 10 = .ok (.aload_n 0, 1) := by decide +kernel
theorem dX6_unlikeAt_11 : decode cX6_unlikeAt 11 = .ok (.getfield 47, 3) := by decide +kernel
theorem dX6_unlikeAt_14 : decode cX6_unlikeAt 14 = .ok (.iload_n 3, 1) := by decide +kernel
theorem dX6_unlikeAt_15 : decode cX6_unlikeAt 15 = .ok (.iaload, 1) := by decide +kernel
theorem dX6_unlikeAt_16 : decode cX6_unlikeAt 16 = .ok (.iconst 1, 1) := by decide +kernel
theorem dX6_unlikeAt_17 : decode cX6_unlikeAt 17 = .ok (.if_icmp .ne 7, 3) := by decide +kernel
theorem dX6_unlikeAt_20 : decode cX6_unlikeAt 20 = .ok (.iconst 1, 1) := by decide +kernel
theorem dX6_unlikeAt_21 : decode cX6_unlikeAt 21 = .ok (.goto 4, 3) := by decide +kernel
theorem dX6_unlikeAt_24 : decode cX6_unlikeAt 24 = .ok (.iconst 0, 1) := by decide +kernel
theorem dX6_unlikeAt_25 : decode cX6_unlikeAt 25 = .ok (.istore 4, 2) := by decide +kernel
theorem dX6_unlikeAt_27 : decode cX6_unlikeAt 27 = .ok (.iconst 0, 1) := by decide +kernel
theorem dX6_unlikeAt_28 : decode cX6_unlikeAt 28 = .ok (.istore 5, 2) := by decide +kernel
theorem dX6_unlikeAt_30 : decode cX6_unlikeAt 30 = .ok (.iload 5, 2) := by decide +kernel
theorem dX6_unlikeAt_32 : decode cX6_unlikeAt 32 = .ok (.iload_n 3, 1) := by decide +kernel
theorem dX6_unlikeAt_33 : decode cX6_unlikeAt 33 = .ok (.if_icmp .ge 57, 3) := by decide +kernel
theorem dX6_unlikeAt_36 : decode cX6_unlikeAt 36 = .ok (.iload 4, 2) := by decide +kernel
theorem dX6_unlikeAt_38 : decode cX6_unlikeAt 38 = .ok (.ifCond .eq 52, 3) := by decide +kernel
theorem dX6_unlikeAt_41 : decode cX6_unlikeAt 41 = .ok (.aload_n 0, 1) := by decide +kernel
theorem dX6_unlikeAt_42 : decode cX6_unlikeAt 42 = .ok (.getfield 47, 3) := by decide +kernel
theorem dX6_unlikeAt_45 : decode cX6_unlikeAt 45 = .ok (.iload 5, 2) := by decide +kernel
theorem dX6_unlikeAt_47 : decode cX6_unlikeAt 47 = .ok (.iaload, 1) := by decide +kernel
theorem dX6_unlikeAt_48 : decode cX6_unlikeAt 48 = .ok (.ifCond .eq 29, 3) := by decide +kernel
theorem dX6_unlikeAt_51 : decode cX6_unlikeAt 51 = .ok (.aload_n 0, 1) := by decide +kernel
theorem dX6_unlikeAt_52 : decode cX6_unlikeAt 52 = .ok (.getfield 53, 3) := by decide +kernel
theorem dX6_unlikeAt_55 : decode cX6_unlikeAt 55 = .ok (.bipush 64, 2) := by decide +kernel
theorem dX6_unlikeAt_57 : decode cX6_unlikeAt 57 = .ok (.iload 5, 2) := by decide +kernel
theorem dX6_unlikeAt_59 : decode cX6_unlikeAt 59 = .ok (.imul, 1) := by decide +kernel
theorem dX6_unlikeAt_60 : decode cX6_unlikeAt 60 = .ok (.iload_n 1, 1) := by decide +kernel
theorem dX6_unlikeAt_61 : decode cX6_unlikeAt 61 = .ok (.iadd, 1) := by decide +kernel
theorem dX6_unlikeAt_62 : decode cX6_unlikeAt 62 = .ok (.iaload, 1) := by decide +kernel
theorem dX6_unlikeAt_63 : decode cX6_unlikeAt 63 = .ok (.aload_n 0, 1) := by decide +kernel
theorem dX6_unlikeAt_64 : decode cX6_unlikeAt 64 = .ok (.getfield 53, 3) := by decide +kernel
theorem dX6_unlikeAt_67 : decode cX6_unlikeAt 67 = .ok (.bipush 64, 2) := by decide +kernel
theorem dX6_unlikeAt_69 : decode cX6_unlikeAt 69 = .ok (.iload_n 3, 1) := by decide +kernel
theorem dX6_unlikeAt_70 : decode cX6_unlikeAt 70 = .ok (.imul, 1) := by decide +kernel
theorem dX6_unlikeAt_71 : decode cX6_unlikeAt 71 = .ok (.iload_n 1, 1) := by decide +kernel
theorem dX6_unlikeAt_72 : decode cX6_unlikeAt 72 = .ok (.iadd, 1) := by decide +kernel
theorem dX6_unlikeAt_73 : decode cX6_unlikeAt 73 = .ok (.iaload, 1) := by decide +kernel
theorem dX6_unlikeAt_74 : decode cX6_unlikeAt 74 = .ok (.if_icmp .eq 7, 3) := by decide +kernel
theorem dX6_unlikeAt_77 : decode cX6_unlikeAt 77 = .ok (.iconst 1, 1) := by decide +kernel
theorem dX6_unlikeAt_78 : decode cX6_unlikeAt 78 = .ok (.goto 4, 3) := by decide +kernel
theorem dX6_unlikeAt_81 : decode cX6_unlikeAt 81 = .ok (.iconst 0, 1) := by decide +kernel
theorem dX6_unlikeAt_82 : decode cX6_unlikeAt 82 = .ok (.istore 4, 2) := by decide +kernel
theorem dX6_unlikeAt_84 : decode cX6_unlikeAt 84 = .ok (.iinc 5 1, 3) := by decide +kernel
theorem dX6_unlikeAt_87 : decode cX6_unlikeAt 87 = .ok (.goto (-57), 3) := by decide +kernel
theorem dX6_unlikeAt_90 : decode cX6_unlikeAt 90 = .ok (.iload_n 2, 1) := by decide +kernel
theorem dX6_unlikeAt_91 : decode cX6_unlikeAt 91 = .ok (.iload 4, 2) := by decide +kernel
theorem dX6_unlikeAt_93 : decode cX6_unlikeAt 93 = .ok (.ifCond .eq 7, 3) := by decide +kernel
theorem dX6_unlikeAt_96 : decode cX6_unlikeAt 96 = .ok (.iconst 1, 1) := by decide +kernel
theorem dX6_unlikeAt_97 : decode cX6_unlikeAt 97 = .ok (.goto 4, 3) := by decide +kernel
theorem dX6_unlikeAt_100 : decode cX6_unlikeAt 100 = .ok (.iconst 0, 1) := by decide +kernel
theorem dX6_unlikeAt_101 : decode cX6_unlikeAt 101 = .ok (.iadd, 1) := by decide +kernel
theorem dX6_unlikeAt_102 : decode cX6_unlikeAt 102 = .ok (.istore_n 2, 1) := by decide +kernel
theorem dX6_unlikeAt_103 : decode cX6_unlikeAt 103 = .ok (.iinc 3 1, 3) := by decide +kernel
theorem dX6_unlikeAt_106 : decode cX6_unlikeAt 106 = .ok (.goto (-102), 3) := by decide +kernel
theorem dX6_unlikeAt_109 : decode cX6_unlikeAt 109 = .ok (.iload_n 2, 1) := by decide +kernel
theorem dX6_unlikeAt_110 : decode cX6_unlikeAt 110 = .ok (.ireturn, 1) := by decide +kernel
set_option maxRecDepth 20000 in
theorem ggX6_bestProbe_X6_within : GoodIn wsX6_bestProbe wsX6_within := goodIn_r _ [10] (by decide +kernel) (by decide +kernel)
set_option maxRecDepth 20000 in
theorem gX6_bestProbe_X6_within : GoodIn wsX6_bestProbe (va_wsS RX6 68 yX6_within wsX6_within) := goodIn_app (goodIn_of _ (by decide +kernel)) ggX6_bestProbe_X6_within
set_option maxRecDepth 20000 in
theorem ggX6_bestProbe_X6_singlesMany : GoodIn wsX6_bestProbe wsX6_singlesMany := goodIn_r _ [14, 1, 15, 16, 17, 9, 18, 19, 20, 21, 22, 23, 24, 25, 26, 27, 28, 29, 30, 31, 32, 33, 7, 8, 10, 34, 35, 36, 37, 38, 39, 40, 2, 41, 42, 43, 44, 45, 46, 47, 48, 49, 4, 50, 51, 52, 53, 54, 55, 56, 57, 58, 59, 60, 61, 62, 63, 64, 65, 66, 67, 68, 69, 70, 71, 72, 73, 74, 75, 76, 77, 78, 79, 80, 81, 82, 83, 84, 85, 86, 87, 88, 89, 90, 91, 92, 93, 94, 103, 104, 105, 106, 107, 108, 109, 110, 111, 112, 113, 114, 115, 116, 117, 118, 119, 120, 121, 122, 123, 124, 125, 126, 127] (by decide +kernel) (by decide +kernel)
set_option maxRecDepth 20000 in
theorem gX6_bestProbe_X6_singlesMany : GoodIn wsX6_bestProbe (wsV RX6 214 RX6 yX6_singlesMany wsX6_singlesMany) := goodIn_app (goodIn_of _ (by decide +kernel)) ggX6_bestProbe_X6_singlesMany
set_option maxRecDepth 20000 in
theorem ggX6_bestProbe_X6_thinks : GoodIn wsX6_bestProbe wsX6_thinks := goodIn_r _ [98, 50, 51, 52, 9, 53, 4, 58, 59, 60, 61, 2, 62, 63, 25, 26, 27, 28, 29, 30, 31, 32, 33, 7, 8, 10, 34, 35, 36, 64, 65, 66, 67, 68, 69, 70, 71, 72, 73, 74, 75, 76, 77, 78, 79, 37, 38, 39, 40, 41, 42, 43, 44, 80, 81, 82, 103, 104, 105, 106, 107, 108, 109, 110, 111, 112, 113, 114, 115, 116, 117, 118, 119, 120, 121, 122, 123, 124, 125, 126, 127] (by decide +kernel) (by decide +kernel)
set_option maxRecDepth 20000 in
theorem gX6_bestProbe_X6_thinks : GoodIn wsX6_bestProbe (wsV RX6 234 RX6 yX6_thinks wsX6_thinks) := goodIn_app (goodIn_of _ (by decide +kernel)) ggX6_bestProbe_X6_thinks
set_option maxRecDepth 20000 in
theorem ggX6_bestProbe_X6_readOf : GoodIn wsX6_bestProbe wsX6_readOf := goodIn_r _ [93, 94] (by decide +kernel) (by decide +kernel)
set_option maxRecDepth 20000 in
theorem gX6_bestProbe_X6_readOf : GoodIn wsX6_bestProbe (va_wsS RX6 118 yX6_readOf wsX6_readOf) := goodIn_app (goodIn_of _ (by decide +kernel)) ggX6_bestProbe_X6_readOf
set_option maxRecDepth 20000 in
theorem ggX6_bestProbe_X6_unlikeAt : GoodIn wsX6_bestProbe wsX6_unlikeAt := goodIn_r _ [102, 1, 3, 103, 104, 105, 106, 107, 108, 109, 110, 111, 112, 113, 114, 115, 116, 117, 118, 119, 120, 121, 122, 123, 124, 125, 126, 127] (by decide +kernel) (by decide +kernel)
set_option maxRecDepth 20000 in
theorem gX6_bestProbe_X6_unlikeAt : GoodIn wsX6_bestProbe (wsV RX6 241 RX6 yX6_unlikeAt wsX6_unlikeAt) := goodIn_app (goodIn_of _ (by decide +kernel)) ggX6_bestProbe_X6_unlikeAt
theorem dX6_bestProbe_0 : decode cX6_bestProbe 0 = .ok (.iload_n 1, 1) := by decide +kernel
theorem dX6_bestProbe_1 : decode cX6_bestProbe 1 = .ok (.iconst 0, 1) := by decide +kernel
theorem dX6_bestProbe_2 : decode cX6_bestProbe 2 = .ok (.iconst 1, 1) := by decide +kernel
theorem dX6_bestProbe_3 : decode cX6_bestProbe 3 = .ok (.invokestatic 68, 3) := by decide +kernel
theorem dX6_bestProbe_6 : decode cX6_bestProbe 6 = .ok (.ifCond .ne 6, 3) := by decide +kernel
theorem dX6_bestProbe_9 : decode cX6_bestProbe 9 = .ok (.bipush (-2), 2) := by decide +kernel
theorem dX6_bestProbe_11 : decode cX6_bestProbe 11 = .ok (.ireturn, 1) := by decide +kernel
theorem dX6_bestProbe_12 : decode cX6_bestProbe 12 = .ok (.aload_n 0, 1) := by decide +kernel
theorem dX6_bestProbe_13 : decode cX6_bestProbe 13 = .ok (.invokevirtual 214, 3) := by decide +kernel
theorem dX6_bestProbe_16 : decode cX6_bestProbe 16 = .ok (.iconst 2, 1) := by decide +kernel
theorem dX6_bestProbe_17 : decode cX6_bestProbe 17 = .ok (.if_icmp .ge 6, 3) := by decide +kernel
theorem dX6_bestProbe_20 : decode cX6_bestProbe 20 = .ok (.bipush (-6), 2) := by decide +kernel
theorem dX6_bestProbe_22 : decode cX6_bestProbe 22 = .ok (.ireturn, 1) := by decide +kernel
theorem dX6_bestProbe_23 : decode cX6_bestProbe 23 = .ok (.iconst 0, 1) := by decide +kernel
theorem dX6_bestProbe_24 : decode cX6_bestProbe 24 = .ok (.istore_n 2, 1) := by decide +kernel
theorem dX6_bestProbe_25 : decode cX6_bestProbe 25 = .ok (.iload_n 2, 1) := by decide +kernel
theorem dX6_bestProbe_26 : decode cX6_bestProbe 26 = .ok (.bipush 64, 2) := by decide +kernel
theorem dX6_bestProbe_28 : decode cX6_bestProbe 28 = .ok (.if_icmp .ge 64, 3) := by decide +kernel
theorem dX6_bestProbe_31 : decode cX6_bestProbe 31 = .ok (.aload_n 0, 1) := by decide +kernel
theorem dX6_bestProbe_32 : decode cX6_bestProbe 32 = .ok (.getfield 47, 3) := by decide +kernel
theorem dX6_bestProbe_35 : decode cX6_bestProbe 35 = .ok (.iload_n 2, 1) := by decide +kernel
theorem dX6_bestProbe_36 : decode cX6_bestProbe 36 = .ok (.iaload, 1) := by decide +kernel
theorem dX6_bestProbe_37 : decode cX6_bestProbe 37 = .ok (.iconst 1, 1) := by decide +kernel
theorem dX6_bestProbe_38 : decode cX6_bestProbe 38 = .ok (.if_icmp .ne 48, 3) := by decide +kernel
theorem dX6_bestProbe_41 : decode cX6_bestProbe 41 = .ok (.aload_n 0, 1) := by decide +kernel
theorem dX6_bestProbe_42 : decode cX6_bestProbe 42 = .ok (.iload_n 2, 1) := by decide +kernel
theorem dX6_bestProbe_43 : decode cX6_bestProbe 43 = .ok (.aload_n 0, 1) := by decide +kernel
theorem dX6_bestProbe_44 : decode cX6_bestProbe 44 = .ok (.getfield 7, 3) := by decide +kernel
theorem dX6_bestProbe_47 : decode cX6_bestProbe 47 = .ok (.iconst 4, 1) := by decide +kernel
theorem dX6_bestProbe_48 : decode cX6_bestProbe 48 = .ok (.iaload, 1) := by decide +kernel
theorem dX6_bestProbe_49 : decode cX6_bestProbe 49 = .ok (.invokevirtual 234, 3) := by decide +kernel
theorem dX6_bestProbe_52 : decode cX6_bestProbe 52 = .ok (.iconst 0, 1) := by decide +kernel
theorem dX6_bestProbe_53 : decode cX6_bestProbe 53 = .ok (.istore_n 3, 1) := by decide +kernel
theorem dX6_bestProbe_54 : decode cX6_bestProbe 54 = .ok (.iload_n 3, 1) := by decide +kernel
theorem dX6_bestProbe_55 : decode cX6_bestProbe 55 = .ok (.bipush 64, 2) := by decide +kernel
theorem dX6_bestProbe_57 : decode cX6_bestProbe 57 = .ok (.if_icmp .ge 29, 3) := by decide +kernel
theorem dX6_bestProbe_60 : decode cX6_bestProbe 60 = .ok (.aload_n 0, 1) := by decide +kernel
theorem dX6_bestProbe_61 : decode cX6_bestProbe 61 = .ok (.getfield 53, 3) := by decide +kernel
theorem dX6_bestProbe_64 : decode cX6_bestProbe 64 = .ok (.bipush 64, 2) := by decide +kernel
theorem dX6_bestProbe_66 : decode cX6_bestProbe 66 = .ok (.iload_n 2, 1) := by decide +kernel
theorem dX6_bestProbe_67 : decode cX6_bestProbe 67 = .ok (.imul, 1) := by decide +kernel
theorem dX6_bestProbe_68 : decode cX6_bestProbe 68 = .ok (.iload_n 3, 1) := by decide +kernel
theorem dX6_bestProbe_69 : decode cX6_bestProbe 69 = .ok (.iadd, 1) := by decide +kernel
theorem dX6_bestProbe_70 : decode cX6_bestProbe 70 = .ok (.aload_n 0, 1) := by decide +kernel
theorem dX6_bestProbe_71 : decode cX6_bestProbe 71 = .ok (.getfield 35, 3) := by decide +kernel
theorem dX6_bestProbe_74 : decode cX6_bestProbe 74 = .ok (.iload_n 3, 1) := by decide +kernel
theorem dX6_bestProbe_75 : decode cX6_bestProbe 75 = .ok (.faload, 1) := by decide +kernel
theorem dX6_bestProbe_76 : decode cX6_bestProbe 76 = .ok (.invokestatic 118, 3) := by decide +kernel
theorem dX6_bestProbe_79 : decode cX6_bestProbe 79 = .ok (.iastore, 1) := by decide +kernel
theorem dX6_bestProbe_80 : decode cX6_bestProbe 80 = .ok (.iinc 3 1, 3) := by decide +kernel
theorem dX6_bestProbe_83 : decode cX6_bestProbe 83 = .ok (.goto (-29), 3) := by decide +kernel
theorem dX6_bestProbe_86 : decode cX6_bestProbe 86 = .ok (.iinc 2 1, 3) := by decide +kernel
theorem dX6_bestProbe_89 : decode cX6_bestProbe 89 = .ok (.goto (-64), 3) := by decide +kernel
theorem dX6_bestProbe_92 : decode cX6_bestProbe 92 = .ok (.aload_n 0, 1) := by decide +kernel
theorem dX6_bestProbe_93 : decode cX6_bestProbe 93 = .ok (.iconst 0, 1) := by decide +kernel
theorem dX6_bestProbe_94 : decode cX6_bestProbe 94 = .ok (.putfield 238, 3) := by decide +kernel
theorem dX6_bestProbe_97 : decode cX6_bestProbe 97 = .ok (.iconst 0, 1) := by decide +kernel
theorem dX6_bestProbe_98 : decode cX6_bestProbe 98 = .ok (.istore_n 2, 1) := by decide +kernel
theorem dX6_bestProbe_99 : decode cX6_bestProbe 99 = .ok (.iload_n 2, 1) := by decide +kernel
theorem dX6_bestProbe_100 : decode cX6_bestProbe 100 = .ok (.bipush 64, 2) := by decide +kernel
theorem dX6_bestProbe_102 : decode cX6_bestProbe 102 = .ok (.if_icmp .ge 55, 3) := by decide +kernel
theorem dX6_bestProbe_105 : decode cX6_bestProbe 105 = .ok (.aload_n 0, 1) := by decide +kernel
theorem dX6_bestProbe_106 : decode cX6_bestProbe 106 = .ok (.iload_n 2, 1) := by decide +kernel
theorem dX6_bestProbe_107 : decode cX6_bestProbe 107 = .ok (.invokevirtual 241, 3) := by decide +kernel
theorem dX6_bestProbe_110 : decode cX6_bestProbe 110 = .ok (.istore_n 3, 1) := by decide +kernel
theorem dX6_bestProbe_111 : decode cX6_bestProbe 111 = .ok (.aload_n 0, 1) := by decide +kernel
theorem dX6_bestProbe_112 : decode cX6_bestProbe 112 = .ok (.iload_n 3, 1) := by decide +kernel
theorem dX6_bestProbe_113 : decode cX6_bestProbe 113 = .ok (.aload_n 0, 1) := by decide +kernel
theorem dX6_bestProbe_114 : decode cX6_bestProbe 114 = .ok (.getfield 238, 3) := by decide +kernel
theorem dX6_bestProbe_117 : decode cX6_bestProbe 117 = .ok (.if_icmp .le 7, 3) := by decide +kernel
theorem dX6_bestProbe_120 : decode cX6_bestProbe 120 = .ok (.iload_n 2, 1) := by decide +kernel
theorem dX6_bestProbe_121 : decode cX6_bestProbe 121 = .ok (.goto 7, 3) := by decide +kernel
theorem dX6_bestProbe_124 : decode cX6_bestProbe 124 = .ok (.aload_n 0, 1) := by decide +kernel
theorem dX6_bestProbe_125 : decode cX6_bestProbe 125 = .ok (.getfield 244, 3) := by decide +kernel
theorem dX6_bestProbe_128 : decode cX6_bestProbe 128 = .ok (.putfield 244, 3) := by decide +kernel
theorem dX6_bestProbe_131 : decode cX6_bestProbe 131 = .ok (.aload_n 0, 1) := by decide +kernel
theorem dX6_bestProbe_132 : decode cX6_bestProbe 132 = .ok (.iload_n 3, 1) := by decide +kernel
theorem dX6_bestProbe_133 : decode cX6_bestProbe 133 = .ok (.aload_n 0, 1) := by decide +kernel
theorem dX6_bestProbe_134 : decode cX6_bestProbe 134 = .ok (.getfield 238, 3) := by decide +kernel
theorem dX6_bestProbe_137 : decode cX6_bestProbe 137 = .ok (.if_icmp .le 7, 3) := by decide +kernel
theorem dX6_bestProbe_140 : decode cX6_bestProbe 140 = .ok (.iload_n 3, 1) := by decide +kernel
theorem dX6_bestProbe_141 : decode cX6_bestProbe 141 = .ok (.goto 7, 3) := by decide +kernel
theorem dX6_bestProbe_144 : decode cX6_bestProbe 144 = .ok (.aload_n 0, 1) := by decide +kernel
theorem dX6_bestProbe_145 : decode cX6_bestProbe 145 = .ok (.getfield 238, 3) := by decide +kernel
theorem dX6_bestProbe_148 : decode cX6_bestProbe 148 = .ok (.putfield 238, 3) := by decide +kernel
theorem dX6_bestProbe_151 : decode cX6_bestProbe 151 = .ok (.iinc 2 1, 3) := by decide +kernel
theorem dX6_bestProbe_154 : decode cX6_bestProbe 154 = .ok (.goto (-55), 3) := by decide +kernel
theorem dX6_bestProbe_157 : decode cX6_bestProbe 157 = .ok (.iload_n 1, 1) := by decide +kernel
theorem dX6_bestProbe_158 : decode cX6_bestProbe 158 = .ok (.ifCond .ne 10, 3) := by decide +kernel
theorem dX6_bestProbe_161 : decode cX6_bestProbe 161 = .ok (.aload_n 0, 1) := by decide +kernel
theorem dX6_bestProbe_162 : decode cX6_bestProbe 162 = .ok (.getfield 244, 3) := by decide +kernel
theorem dX6_bestProbe_165 : decode cX6_bestProbe 165 = .ok (.goto 7, 3) := by decide +kernel
theorem dX6_bestProbe_168 : decode cX6_bestProbe 168 = .ok (.aload_n 0, 1) := by decide +kernel
theorem dX6_bestProbe_169 : decode cX6_bestProbe 169 = .ok (.getfield 238, 3) := by decide +kernel
theorem dX6_bestProbe_172 : decode cX6_bestProbe 172 = .ok (.ireturn, 1) := by decide +kernel
set_option maxRecDepth 20000 in
theorem ggX6_readsIn_X6_isPlace : GoodIn wsX6_readsIn wsX6_isPlace := goodIn_r _ [6, 7, 8, 5, 9, 10, 11, 12] (by decide +kernel) (by decide +kernel)
set_option maxRecDepth 20000 in
theorem gX6_readsIn_X6_isPlace : GoodIn wsX6_readsIn (va_wsS RX6 76 yX6_isPlace wsX6_isPlace) := goodIn_app (goodIn_of _ (by decide +kernel)) ggX6_readsIn_X6_isPlace
set_option maxRecDepth 20000 in
theorem ggX6_readsIn_X6_within : GoodIn wsX6_readsIn wsX6_within := goodIn_r _ [12] (by decide +kernel) (by decide +kernel)
set_option maxRecDepth 20000 in
theorem gX6_readsIn_X6_within : GoodIn wsX6_readsIn (va_wsS RX6 68 yX6_within wsX6_within) := goodIn_app (goodIn_of _ (by decide +kernel)) ggX6_readsIn_X6_within
set_option maxRecDepth 20000 in
theorem ggX6_readsIn_X6_movesWarmth : GoodIn wsX6_readsIn wsX6_movesWarmth := goodIn_r _ [15] (by decide +kernel) (by decide +kernel)
set_option maxRecDepth 20000 in
theorem gX6_readsIn_X6_movesWarmth : GoodIn wsX6_readsIn (va_wsS RX6 64 yX6_movesWarmth wsX6_movesWarmth) := goodIn_app (goodIn_of _ (by decide +kernel)) ggX6_readsIn_X6_movesWarmth
set_option maxRecDepth 20000 in
theorem ggX6_readsIn_X6_placeOf : GoodIn wsX6_readsIn wsX6_placeOf := goodIn_r _ [18] (by decide +kernel) (by decide +kernel)
set_option maxRecDepth 20000 in
theorem gX6_readsIn_X6_placeOf : GoodIn wsX6_readsIn (va_wsS RX6 80 yX6_placeOf wsX6_placeOf) := goodIn_app (goodIn_of _ (by decide +kernel)) ggX6_readsIn_X6_placeOf
set_option maxRecDepth 20000 in
theorem ggX6_readsIn_X6_readOf : GoodIn wsX6_readsIn wsX6_readOf := goodIn_r _ [21, 22] (by decide +kernel) (by decide +kernel)
set_option maxRecDepth 20000 in
theorem gX6_readsIn_X6_readOf : GoodIn wsX6_readsIn (va_wsS RX6 118 yX6_readOf wsX6_readOf) := goodIn_app (goodIn_of _ (by decide +kernel)) ggX6_readsIn_X6_readOf
set_option maxRecDepth 20000 in
theorem ggX6_readsIn_X6_steps : GoodIn wsX6_readsIn wsX6_steps := goodIn_r _ [26, 2, 27, 28, 29, 30, 31, 5, 32, 3, 4, 6, 7, 8, 9, 10, 11, 12, 16, 17, 18, 33, 34, 35, 36, 37, 38, 39, 40, 41, 42, 43, 44, 45, 46, 47, 48, 49, 50, 51, 52, 53, 54, 55, 56, 13, 14, 15, 57, 58, 59, 60, 61, 62, 63, 64, 65, 66, 67, 68, 69, 70, 71, 72, 73, 74, 75, 76, 77, 78, 79, 80, 81] (by decide +kernel) (by decide +kernel)
set_option maxRecDepth 20000 in
theorem gX6_readsIn_X6_steps : GoodIn wsX6_readsIn (wsV RX6 110 RX6 yX6_steps wsX6_steps) := goodIn_app (goodIn_of _ (by decide +kernel)) ggX6_readsIn_X6_steps
theorem dX6_readsIn_0 : decode cX6_readsIn 0 = .ok (.iload_n 1, 1) := by decide +kernel
theorem dX6_readsIn_1 : decode cX6_readsIn 1 = .ok (.iload_n 2, 1) := by decide +kernel
theorem dX6_readsIn_2 : decode cX6_readsIn 2 = .ok (.invokestatic 76, 3) := by decide +kernel
theorem dX6_readsIn_5 : decode cX6_readsIn 5 = .ok (.ifCond .ne 5, 3) := by decide +kernel
theorem dX6_readsIn_8 : decode cX6_readsIn 8 = .ok (.iconst (-1), 1) := by decide +kernel
theorem dX6_readsIn_9 : decode cX6_readsIn 9 = .ok (.ireturn, 1) := by decide +kernel
theorem dX6_readsIn_10 : decode cX6_readsIn 10 = .ok (.iload_n 3, 1) := by decide +kernel
theorem dX6_readsIn_11 : decode cX6_readsIn 11 = .ok (.iconst 1, 1) := by decide +kernel
theorem dX6_readsIn_12 : decode cX6_readsIn 12 = .ok (.sipush 9999, 3) := by decide +kernel
theorem dX6_readsIn_15 : decode cX6_readsIn 15 = .ok (.invokestatic 68, 3) := by decide +kernel
theorem dX6_readsIn_18 : decode cX6_readsIn 18 = .ok (.ifCond .ne 6, 3) := by decide +kernel
theorem dX6_readsIn_21 : decode cX6_readsIn 21 = .ok (.bipush (-2), 2) := by decide +kernel
theorem dX6_readsIn_23 : decode cX6_readsIn 23 = .ok (.ireturn, 1) := by decide +kernel
theorem dX6_readsIn_24 : decode cX6_readsIn 24 = .ok (.aload_n 0, 1) := by decide +kernel
theorem dX6_readsIn_25 : decode cX6_readsIn 25 = .ok (.getfield 13, 3) := by decide +kernel
theorem dX6_readsIn_28 : decode cX6_readsIn 28 = .ok (.iconst 0, 1) := by decide +kernel
theorem dX6_readsIn_29 : decode cX6_readsIn 29 = .ok (.aload_n 0, 1) := by decide +kernel
theorem dX6_readsIn_30 : decode cX6_readsIn 30 = .ok (.getfield 35, 3) := by decide +kernel
theorem dX6_readsIn_33 : decode cX6_readsIn 33 = .ok (.iconst 0, 1) := by decide +kernel
theorem dX6_readsIn_34 : decode cX6_readsIn 34 = .ok (.invokestatic 64, 3) := by decide +kernel
theorem dX6_readsIn_37 : decode cX6_readsIn 37 = .ok (.iload_n 1, 1) := by decide +kernel
theorem dX6_readsIn_38 : decode cX6_readsIn 38 = .ok (.iload_n 2, 1) := by decide +kernel
theorem dX6_readsIn_39 : decode cX6_readsIn 39 = .ok (.invokestatic 80, 3) := by decide +kernel
theorem dX6_readsIn_42 : decode cX6_readsIn 42 = .ok (.istore 4, 2) := by decide +kernel
theorem dX6_readsIn_44 : decode cX6_readsIn 44 = .ok (.iconst 0, 1) := by decide +kernel
theorem dX6_readsIn_45 : decode cX6_readsIn 45 = .ok (.istore 5, 2) := by decide +kernel
theorem dX6_readsIn_47 : decode cX6_readsIn 47 = .ok (.iload 5, 2) := by decide +kernel
theorem dX6_readsIn_49 : decode cX6_readsIn 49 = .ok (.sipush 200, 3) := by decide +kernel
theorem dX6_readsIn_52 : decode cX6_readsIn 52 = .ok (.if_icmp .gt 32, 3) := by decide +kernel
theorem dX6_readsIn_55 : decode cX6_readsIn 55 = .ok (.aload_n 0, 1) := by decide +kernel
theorem dX6_readsIn_56 : decode cX6_readsIn 56 = .ok (.getfield 35, 3) := by decide +kernel
theorem dX6_readsIn_59 : decode cX6_readsIn 59 = .ok (.iload 4, 2) := by decide +kernel
theorem dX6_readsIn_61 : decode cX6_readsIn 61 = .ok (.faload, 1) := by decide +kernel
theorem dX6_readsIn_62 : decode cX6_readsIn 62 = .ok (.invokestatic 118, 3) := by decide +kernel
theorem dX6_readsIn_65 : decode cX6_readsIn 65 = .ok (.iload_n 3, 1) := by decide +kernel
theorem dX6_readsIn_66 : decode cX6_readsIn 66 = .ok (.if_icmp .lt 6, 3) := by decide +kernel
theorem dX6_readsIn_69 : decode cX6_readsIn 69 = .ok (.iload 5, 2) := by decide +kernel
theorem dX6_readsIn_71 : decode cX6_readsIn 71 = .ok (.ireturn, 1) := by decide +kernel
theorem dX6_readsIn_72 : decode cX6_readsIn 72 = .ok (.aload_n 0, 1) := by decide +kernel
theorem dX6_readsIn_73 : decode cX6_readsIn 73 = .ok (.bipush (-6), 2) := by decide +kernel
theorem dX6_readsIn_75 : decode cX6_readsIn 75 = .ok (.invokevirtual 110, 3) := by decide +kernel
theorem dX6_readsIn_78 : decode cX6_readsIn 78 = .ok (.iinc 5 1, 3) := by decide +kernel
theorem dX6_readsIn_81 : decode cX6_readsIn 81 = .ok (.goto (-34), 3) := by decide +kernel
theorem dX6_readsIn_84 : decode cX6_readsIn 84 = .ok (.bipush (-6), 2) := by decide +kernel
theorem dX6_readsIn_86 : decode cX6_readsIn 86 = .ok (.ireturn, 1) := by decide +kernel
set_option maxRecDepth 20000 in
theorem ggX6_wouldRead_X6_isPlace : GoodIn wsX6_wouldRead wsX6_isPlace := goodIn_r _ [6, 7, 8, 5, 9, 10, 11, 12] (by decide +kernel) (by decide +kernel)
set_option maxRecDepth 20000 in
theorem gX6_wouldRead_X6_isPlace : GoodIn wsX6_wouldRead (va_wsS RX6 76 yX6_isPlace wsX6_isPlace) := goodIn_app (goodIn_of _ (by decide +kernel)) ggX6_wouldRead_X6_isPlace
set_option maxRecDepth 20000 in
theorem ggX6_wouldRead_X6_placeOf : GoodIn wsX6_wouldRead wsX6_placeOf := goodIn_r _ [15] (by decide +kernel) (by decide +kernel)
set_option maxRecDepth 20000 in
theorem gX6_wouldRead_X6_placeOf : GoodIn wsX6_wouldRead (va_wsS RX6 80 yX6_placeOf wsX6_placeOf) := goodIn_app (goodIn_of _ (by decide +kernel)) ggX6_wouldRead_X6_placeOf
set_option maxRecDepth 20000 in
theorem ggX6_wouldRead_X6_isSuspect : GoodIn wsX6_wouldRead wsX6_isSuspect := goodIn_r _ [19, 20, 21, 5, 22, 3, 4, 6, 7, 8, 9, 10, 11, 12, 13, 14, 15, 23, 24, 25, 26, 1, 27, 28, 29, 30, 68, 69, 70, 71, 72, 73, 74, 75, 76, 77, 78, 79, 80, 81, 82, 83, 84, 85, 86, 87, 88, 89, 90, 91, 92] (by decide +kernel) (by decide +kernel)
set_option maxRecDepth 20000 in
theorem gX6_wouldRead_X6_isSuspect : GoodIn wsX6_wouldRead (wsV RX6 126 RX6 yX6_isSuspect wsX6_isSuspect) := goodIn_app (goodIn_of _ (by decide +kernel)) ggX6_wouldRead_X6_isSuspect
set_option maxRecDepth 20000 in
theorem ggX6_wouldRead_X6_thinks : GoodIn wsX6_wouldRead wsX6_thinks := goodIn_r _ [34, 35, 36, 37, 5, 38, 2, 39, 40, 41, 42, 1, 43, 44, 20, 21, 22, 3, 4, 6, 7, 8, 9, 10, 11, 12, 13, 14, 15, 45, 46, 47, 48, 49, 50, 51, 52, 53, 54, 55, 56, 57, 58, 59, 60, 23, 24, 25, 26, 27, 28, 29, 30, 61, 62, 63, 68, 69, 70, 71, 72, 73, 74, 75, 76, 77, 78, 79, 80, 81, 82, 83, 84, 85, 86, 87, 88, 89, 90, 91, 92] (by decide +kernel) (by decide +kernel)
set_option maxRecDepth 20000 in
theorem gX6_wouldRead_X6_thinks : GoodIn wsX6_wouldRead (wsV RX6 234 RX6 yX6_thinks wsX6_thinks) := goodIn_app (goodIn_of _ (by decide +kernel)) ggX6_wouldRead_X6_thinks
set_option maxRecDepth 20000 in
theorem ggX6_wouldRead_X6_readOf : GoodIn wsX6_wouldRead wsX6_readOf := goodIn_r _ [66, 67] (by decide +kernel) (by decide +kernel)
set_option maxRecDepth 20000 in
theorem gX6_wouldRead_X6_readOf : GoodIn wsX6_wouldRead (va_wsS RX6 118 yX6_readOf wsX6_readOf) := goodIn_app (goodIn_of _ (by decide +kernel)) ggX6_wouldRead_X6_readOf
theorem dX6_wouldRead_0 : decode cX6_wouldRead 0 = .ok (.iload_n 1, 1) := by decide +kernel
theorem dX6_wouldRead_1 : decode cX6_wouldRead 1 = .ok (.iload_n 2, 1) := by decide +kernel
theorem dX6_wouldRead_2 : decode cX6_wouldRead 2 = .ok (.invokestatic 76, 3) := by decide +kernel
theorem dX6_wouldRead_5 : decode cX6_wouldRead 5 = .ok (.ifCond .eq 25, 3) := by decide +kernel
theorem dX6_wouldRead_8 : decode cX6_wouldRead 8 = .ok (.iload_n 3, 1) := by decide +kernel
theorem dX6_wouldRead_9 : decode cX6_wouldRead 9 = .ok (.iload 4, 2) := by decide +kernel
theorem dX6_wouldRead_11 : decode cX6_wouldRead 11 = .ok (.invokestatic 76, 3) := by decide +kernel
theorem dX6_wouldRead_14 : decode cX6_wouldRead 14 = .ok (.ifCond .eq 16, 3) := by decide +kernel
theorem dX6_wouldRead_17 : decode cX6_wouldRead 17 = .ok (.aload_n 0, 1) := by decide +kernel
theorem dX6_wouldRead_18 : decode cX6_wouldRead 18 = .ok (.iload_n 3, 1) := by decide +kernel
theorem dX6_wouldRead_19 : decode cX6_wouldRead 19 = .ok (.iload 4, 2) := by decide +kernel
theorem dX6_wouldRead_21 : decode cX6_wouldRead 21 = .ok (.invokestatic 80, 3) := by decide +kernel
theorem dX6_wouldRead_24 : decode cX6_wouldRead 24 = .ok (.invokevirtual 126, 3) := by decide +kernel
theorem dX6_wouldRead_27 : decode cX6_wouldRead 27 = .ok (.ifCond .ne 5, 3) := by decide +kernel
theorem dX6_wouldRead_30 : decode cX6_wouldRead 30 = .ok (.iconst (-1), 1) := by decide +kernel
theorem dX6_wouldRead_31 : decode cX6_wouldRead 31 = .ok (.ireturn, 1) := by decide +kernel
theorem dX6_wouldRead_32 : decode cX6_wouldRead 32 = .ok (.aload_n 0, 1) := by decide +kernel
theorem dX6_wouldRead_33 : decode cX6_wouldRead 33 = .ok (.iload_n 3, 1) := by decide +kernel
theorem dX6_wouldRead_34 : decode cX6_wouldRead 34 = .ok (.iload 4, 2) := by decide +kernel
theorem dX6_wouldRead_36 : decode cX6_wouldRead 36 = .ok (.invokestatic 80, 3) := by decide +kernel
theorem dX6_wouldRead_39 : decode cX6_wouldRead 39 = .ok (.aload_n 0, 1) := by decide +kernel
theorem dX6_wouldRead_40 : decode cX6_wouldRead 40 = .ok (.getfield 7, 3) := by decide +kernel
theorem dX6_wouldRead_43 : decode cX6_wouldRead 43 = .ok (.iconst 4, 1) := by decide +kernel
theorem dX6_wouldRead_44 : decode cX6_wouldRead 44 = .ok (.iaload, 1) := by decide +kernel
theorem dX6_wouldRead_45 : decode cX6_wouldRead 45 = .ok (.invokevirtual 234, 3) := by decide +kernel
theorem dX6_wouldRead_48 : decode cX6_wouldRead 48 = .ok (.aload_n 0, 1) := by decide +kernel
theorem dX6_wouldRead_49 : decode cX6_wouldRead 49 = .ok (.getfield 35, 3) := by decide +kernel
theorem dX6_wouldRead_52 : decode cX6_wouldRead 52 = .ok (.iload_n 1, 1) := by decide +kernel
theorem dX6_wouldRead_53 : decode cX6_wouldRead 53 = .ok (.iload_n 2, 1) := by decide +kernel
theorem dX6_wouldRead_54 : decode cX6_wouldRead 54 = .ok (.invokestatic 80, 3) := by decide +kernel
theorem dX6_wouldRead_57 : decode cX6_wouldRead 57 = .ok (.faload, 1) := by decide +kernel
theorem dX6_wouldRead_58 : decode cX6_wouldRead 58 = .ok (.invokestatic 118, 3) := by decide +kernel
theorem dX6_wouldRead_61 : decode cX6_wouldRead 61 = .ok (.ireturn, 1) := by decide +kernel
set_option maxRecDepth 20000 in
theorem ggX6_put_X6_within : GoodIn wsX6_put wsX6_within := goodIn_r _ [7] (by decide +kernel) (by decide +kernel)
set_option maxRecDepth 20000 in
theorem gX6_put_X6_within : GoodIn wsX6_put (va_wsS RX6 68 yX6_within wsX6_within) := goodIn_app (goodIn_of _ (by decide +kernel)) ggX6_put_X6_within
theorem dX6_put_0 : decode cX6_put 0 = .ok (.iconst 0, 1) := by decide +kernel
theorem dX6_put_1 : decode cX6_put 1 = .ok (.istore_n 3, 1) := by decide +kernel
theorem dX6_put_2 : decode cX6_put 2 = .ok (.lload_n 1, 1) := by decide +kernel
theorem dX6_put_3 : decode cX6_put 3 = .ok (.lstore 4, 2) := by decide +kernel
theorem dX6_put_5 : decode cX6_put 5 = .ok (.iconst 1, 1) := by decide +kernel
theorem dX6_put_6 : decode cX6_put 6 = .ok (.istore 6, 2) := by decide +kernel
theorem dX6_put_8 : decode cX6_put 8 = .ok (.iload_n 3, 1) := by decide +kernel
theorem dX6_put_9 : decode cX6_put 9 = .ok (.bipush 8, 2) := by decide +kernel
theorem dX6_put_11 : decode cX6_put 11 = .ok (.if_icmp .ge 56, 3) := by decide +kernel
theorem dX6_put_14 : decode cX6_put 14 = .ok (.lload 4, 2) := by decide +kernel
theorem dX6_put_16 : decode cX6_put 16 = .ok (.ldc2_w 247, 3) := by decide +kernel
theorem dX6_put_19 : decode cX6_put 19 = .ok (.land, 1) := by decide +kernel
theorem dX6_put_20 : decode cX6_put 20 = .ok (.lconst 0, 1) := by decide +kernel
theorem dX6_put_21 : decode cX6_put 21 = .ok (.lcmp, 1) := by decide +kernel
theorem dX6_put_22 : decode cX6_put 22 = .ok (.ifCond .eq 45, 3) := by decide +kernel
theorem dX6_put_25 : decode cX6_put 25 = .ok (.iload 6, 2) := by decide +kernel
theorem dX6_put_27 : decode cX6_put 27 = .ok (.ifCond .eq 24, 3) := by decide +kernel
theorem dX6_put_30 : decode cX6_put 30 = .ok (.lload 4, 2) := by decide +kernel
theorem dX6_put_32 : decode cX6_put 32 = .ok (.ldc2_w 247, 3) := by decide +kernel
theorem dX6_put_35 : decode cX6_put 35 = .ok (.land, 1) := by decide +kernel
theorem dX6_put_36 : decode cX6_put 36 = .ok (.l2i, 1) := by decide +kernel
theorem dX6_put_37 : decode cX6_put 37 = .ok (.bipush 33, 2) := by decide +kernel
theorem dX6_put_39 : decode cX6_put 39 = .ok (.bipush 126, 2) := by decide +kernel
theorem dX6_put_41 : decode cX6_put 41 = .ok (.invokestatic 68, 3) := by decide +kernel
theorem dX6_put_44 : decode cX6_put 44 = .ok (.ifCond .eq 7, 3) := by decide +kernel
theorem dX6_put_47 : decode cX6_put 47 = .ok (.iconst 1, 1) := by decide +kernel
theorem dX6_put_48 : decode cX6_put 48 = .ok (.goto 4, 3) := by decide +kernel
theorem dX6_put_51 : decode cX6_put 51 = .ok (.iconst 0, 1) := by decide +kernel
theorem dX6_put_52 : decode cX6_put 52 = .ok (.istore 6, 2) := by decide +kernel
theorem dX6_put_54 : decode cX6_put 54 = .ok (.lload 4, 2) := by decide +kernel
theorem dX6_put_56 : decode cX6_put 56 = .ok (.bipush 8, 2) := by decide +kernel
theorem dX6_put_58 : decode cX6_put 58 = .ok (.lushr, 1) := by decide +kernel
theorem dX6_put_59 : decode cX6_put 59 = .ok (.lstore 4, 2) := by decide +kernel
theorem dX6_put_61 : decode cX6_put 61 = .ok (.iinc 3 1, 3) := by decide +kernel
theorem dX6_put_64 : decode cX6_put 64 = .ok (.goto (-56), 3) := by decide +kernel
theorem dX6_put_67 : decode cX6_put 67 = .ok (.iload_n 3, 1) := by decide +kernel
theorem dX6_put_68 : decode cX6_put 68 = .ok (.ifCond .eq 15, 3) := by decide +kernel
theorem dX6_put_71 : decode cX6_put 71 = .ok (.iload 6, 2) := by decide +kernel
theorem dX6_put_73 : decode cX6_put 73 = .ok (.ifCond .eq 10, 3) := by decide +kernel
theorem dX6_put_76 : decode cX6_put 76 = .ok (.lload 4, 2) := by decide +kernel
theorem dX6_put_78 : decode cX6_put 78 = .ok (.lconst 0, 1) := by decide +kernel
theorem dX6_put_79 : decode cX6_put 79 = .ok (.lcmp, 1) := by decide +kernel
theorem dX6_put_80 : decode cX6_put 80 = .ok (.ifCond .eq 6, 3) := by decide +kernel
theorem dX6_put_83 : decode cX6_put 83 = .ok (.bipush (-2), 2) := by decide +kernel
theorem dX6_put_85 : decode cX6_put 85 = .ok (.ireturn, 1) := by decide +kernel
theorem dX6_put_86 : decode cX6_put 86 = .ok (.aload_n 0, 1) := by decide +kernel
theorem dX6_put_87 : decode cX6_put 87 = .ok (.getfield 223, 3) := by decide +kernel
theorem dX6_put_90 : decode cX6_put 90 = .ok (.iload_n 3, 1) := by decide +kernel
theorem dX6_put_91 : decode cX6_put 91 = .ok (.iadd, 1) := by decide +kernel
theorem dX6_put_92 : decode cX6_put 92 = .ok (.bipush 80, 2) := by decide +kernel
theorem dX6_put_94 : decode cX6_put 94 = .ok (.if_icmp .le 6, 3) := by decide +kernel
theorem dX6_put_97 : decode cX6_put 97 = .ok (.bipush (-4), 2) := by decide +kernel
theorem dX6_put_99 : decode cX6_put 99 = .ok (.ireturn, 1) := by decide +kernel
theorem dX6_put_100 : decode cX6_put 100 = .ok (.iload_n 3, 1) := by decide +kernel
theorem dX6_put_101 : decode cX6_put 101 = .ok (.iconst 1, 1) := by decide +kernel
theorem dX6_put_102 : decode cX6_put 102 = .ok (.isub, 1) := by decide +kernel
theorem dX6_put_103 : decode cX6_put 103 = .ok (.istore 7, 2) := by decide +kernel
theorem dX6_put_105 : decode cX6_put 105 = .ok (.iload 7, 2) := by decide +kernel
theorem dX6_put_107 : decode cX6_put 107 = .ok (.ifCond .lt 40, 3) := by decide +kernel
theorem dX6_put_110 : decode cX6_put 110 = .ok (.aload_n 0, 1) := by decide +kernel
theorem dX6_put_111 : decode cX6_put 111 = .ok (.getfield 32, 3) := by decide +kernel
theorem dX6_put_114 : decode cX6_put 114 = .ok (.aload_n 0, 1) := by decide +kernel
theorem dX6_put_115 : decode cX6_put 115 = .ok (.getfield 223, 3) := by decide +kernel
theorem dX6_put_118 : decode cX6_put 118 = .ok (.lload_n 1, 1) := by decide +kernel
theorem dX6_put_119 : decode cX6_put 119 = .ok (.bipush 8, 2) := by decide +kernel
theorem dX6_put_121 : decode cX6_put 121 = .ok (.iload 7, 2) := by decide +kernel
theorem dX6_put_123 : decode cX6_put 123 = .ok (.imul, 1) := by decide +kernel
theorem dX6_put_124 : decode cX6_put 124 = .ok (.lushr, 1) := by decide +kernel
theorem dX6_put_125 : decode cX6_put 125 = .ok (.ldc2_w 247, 3) := by decide +kernel
theorem dX6_put_128 : decode cX6_put 128 = .ok (.land, 1) := by decide +kernel
theorem dX6_put_129 : decode cX6_put 129 = .ok (.l2i, 1) := by decide +kernel
theorem dX6_put_130 : decode cX6_put 130 = .ok (.iastore, 1) := by decide +kernel
theorem dX6_put_131 : decode cX6_put 131 = .ok (.aload_n 0, 1) := by decide +kernel
theorem dX6_put_132 : decode cX6_put 132 = .ok (.dup, 1) := by decide +kernel
theorem dX6_put_133 : decode cX6_put 133 = .ok (.getfield 223, 3) := by decide +kernel
theorem dX6_put_136 : decode cX6_put 136 = .ok (.iconst 1, 1) := by decide +kernel
theorem dX6_put_137 : decode cX6_put 137 = .ok (.iadd, 1) := by decide +kernel
theorem dX6_put_138 : decode cX6_put 138 = .ok (.putfield 223, 3) := by decide +kernel
theorem dX6_put_141 : decode cX6_put 141 = .ok (.iinc 7 (-1), 3) := by decide +kernel
theorem dX6_put_144 : decode cX6_put 144 = .ok (.goto (-39), 3) := by decide +kernel
theorem dX6_put_147 : decode cX6_put 147 = .ok (.aload_n 0, 1) := by decide +kernel
theorem dX6_put_148 : decode cX6_put 148 = .ok (.getfield 223, 3) := by decide +kernel
theorem dX6_put_151 : decode cX6_put 151 = .ok (.ireturn, 1) := by decide +kernel
theorem dX6_wipe_0 : decode cX6_wipe 0 = .ok (.aload_n 0, 1) := by decide +kernel
theorem dX6_wipe_1 : decode cX6_wipe 1 = .ok (.getfield 223, 3) := by decide +kernel
theorem dX6_wipe_4 : decode cX6_wipe 4 = .ok (.istore_n 1, 1) := by decide +kernel
theorem dX6_wipe_5 : decode cX6_wipe 5 = .ok (.aload_n 0, 1) := by decide +kernel
theorem dX6_wipe_6 : decode cX6_wipe 6 = .ok (.iconst 0, 1) := by decide +kernel
theorem dX6_wipe_7 : decode cX6_wipe 7 = .ok (.putfield 223, 3) := by decide +kernel
theorem dX6_wipe_10 : decode cX6_wipe 10 = .ok (.iload_n 1, 1) := by decide +kernel
theorem dX6_wipe_11 : decode cX6_wipe 11 = .ok (.ireturn, 1) := by decide +kernel
theorem dX6_character_0 : decode cX6_character 0 = .ok (.iload_n 1, 1) := by decide +kernel
theorem dX6_character_1 : decode cX6_character 1 = .ok (.aload_n 0, 1) := by decide +kernel
theorem dX6_character_2 : decode cX6_character 2 = .ok (.getfield 223, 3) := by decide +kernel
theorem dX6_character_5 : decode cX6_character 5 = .ok (.if_icmp .ge 12, 3) := by decide +kernel
theorem dX6_character_8 : decode cX6_character 8 = .ok (.aload_n 0, 1) := by decide +kernel
theorem dX6_character_9 : decode cX6_character 9 = .ok (.getfield 32, 3) := by decide +kernel
theorem dX6_character_12 : decode cX6_character 12 = .ok (.iload_n 1, 1) := by decide +kernel
theorem dX6_character_13 : decode cX6_character 13 = .ok (.iaload, 1) := by decide +kernel
theorem dX6_character_14 : decode cX6_character 14 = .ok (.goto 4, 3) := by decide +kernel
theorem dX6_character_17 : decode cX6_character 17 = .ok (.iconst (-1), 1) := by decide +kernel
theorem dX6_character_18 : decode cX6_character 18 = .ok (.ireturn, 1) := by decide +kernel
set_option maxRecDepth 20000 in
theorem ggX6_isNext_X6_character : GoodIn wsX6_isNext wsX6_character := goodIn_r _ [6, 7, 8, 9, 10, 11, 12, 13, 14, 15, 16, 17, 18, 19, 20, 21, 22, 23, 24, 25, 26, 27, 28, 29, 30, 31, 32, 33] (by decide +kernel) (by decide +kernel)
set_option maxRecDepth 20000 in
theorem gX6_isNext_X6_character : GoodIn wsX6_isNext (wsV RX6 252 RX6 yX6_character wsX6_character) := goodIn_app (goodIn_of _ (by decide +kernel)) ggX6_isNext_X6_character
theorem dX6_isNext_0 : decode cX6_isNext 0 = .ok (.aload_n 0, 1) := by decide +kernel
theorem dX6_isNext_1 : decode cX6_isNext 1 = .ok (.aload_n 0, 1) := by decide +kernel
theorem dX6_isNext_2 : decode cX6_isNext 2 = .ok (.getfield 249, 3) := by decide +kernel
theorem dX6_isNext_5 : decode cX6_isNext 5 = .ok (.invokevirtual 252, 3) := by decide +kernel
theorem dX6_isNext_8 : decode cX6_isNext 8 = .ok (.iload_n 1, 1) := by decide +kernel
theorem dX6_isNext_9 : decode cX6_isNext 9 = .ok (.if_icmp .ne 7, 3) := by decide +kernel
theorem dX6_isNext_12 : decode cX6_isNext 12 = .ok (.iconst 1, 1) := by decide +kernel
theorem dX6_isNext_13 : decode cX6_isNext 13 = .ok (.goto 4, 3) := by decide +kernel
theorem dX6_isNext_16 : decode cX6_isNext 16 = .ok (.iconst 0, 1) := by decide +kernel
theorem dX6_isNext_17 : decode cX6_isNext 17 = .ok (.istore_n 2, 1) := by decide +kernel
theorem dX6_isNext_18 : decode cX6_isNext 18 = .ok (.aload_n 0, 1) := by decide +kernel
theorem dX6_isNext_19 : decode cX6_isNext 19 = .ok (.dup, 1) := by decide +kernel
theorem dX6_isNext_20 : decode cX6_isNext 20 = .ok (.getfield 249, 3) := by decide +kernel
theorem dX6_isNext_23 : decode cX6_isNext 23 = .ok (.iload_n 2, 1) := by decide +kernel
theorem dX6_isNext_24 : decode cX6_isNext 24 = .ok (.ifCond .eq 7, 3) := by decide +kernel
theorem dX6_isNext_27 : decode cX6_isNext 27 = .ok (.iconst 1, 1) := by decide +kernel
theorem dX6_isNext_28 : decode cX6_isNext 28 = .ok (.goto 4, 3) := by decide +kernel
theorem dX6_isNext_31 : decode cX6_isNext 31 = .ok (.iconst 0, 1) := by decide +kernel
theorem dX6_isNext_32 : decode cX6_isNext 32 = .ok (.iadd, 1) := by decide +kernel
theorem dX6_isNext_33 : decode cX6_isNext 33 = .ok (.putfield 249, 3) := by decide +kernel
theorem dX6_isNext_36 : decode cX6_isNext 36 = .ok (.iload_n 2, 1) := by decide +kernel
theorem dX6_isNext_37 : decode cX6_isNext 37 = .ok (.ireturn, 1) := by decide +kernel
set_option maxRecDepth 20000 in
theorem ggX6_isDigit_X6_character : GoodIn wsX6_isDigit wsX6_character := goodIn_r _ [6, 7, 8, 12, 13, 14, 15, 16, 17, 18, 19, 20, 21, 22, 23, 24, 25, 26, 27, 28, 29, 30, 31, 32, 33, 34, 35, 36] (by decide +kernel) (by decide +kernel)
set_option maxRecDepth 20000 in
theorem gX6_isDigit_X6_character : GoodIn wsX6_isDigit (wsV RX6 252 RX6 yX6_character wsX6_character) := goodIn_app (goodIn_of _ (by decide +kernel)) ggX6_isDigit_X6_character
set_option maxRecDepth 20000 in
theorem ggX6_isDigit_X6_within : GoodIn wsX6_isDigit wsX6_within := goodIn_r _ [11] (by decide +kernel) (by decide +kernel)
set_option maxRecDepth 20000 in
theorem gX6_isDigit_X6_within : GoodIn wsX6_isDigit (va_wsS RX6 68 yX6_within wsX6_within) := goodIn_app (goodIn_of _ (by decide +kernel)) ggX6_isDigit_X6_within
theorem dX6_isDigit_0 : decode cX6_isDigit 0 = .ok (.aload_n 0, 1) := by decide +kernel
theorem dX6_isDigit_1 : decode cX6_isDigit 1 = .ok (.aload_n 0, 1) := by decide +kernel
theorem dX6_isDigit_2 : decode cX6_isDigit 2 = .ok (.getfield 249, 3) := by decide +kernel
theorem dX6_isDigit_5 : decode cX6_isDigit 5 = .ok (.invokevirtual 252, 3) := by decide +kernel
theorem dX6_isDigit_8 : decode cX6_isDigit 8 = .ok (.bipush 48, 2) := by decide +kernel
theorem dX6_isDigit_10 : decode cX6_isDigit 10 = .ok (.bipush 57, 2) := by decide +kernel
theorem dX6_isDigit_12 : decode cX6_isDigit 12 = .ok (.invokestatic 68, 3) := by decide +kernel
theorem dX6_isDigit_15 : decode cX6_isDigit 15 = .ok (.ireturn, 1) := by decide +kernel
set_option maxRecDepth 20000 in
theorem ggX6_readsDigit_X6_isDigit : GoodIn wsX6_readsDigit wsX6_isDigit := goodIn_r _ [7, 1, 8, 9, 10, 6, 11, 12, 13, 14, 15, 16, 17, 18, 19, 20, 21, 22, 23, 24, 25, 26, 27, 28, 29, 30, 31, 32, 33, 34, 35, 36, 37, 38, 39, 40, 41] (by decide +kernel) (by decide +kernel)
set_option maxRecDepth 20000 in
theorem gX6_readsDigit_X6_isDigit : GoodIn wsX6_readsDigit (wsV RX6 255 RX6 yX6_isDigit wsX6_isDigit) := goodIn_app (goodIn_of _ (by decide +kernel)) ggX6_readsDigit_X6_isDigit
set_option maxRecDepth 20000 in
theorem ggX6_readsDigit_X6_character : GoodIn wsX6_readsDigit wsX6_character := goodIn_r _ [11, 12, 13, 17, 18, 19, 20, 21, 22, 23, 24, 25, 26, 27, 28, 29, 30, 31, 32, 33, 34, 35, 36, 37, 38, 39, 40, 41] (by decide +kernel) (by decide +kernel)
set_option maxRecDepth 20000 in
theorem gX6_readsDigit_X6_character : GoodIn wsX6_readsDigit (wsV RX6 252 RX6 yX6_character wsX6_character) := goodIn_app (goodIn_of _ (by decide +kernel)) ggX6_readsDigit_X6_character
theorem dX6_readsDigit_0 : decode cX6_readsDigit 0 = .ok (.aload_n 0, 1) := by decide +kernel
theorem dX6_readsDigit_1 : decode cX6_readsDigit 1 = .ok (.invokevirtual 255, 3) := by decide +kernel
theorem dX6_readsDigit_4 : decode cX6_readsDigit 4 = .ok (.ifCond .ne 5, 3) := by decide +kernel
theorem dX6_readsDigit_7 : decode cX6_readsDigit 7 = .ok (.iconst 0, 1) := by decide +kernel
theorem dX6_readsDigit_8 : decode cX6_readsDigit 8 = .ok (.ireturn, 1) := by decide +kernel
theorem dX6_readsDigit_9 : decode cX6_readsDigit 9 = .ok (.aload_n 0, 1) := by decide +kernel
theorem dX6_readsDigit_10 : decode cX6_readsDigit 10 = .ok (.aload_n 0, 1) := by decide +kernel
theorem dX6_readsDigit_11 : decode cX6_readsDigit 11 = .ok (.aload_n 0, 1) := by decide +kernel
theorem dX6_readsDigit_12 : decode cX6_readsDigit 12 = .ok (.getfield 249, 3) := by decide +kernel
theorem dX6_readsDigit_15 : decode cX6_readsDigit 15 = .ok (.invokevirtual 252, 3) := by decide +kernel
theorem dX6_readsDigit_18 : decode cX6_readsDigit 18 = .ok (.bipush 48, 2) := by decide +kernel
theorem dX6_readsDigit_20 : decode cX6_readsDigit 20 = .ok (.isub, 1) := by decide +kernel
theorem dX6_readsDigit_21 : decode cX6_readsDigit 21 = .ok (.putfield 259, 3) := by decide +kernel
theorem dX6_readsDigit_24 : decode cX6_readsDigit 24 = .ok (.aload_n 0, 1) := by decide +kernel
theorem dX6_readsDigit_25 : decode cX6_readsDigit 25 = .ok (.dup, 1) := by decide +kernel
theorem dX6_readsDigit_26 : decode cX6_readsDigit 26 = .ok (.getfield 249, 3) := by decide +kernel
theorem dX6_readsDigit_29 : decode cX6_readsDigit 29 = .ok (.iconst 1, 1) := by decide +kernel
theorem dX6_readsDigit_30 : decode cX6_readsDigit 30 = .ok (.iadd, 1) := by decide +kernel
theorem dX6_readsDigit_31 : decode cX6_readsDigit 31 = .ok (.putfield 249, 3) := by decide +kernel
theorem dX6_readsDigit_34 : decode cX6_readsDigit 34 = .ok (.iconst 1, 1) := by decide +kernel
theorem dX6_readsDigit_35 : decode cX6_readsDigit 35 = .ok (.ireturn, 1) := by decide +kernel
set_option maxRecDepth 20000 in
theorem ggX6_readsNumber_X6_readsDigit : GoodIn wsX6_readsNumber wsX6_readsDigit := goodIn_r _ [7, 2, 1, 8, 9, 10, 6, 11, 12, 13, 14, 15, 16, 17, 18, 19, 20, 21, 22, 23, 24, 25, 26, 27, 28, 29, 30, 31, 32, 33, 34, 35, 36, 37, 38, 39, 40, 41, 42, 43, 44, 45] (by decide +kernel) (by decide +kernel)
set_option maxRecDepth 20000 in
theorem gX6_readsNumber_X6_readsDigit : GoodIn wsX6_readsNumber (wsV RX6 262 RX6 yX6_readsDigit wsX6_readsDigit) := goodIn_app (goodIn_of _ (by decide +kernel)) ggX6_readsNumber_X6_readsDigit
set_option maxRecDepth 20000 in
theorem ggX6_readsNumber_X6_isDigit : GoodIn wsX6_readsNumber wsX6_isDigit := goodIn_r _ [11, 2, 12, 13, 14, 6, 15, 16, 17, 18, 19, 20, 21, 22, 23, 24, 25, 26, 27, 28, 29, 30, 31, 32, 33, 34, 35, 36, 37, 38, 39, 40, 41, 42, 43, 44, 45] (by decide +kernel) (by decide +kernel)
set_option maxRecDepth 20000 in
theorem gX6_readsNumber_X6_isDigit : GoodIn wsX6_readsNumber (wsV RX6 255 RX6 yX6_isDigit wsX6_isDigit) := goodIn_app (goodIn_of _ (by decide +kernel)) ggX6_readsNumber_X6_isDigit
set_option maxRecDepth 20000 in
theorem ggX6_readsNumber_X6_character : GoodIn wsX6_readsNumber wsX6_character := goodIn_r _ [15, 16, 17, 21, 22, 23, 24, 25, 26, 27, 28, 29, 30, 31, 32, 33, 34, 35, 36, 37, 38, 39, 40, 41, 42, 43, 44, 45] (by decide +kernel) (by decide +kernel)
set_option maxRecDepth 20000 in
theorem gX6_readsNumber_X6_character : GoodIn wsX6_readsNumber (wsV RX6 252 RX6 yX6_character wsX6_character) := goodIn_app (goodIn_of _ (by decide +kernel)) ggX6_readsNumber_X6_character
theorem dX6_readsNumber_0 : decode cX6_readsNumber 0 = .ok (.aload_n 0, 1) := by decide +kernel
theorem dX6_readsNumber_1 : decode cX6_readsNumber 1 = .ok (.invokevirtual 262, 3) := by decide +kernel
theorem dX6_readsNumber_4 : decode cX6_readsNumber 4 = .ok (.ifCond .ne 5, 3) := by decide +kernel
theorem dX6_readsNumber_7 : decode cX6_readsNumber 7 = .ok (.iconst 0, 1) := by decide +kernel
theorem dX6_readsNumber_8 : decode cX6_readsNumber 8 = .ok (.ireturn, 1) := by decide +kernel
theorem dX6_readsNumber_9 : decode cX6_readsNumber 9 = .ok (.aload_n 0, 1) := by decide +kernel
theorem dX6_readsNumber_10 : decode cX6_readsNumber 10 = .ok (.getfield 259, 3) := by decide +kernel
theorem dX6_readsNumber_13 : decode cX6_readsNumber 13 = .ok (.ifCond .le 43, 3) := by decide +kernel
theorem dX6_readsNumber_16 : decode cX6_readsNumber 16 = .ok (.aload_n 0, 1) := by decide +kernel
theorem dX6_readsNumber_17 : decode cX6_readsNumber 17 = .ok (.invokevirtual 255, 3) := by decide +kernel
theorem dX6_readsNumber_20 : decode cX6_readsNumber 20 = .ok (.ifCond .eq 36, 3) := by decide +kernel
theorem dX6_readsNumber_23 : decode cX6_readsNumber 23 = .ok (.aload_n 0, 1) := by decide +kernel
theorem dX6_readsNumber_24 : decode cX6_readsNumber 24 = .ok (.bipush 10, 2) := by decide +kernel
theorem dX6_readsNumber_26 : decode cX6_readsNumber 26 = .ok (.aload_n 0, 1) := by decide +kernel
theorem dX6_readsNumber_27 : decode cX6_readsNumber 27 = .ok (.getfield 259, 3) := by decide +kernel
theorem dX6_readsNumber_30 : decode cX6_readsNumber 30 = .ok (.imul, 1) := by decide +kernel
theorem dX6_readsNumber_31 : decode cX6_readsNumber 31 = .ok (.aload_n 0, 1) := by decide +kernel
theorem dX6_readsNumber_32 : decode cX6_readsNumber 32 = .ok (.aload_n 0, 1) := by decide +kernel
theorem dX6_readsNumber_33 : decode cX6_readsNumber 33 = .ok (.getfield 249, 3) := by decide +kernel
theorem dX6_readsNumber_36 : decode cX6_readsNumber 36 = .ok (.invokevirtual 252, 3) := by decide +kernel
theorem dX6_readsNumber_39 : decode cX6_readsNumber 39 = .ok (.iadd, 1) := by decide +kernel
theorem dX6_readsNumber_40 : decode cX6_readsNumber 40 = .ok (.bipush 48, 2) := by decide +kernel
theorem dX6_readsNumber_42 : decode cX6_readsNumber 42 = .ok (.isub, 1) := by decide +kernel
theorem dX6_readsNumber_43 : decode cX6_readsNumber 43 = .ok (.putfield 259, 3) := by decide +kernel
theorem dX6_readsNumber_46 : decode cX6_readsNumber 46 = .ok (.aload_n 0, 1) := by decide +kernel
theorem dX6_readsNumber_47 : decode cX6_readsNumber 47 = .ok (.dup, 1) := by decide +kernel
theorem dX6_readsNumber_48 : decode cX6_readsNumber 48 = .ok (.getfield 249, 3) := by decide +kernel
theorem dX6_readsNumber_51 : decode cX6_readsNumber 51 = .ok (.iconst 1, 1) := by decide +kernel
theorem dX6_readsNumber_52 : decode cX6_readsNumber 52 = .ok (.iadd, 1) := by decide +kernel
theorem dX6_readsNumber_53 : decode cX6_readsNumber 53 = .ok (.putfield 249, 3) := by decide +kernel
theorem dX6_readsNumber_56 : decode cX6_readsNumber 56 = .ok (.iconst 1, 1) := by decide +kernel
theorem dX6_readsNumber_57 : decode cX6_readsNumber 57 = .ok (.ireturn, 1) := by decide +kernel
set_option maxRecDepth 20000 in
theorem ggX6_isColumn_X6_character : GoodIn wsX6_isColumn wsX6_character := goodIn_r _ [6, 7, 8, 12, 13, 14, 15, 16, 17, 18, 19, 20, 21, 22, 23, 24, 25, 26, 27, 28, 29, 30, 31, 32, 33, 34, 35, 36] (by decide +kernel) (by decide +kernel)
set_option maxRecDepth 20000 in
theorem gX6_isColumn_X6_character : GoodIn wsX6_isColumn (wsV RX6 252 RX6 yX6_character wsX6_character) := goodIn_app (goodIn_of _ (by decide +kernel)) ggX6_isColumn_X6_character
set_option maxRecDepth 20000 in
theorem ggX6_isColumn_X6_within : GoodIn wsX6_isColumn wsX6_within := goodIn_r _ [11] (by decide +kernel) (by decide +kernel)
set_option maxRecDepth 20000 in
theorem gX6_isColumn_X6_within : GoodIn wsX6_isColumn (va_wsS RX6 68 yX6_within wsX6_within) := goodIn_app (goodIn_of _ (by decide +kernel)) ggX6_isColumn_X6_within
theorem dX6_isColumn_0 : decode cX6_isColumn 0 = .ok (.aload_n 0, 1) := by decide +kernel
theorem dX6_isColumn_1 : decode cX6_isColumn 1 = .ok (.aload_n 0, 1) := by decide +kernel
theorem dX6_isColumn_2 : decode cX6_isColumn 2 = .ok (.getfield 249, 3) := by decide +kernel
theorem dX6_isColumn_5 : decode cX6_isColumn 5 = .ok (.invokevirtual 252, 3) := by decide +kernel
theorem dX6_isColumn_8 : decode cX6_isColumn 8 = .ok (.bipush 97, 2) := by decide +kernel
theorem dX6_isColumn_10 : decode cX6_isColumn 10 = .ok (.bipush 104, 2) := by decide +kernel
theorem dX6_isColumn_12 : decode cX6_isColumn 12 = .ok (.invokestatic 68, 3) := by decide +kernel
theorem dX6_isColumn_15 : decode cX6_isColumn 15 = .ok (.ireturn, 1) := by decide +kernel
set_option maxRecDepth 20000 in
theorem ggX6_readsPlace_X6_isColumn : GoodIn wsX6_readsPlace wsX6_isColumn := goodIn_r _ [9, 1, 10, 11, 12, 8, 13, 14, 15, 16, 17, 18, 27, 28, 29, 30, 31, 32, 33, 34, 35, 36, 37, 38, 39, 40, 41, 42, 43, 44, 45, 46, 47, 48, 49, 50, 51] (by decide +kernel) (by decide +kernel)
set_option maxRecDepth 20000 in
theorem gX6_readsPlace_X6_isColumn : GoodIn wsX6_readsPlace (wsV RX6 265 RX6 yX6_isColumn wsX6_isColumn) := goodIn_app (goodIn_of _ (by decide +kernel)) ggX6_readsPlace_X6_isColumn
set_option maxRecDepth 20000 in
theorem ggX6_readsPlace_X6_character : GoodIn wsX6_readsPlace wsX6_character := goodIn_r _ [13, 14, 15, 27, 28, 29, 30, 31, 32, 33, 34, 35, 36, 37, 38, 39, 40, 41, 42, 43, 44, 45, 46, 47, 48, 49, 50, 51] (by decide +kernel) (by decide +kernel)
set_option maxRecDepth 20000 in
theorem gX6_readsPlace_X6_character : GoodIn wsX6_readsPlace (wsV RX6 252 RX6 yX6_character wsX6_character) := goodIn_app (goodIn_of _ (by decide +kernel)) ggX6_readsPlace_X6_character
set_option maxRecDepth 20000 in
theorem ggX6_readsPlace_X6_readsDigit : GoodIn wsX6_readsPlace wsX6_readsDigit := goodIn_r _ [22, 1, 3, 23, 24, 25, 8, 26, 10, 11, 12, 13, 14, 15, 16, 17, 18, 27, 28, 29, 30, 31, 32, 33, 34, 35, 36, 37, 38, 39, 40, 41, 42, 43, 44, 45, 46, 47, 48, 49, 50, 51] (by decide +kernel) (by decide +kernel)
set_option maxRecDepth 20000 in
theorem gX6_readsPlace_X6_readsDigit : GoodIn wsX6_readsPlace (wsV RX6 262 RX6 yX6_readsDigit wsX6_readsDigit) := goodIn_app (goodIn_of _ (by decide +kernel)) ggX6_readsPlace_X6_readsDigit
theorem dX6_readsPlace_0 : decode cX6_readsPlace 0 = .ok (.aload_n 0, 1) := by decide +kernel
theorem dX6_readsPlace_1 : decode cX6_readsPlace 1 = .ok (.invokevirtual 265, 3) := by decide +kernel
theorem dX6_readsPlace_4 : decode cX6_readsPlace 4 = .ok (.ifCond .ne 5, 3) := by decide +kernel
theorem dX6_readsPlace_7 : decode cX6_readsPlace 7 = .ok (.iconst 0, 1) := by decide +kernel
theorem dX6_readsPlace_8 : decode cX6_readsPlace 8 = .ok (.ireturn, 1) := by decide +kernel
theorem dX6_readsPlace_9 : decode cX6_readsPlace 9 = .ok (.aload_n 0, 1) := by decide +kernel
theorem dX6_readsPlace_10 : decode cX6_readsPlace 10 = .ok (.aload_n 0, 1) := by decide +kernel
theorem dX6_readsPlace_11 : decode cX6_readsPlace 11 = .ok (.aload_n 0, 1) := by decide +kernel
theorem dX6_readsPlace_12 : decode cX6_readsPlace 12 = .ok (.getfield 249, 3) := by decide +kernel
theorem dX6_readsPlace_15 : decode cX6_readsPlace 15 = .ok (.invokevirtual 252, 3) := by decide +kernel
theorem dX6_readsPlace_18 : decode cX6_readsPlace 18 = .ok (.bipush 97, 2) := by decide +kernel
theorem dX6_readsPlace_20 : decode cX6_readsPlace 20 = .ok (.isub, 1) := by decide +kernel
theorem dX6_readsPlace_21 : decode cX6_readsPlace 21 = .ok (.putfield 268, 3) := by decide +kernel
theorem dX6_readsPlace_24 : decode cX6_readsPlace 24 = .ok (.aload_n 0, 1) := by decide +kernel
theorem dX6_readsPlace_25 : decode cX6_readsPlace 25 = .ok (.dup, 1) := by decide +kernel
theorem dX6_readsPlace_26 : decode cX6_readsPlace 26 = .ok (.getfield 249, 3) := by decide +kernel
theorem dX6_readsPlace_29 : decode cX6_readsPlace 29 = .ok (.iconst 1, 1) := by decide +kernel
theorem dX6_readsPlace_30 : decode cX6_readsPlace 30 = .ok (.iadd, 1) := by decide +kernel
theorem dX6_readsPlace_31 : decode cX6_readsPlace 31 = .ok (.putfield 249, 3) := by decide +kernel
theorem dX6_readsPlace_34 : decode cX6_readsPlace 34 = .ok (.aload_n 0, 1) := by decide +kernel
theorem dX6_readsPlace_35 : decode cX6_readsPlace 35 = .ok (.invokevirtual 262, 3) := by decide +kernel
theorem dX6_readsPlace_38 : decode cX6_readsPlace 38 = .ok (.istore_n 1, 1) := by decide +kernel
theorem dX6_readsPlace_39 : decode cX6_readsPlace 39 = .ok (.aload_n 0, 1) := by decide +kernel
theorem dX6_readsPlace_40 : decode cX6_readsPlace 40 = .ok (.aload_n 0, 1) := by decide +kernel
theorem dX6_readsPlace_41 : decode cX6_readsPlace 41 = .ok (.getfield 259, 3) := by decide +kernel
theorem dX6_readsPlace_44 : decode cX6_readsPlace 44 = .ok (.putfield 271, 3) := by decide +kernel
theorem dX6_readsPlace_47 : decode cX6_readsPlace 47 = .ok (.iload_n 1, 1) := by decide +kernel
theorem dX6_readsPlace_48 : decode cX6_readsPlace 48 = .ok (.ireturn, 1) := by decide +kernel
set_option maxRecDepth 20000 in
theorem ggX6_readsOrder_X6_character : GoodIn wsX6_readsOrder wsX6_character := goodIn_r _ [9, 10, 11, 40, 41, 42, 43, 44, 45, 46, 47, 48, 49, 50, 51, 52, 53, 54, 55, 56, 57, 58, 59, 60, 61, 62, 63, 64] (by decide +kernel) (by decide +kernel)
set_option maxRecDepth 20000 in
theorem gX6_readsOrder_X6_character : GoodIn wsX6_readsOrder (wsV RX6 252 RX6 yX6_character wsX6_character) := goodIn_app (goodIn_of _ (by decide +kernel)) ggX6_readsOrder_X6_character
set_option maxRecDepth 20000 in
theorem ggX6_readsOrder_X6_readsDigit : GoodIn wsX6_readsOrder wsX6_readsDigit := goodIn_r _ [15, 1, 3, 16, 17, 18, 8, 19, 5, 6, 7, 9, 10, 11, 20, 21, 22, 40, 41, 42, 43, 44, 45, 46, 47, 48, 49, 50, 51, 52, 53, 54, 55, 56, 57, 58, 59, 60, 61, 62, 63, 64] (by decide +kernel) (by decide +kernel)
set_option maxRecDepth 20000 in
theorem gX6_readsOrder_X6_readsDigit : GoodIn wsX6_readsOrder (wsV RX6 262 RX6 yX6_readsDigit wsX6_readsDigit) := goodIn_app (goodIn_of _ (by decide +kernel)) ggX6_readsOrder_X6_readsDigit
set_option maxRecDepth 20000 in
theorem ggX6_readsOrder_X6_readsPlace : GoodIn wsX6_readsOrder wsX6_readsPlace := goodIn_r _ [26, 1, 27, 3, 4, 28, 29, 30, 8, 31, 5, 6, 7, 9, 10, 11, 20, 21, 22, 12, 13, 14, 15, 16, 17, 18, 19, 40, 41, 42, 43, 44, 45, 46, 47, 48, 49, 50, 51, 52, 53, 54, 55, 56, 57, 58, 59, 60, 61, 62, 63, 64] (by decide +kernel) (by decide +kernel)
set_option maxRecDepth 20000 in
theorem gX6_readsOrder_X6_readsPlace : GoodIn wsX6_readsOrder (wsV RX6 277 RX6 yX6_readsPlace wsX6_readsPlace) := goodIn_app (goodIn_of _ (by decide +kernel)) ggX6_readsOrder_X6_readsPlace
set_option maxRecDepth 20000 in
theorem ggX6_readsOrder_X6_isNext : GoodIn wsX6_readsOrder wsX6_isNext := goodIn_r _ [35, 1, 5, 6, 7, 8, 9, 10, 11, 40, 41, 42, 43, 44, 45, 46, 47, 48, 49, 50, 51, 52, 53, 54, 55, 56, 57, 58, 59, 60, 61, 62, 63, 64] (by decide +kernel) (by decide +kernel)
set_option maxRecDepth 20000 in
theorem gX6_readsOrder_X6_isNext : GoodIn wsX6_readsOrder (wsV RX6 280 RX6 yX6_isNext wsX6_isNext) := goodIn_app (goodIn_of _ (by decide +kernel)) ggX6_readsOrder_X6_isNext
set_option maxRecDepth 20000 in
theorem ggX6_readsOrder_X6_readsNumber : GoodIn wsX6_readsOrder wsX6_readsNumber := goodIn_r _ [39, 3, 1, 12, 13, 14, 8, 15, 16, 17, 18, 19, 5, 6, 7, 9, 10, 11, 20, 21, 22, 40, 41, 42, 43, 44, 45, 46, 47, 48, 49, 50, 51, 52, 53, 54, 55, 56, 57, 58, 59, 60, 61, 62, 63, 64] (by decide +kernel) (by decide +kernel)
set_option maxRecDepth 20000 in
theorem gX6_readsOrder_X6_readsNumber : GoodIn wsX6_readsOrder (wsV RX6 283 RX6 yX6_readsNumber wsX6_readsNumber) := goodIn_app (goodIn_of _ (by decide +kernel)) ggX6_readsOrder_X6_readsNumber
theorem dX6_readsOrder_0 : decode cX6_readsOrder 0 = .ok (.aload_n 0, 1) := by decide +kernel
theorem dX6_readsOrder_1 : decode cX6_readsOrder 1 = .ok (.aload_n 0, 1) := by decide +kernel
theorem dX6_readsOrder_2 : decode cX6_readsOrder 2 = .ok (.aload_n 0, 1) := by decide +kernel
theorem dX6_readsOrder_3 : decode cX6_readsOrder 3 = .ok (.getfield 249, 3) := by decide +kernel
theorem dX6_readsOrder_6 : decode cX6_readsOrder 6 = .ok (.invokevirtual 252, 3) := by decide +kernel
theorem dX6_readsOrder_9 : decode cX6_readsOrder 9 = .ok (.putfield 274, 3) := by decide +kernel
theorem dX6_readsOrder_12 : decode cX6_readsOrder 12 = .ok (.aload_n 0, 1) := by decide +kernel
theorem dX6_readsOrder_13 : decode cX6_readsOrder 13 = .ok (.dup, 1) := by decide +kernel
theorem dX6_readsOrder_14 : decode cX6_readsOrder 14 = .ok (.getfield 249, 3) := by decide +kernel
theorem dX6_readsOrder_17 : decode cX6_readsOrder 17 = .ok (.iconst 1, 1) := by decide +kernel
theorem dX6_readsOrder_18 : decode cX6_readsOrder 18 = .ok (.iadd, 1) := by decide +kernel
theorem dX6_readsOrder_19 : decode cX6_readsOrder 19 = .ok (.putfield 249, 3) := by decide +kernel
theorem dX6_readsOrder_22 : decode cX6_readsOrder 22 = .ok (.aload_n 0, 1) := by decide +kernel
theorem dX6_readsOrder_23 : decode cX6_readsOrder 23 = .ok (.getfield 274, 3) := by decide +kernel
theorem dX6_readsOrder_26 : decode cX6_readsOrder 26 = .ok (.tableswitch 160 102 119 #[91, 160, 160, 160, 160, 160, 160, 86, 160, 160, 155, 160, 160, 121, 86, 160, 160, 150], 86) := by decide +kernel
theorem dX6_readsOrder_112 : decode cX6_readsOrder 112 = .ok (.aload_n 0, 1) := by decide +kernel
theorem dX6_readsOrder_113 : decode cX6_readsOrder 113 = .ok (.invokevirtual 262, 3) := by decide +kernel
theorem dX6_readsOrder_116 : decode cX6_readsOrder 116 = .ok (.ireturn, 1) := by decide +kernel
theorem dX6_readsOrder_117 : decode cX6_readsOrder 117 = .ok (.aload_n 0, 1) := by decide +kernel
theorem dX6_readsOrder_118 : decode cX6_readsOrder 118 = .ok (.invokevirtual 262, 3) := by decide +kernel
theorem dX6_readsOrder_121 : decode cX6_readsOrder 121 = .ok (.istore_n 1, 1) := by decide +kernel
theorem dX6_readsOrder_122 : decode cX6_readsOrder 122 = .ok (.aload_n 0, 1) := by decide +kernel
theorem dX6_readsOrder_123 : decode cX6_readsOrder 123 = .ok (.aload_n 0, 1) := by decide +kernel
theorem dX6_readsOrder_124 : decode cX6_readsOrder 124 = .ok (.getfield 259, 3) := by decide +kernel
theorem dX6_readsOrder_127 : decode cX6_readsOrder 127 = .ok (.putfield 271, 3) := by decide +kernel
theorem dX6_readsOrder_130 : decode cX6_readsOrder 130 = .ok (.iload_n 1, 1) := by decide +kernel
theorem dX6_readsOrder_131 : decode cX6_readsOrder 131 = .ok (.ifCond .eq 14, 3) := by decide +kernel
theorem dX6_readsOrder_134 : decode cX6_readsOrder 134 = .ok (.aload_n 0, 1) := by decide +kernel
theorem dX6_readsOrder_135 : decode cX6_readsOrder 135 = .ok (.invokevirtual 262, 3) := by decide +kernel
theorem dX6_readsOrder_138 : decode cX6_readsOrder 138 = .ok (.ifCond .eq 7, 3) := by decide +kernel
theorem dX6_readsOrder_141 : decode cX6_readsOrder 141 = .ok (.iconst 1, 1) := by decide +kernel
theorem dX6_readsOrder_142 : decode cX6_readsOrder 142 = .ok (.goto 4, 3) := by decide +kernel
theorem dX6_readsOrder_145 : decode cX6_readsOrder 145 = .ok (.iconst 0, 1) := by decide +kernel
theorem dX6_readsOrder_146 : decode cX6_readsOrder 146 = .ok (.ireturn, 1) := by decide +kernel
theorem dX6_readsOrder_147 : decode cX6_readsOrder 147 = .ok (.aload_n 0, 1) := by decide +kernel
theorem dX6_readsOrder_148 : decode cX6_readsOrder 148 = .ok (.invokevirtual 277, 3) := by decide +kernel
theorem dX6_readsOrder_151 : decode cX6_readsOrder 151 = .ok (.ifCond .eq 23, 3) := by decide +kernel
