theorem dX6_isWarmed_0 : decode cX6_isWarmed 0 = .ok (.iload_n 2, 1) := by decide +kernel
theorem dX6_isWarmed_1 : decode cX6_isWarmed 1 = .ok (.bipush (-6), 2) := by decide +kernel
theorem dX6_isWarmed_3 : decode cX6_isWarmed 3 = .ok (.if_icmp .eq 14, 3) := by decide +kernel
theorem dX6_isWarmed_6 : decode cX6_isWarmed 6 = .ok (.iload_n 1, 1) := by decide +kernel
theorem dX6_isWarmed_7 : decode cX6_isWarmed 7 = .ok (.iload_n 2, 1) := by decide +kernel
theorem dX6_isWarmed_8 : decode cX6_isWarmed 8 = .ok (.if_icmp .ne 7, 3) := by decide +kernel
theorem dX6_isWarmed_11 : decode cX6_isWarmed 11 = .ok (.iconst 1, 1) := by decide +kernel
theorem dX6_isWarmed_12 : decode cX6_isWarmed 12 = .ok (.goto 4, 3) := by decide +kernel
theorem dX6_isWarmed_15 : decode cX6_isWarmed 15 = .ok (.iconst 0, 1) := by decide +kernel
theorem dX6_isWarmed_16 : decode cX6_isWarmed 16 = .ok (.ireturn, 1) := by decide +kernel
theorem dX6_isWarmed_17 : decode cX6_isWarmed 17 = .ok (.aload_n 0, 1) := by decide +kernel
theorem dX6_isWarmed_18 : decode cX6_isWarmed 18 = .ok (.iload_n 1, 1) := by decide +kernel
theorem dX6_isWarmed_19 : decode cX6_isWarmed 19 = .ok (.invokevirtual 97, 3) := by decide +kernel
theorem dX6_isWarmed_22 : decode cX6_isWarmed 22 = .ok (.istore_n 3, 1) := by decide +kernel
theorem dX6_isWarmed_23 : decode cX6_isWarmed 23 = .ok (.iload_n 3, 1) := by decide +kernel
theorem dX6_isWarmed_24 : decode cX6_isWarmed 24 = .ok (.bipush (-6), 2) := by decide +kernel
theorem dX6_isWarmed_26 : decode cX6_isWarmed 26 = .ok (.if_icmp .eq 15, 3) := by decide +kernel
theorem dX6_isWarmed_29 : decode cX6_isWarmed 29 = .ok (.aload_n 0, 1) := by decide +kernel
theorem dX6_isWarmed_30 : decode cX6_isWarmed 30 = .ok (.iload_n 3, 1) := by decide +kernel
theorem dX6_isWarmed_31 : decode cX6_isWarmed 31 = .ok (.invokevirtual 100, 3) := by decide +kernel
theorem dX6_isWarmed_34 : decode cX6_isWarmed 34 = .ok (.ifCond .eq 7, 3) := by decide +kernel
theorem dX6_isWarmed_37 : decode cX6_isWarmed 37 = .ok (.iconst 1, 1) := by decide +kernel
theorem dX6_isWarmed_38 : decode cX6_isWarmed 38 = .ok (.goto 4, 3) := by decide +kernel
theorem dX6_isWarmed_41 : decode cX6_isWarmed 41 = .ok (.iconst 0, 1) := by decide +kernel
theorem dX6_isWarmed_42 : decode cX6_isWarmed 42 = .ok (.ireturn, 1) := by decide +kernel
set_option maxRecDepth 20000 in
theorem ggX6_steps_X6_neighbour : GoodIn wsX6_steps wsX6_neighbour := goodIn_r _ [8, 9, 10, 7, 11, 12, 13, 14, 15, 16, 17, 18, 19, 20] (by decide +kernel) (by decide +kernel)
set_option maxRecDepth 20000 in
theorem gX6_steps_X6_neighbour : GoodIn wsX6_steps (va_wsS RX6 94 yX6_neighbour wsX6_neighbour) := goodIn_app (goodIn_of _ (by decide +kernel)) ggX6_steps_X6_neighbour
set_option maxRecDepth 20000 in
theorem ggX6_steps_X6_isWarmed : GoodIn wsX6_steps wsX6_isWarmed := goodIn_r _ [24, 25, 26, 27, 7, 28, 2, 29, 30, 31, 32, 33, 34, 35, 36, 37, 38, 39, 40, 41, 42, 43, 44, 48, 49, 50, 51, 52, 53, 54, 55, 56, 57, 58, 59, 60, 61, 62, 63, 64, 65, 66, 67, 68, 69, 70, 71, 72] (by decide +kernel) (by decide +kernel)
set_option maxRecDepth 20000 in
theorem gX6_steps_X6_isWarmed : GoodIn wsX6_steps (wsV RX6 104 RX6 yX6_isWarmed wsX6_isWarmed) := goodIn_app (goodIn_of _ (by decide +kernel)) ggX6_steps_X6_isWarmed
set_option maxRecDepth 20000 in
theorem ggX6_steps_X6_movesWarmth : GoodIn wsX6_steps wsX6_movesWarmth := goodIn_r _ [47] (by decide +kernel) (by decide +kernel)
set_option maxRecDepth 20000 in
theorem gX6_steps_X6_movesWarmth : GoodIn wsX6_steps (va_wsS RX6 64 yX6_movesWarmth wsX6_movesWarmth) := goodIn_app (goodIn_of _ (by decide +kernel)) ggX6_steps_X6_movesWarmth
theorem dX6_steps_0 : decode cX6_steps 0 = .ok (.iconst 0, 1) := by decide +kernel
theorem dX6_steps_1 : decode cX6_steps 1 = .ok (.istore_n 2, 1) := by decide +kernel
theorem dX6_steps_2 : decode cX6_steps 2 = .ok (.iload_n 2, 1) := by decide +kernel
theorem dX6_steps_3 : decode cX6_steps 3 = .ok (.bipush 64, 2) := by decide +kernel
theorem dX6_steps_5 : decode cX6_steps 5 = .ok (.if_icmp .ge 124, 3) := by decide +kernel
theorem dX6_steps_8 : decode cX6_steps 8 = .ok (.aload_n 0, 1) := by decide +kernel
theorem dX6_steps_9 : decode cX6_steps 9 = .ok (.getfield 35, 3) := by decide +kernel
theorem dX6_steps_12 : decode cX6_steps 12 = .ok (.iload_n 2, 1) := by decide +kernel
theorem dX6_steps_13 : decode cX6_steps 13 = .ok (.faload, 1) := by decide +kernel
theorem dX6_steps_14 : decode cX6_steps 14 = .ok (.fstore_n 3, 1) := by decide +kernel
theorem dX6_steps_15 : decode cX6_steps 15 = .ok (.fconst 0, 1) := by decide +kernel
theorem dX6_steps_16 : decode cX6_steps 16 = .ok (.fstore 4, 2) := by decide +kernel
theorem dX6_steps_18 : decode cX6_steps 18 = .ok (.iconst 0, 1) := by decide +kernel
theorem dX6_steps_19 : decode cX6_steps 19 = .ok (.istore 5, 2) := by decide +kernel
theorem dX6_steps_21 : decode cX6_steps 21 = .ok (.iload 5, 2) := by decide +kernel
theorem dX6_steps_23 : decode cX6_steps 23 = .ok (.iconst 4, 1) := by decide +kernel
theorem dX6_steps_24 : decode cX6_steps 24 = .ok (.if_icmp .ge 49, 3) := by decide +kernel
theorem dX6_steps_27 : decode cX6_steps 27 = .ok (.iload_n 2, 1) := by decide +kernel
theorem dX6_steps_28 : decode cX6_steps 28 = .ok (.iload 5, 2) := by decide +kernel
theorem dX6_steps_30 : decode cX6_steps 30 = .ok (.invokestatic 94, 3) := by decide +kernel
theorem dX6_steps_33 : decode cX6_steps 33 = .ok (.istore 6, 2) := by decide +kernel
theorem dX6_steps_35 : decode cX6_steps 35 = .ok (.iload 6, 2) := by decide +kernel
theorem dX6_steps_37 : decode cX6_steps 37 = .ok (.bipush (-6), 2) := by decide +kernel
theorem dX6_steps_39 : decode cX6_steps 39 = .ok (.if_icmp .eq 28, 3) := by decide +kernel
theorem dX6_steps_42 : decode cX6_steps 42 = .ok (.fload 4, 2) := by decide +kernel
theorem dX6_steps_44 : decode cX6_steps 44 = .ok (.aload_n 0, 1) := by decide +kernel
theorem dX6_steps_45 : decode cX6_steps 45 = .ok (.getfield 35, 3) := by decide +kernel
theorem dX6_steps_48 : decode cX6_steps 48 = .ok (.iload 6, 2) := by decide +kernel
theorem dX6_steps_50 : decode cX6_steps 50 = .ok (.faload, 1) := by decide +kernel
theorem dX6_steps_51 : decode cX6_steps 51 = .ok (.fload_n 3, 1) := by decide +kernel
theorem dX6_steps_52 : decode cX6_steps 52 = .ok (.fsub, 1) := by decide +kernel
theorem dX6_steps_53 : decode cX6_steps 53 = .ok (.aload_n 0, 1) := by decide +kernel
theorem dX6_steps_54 : decode cX6_steps 54 = .ok (.getfield 7, 3) := by decide +kernel
theorem dX6_steps_57 : decode cX6_steps 57 = .ok (.iconst 0, 1) := by decide +kernel
theorem dX6_steps_58 : decode cX6_steps 58 = .ok (.iaload, 1) := by decide +kernel
theorem dX6_steps_59 : decode cX6_steps 59 = .ok (.i2f, 1) := by decide +kernel
theorem dX6_steps_60 : decode cX6_steps 60 = .ok (.fmul, 1) := by decide +kernel
theorem dX6_steps_61 : decode cX6_steps 61 = .ok (.ldc 103, 2) := by decide +kernel
theorem dX6_steps_63 : decode cX6_steps 63 = .ok (.fdiv, 1) := by decide +kernel
theorem dX6_steps_64 : decode cX6_steps 64 = .ok (.fadd, 1) := by decide +kernel
theorem dX6_steps_65 : decode cX6_steps 65 = .ok (.fstore 4, 2) := by decide +kernel
theorem dX6_steps_67 : decode cX6_steps 67 = .ok (.iinc 5 1, 3) := by decide +kernel
theorem dX6_steps_70 : decode cX6_steps 70 = .ok (.goto (-49), 3) := by decide +kernel
theorem dX6_steps_73 : decode cX6_steps 73 = .ok (.fload_n 3, 1) := by decide +kernel
theorem dX6_steps_74 : decode cX6_steps 74 = .ok (.fload 4, 2) := by decide +kernel
theorem dX6_steps_76 : decode cX6_steps 76 = .ok (.fadd, 1) := by decide +kernel
theorem dX6_steps_77 : decode cX6_steps 77 = .ok (.bipush 100, 2) := by decide +kernel
theorem dX6_steps_79 : decode cX6_steps 79 = .ok (.aload_n 0, 1) := by decide +kernel
theorem dX6_steps_80 : decode cX6_steps 80 = .ok (.getfield 7, 3) := by decide +kernel
theorem dX6_steps_83 : decode cX6_steps 83 = .ok (.iconst 1, 1) := by decide +kernel
theorem dX6_steps_84 : decode cX6_steps 84 = .ok (.iaload, 1) := by decide +kernel
theorem dX6_steps_85 : decode cX6_steps 85 = .ok (.isub, 1) := by decide +kernel
theorem dX6_steps_86 : decode cX6_steps 86 = .ok (.i2f, 1) := by decide +kernel
theorem dX6_steps_87 : decode cX6_steps 87 = .ok (.fmul, 1) := by decide +kernel
theorem dX6_steps_88 : decode cX6_steps 88 = .ok (.ldc 103, 2) := by decide +kernel
theorem dX6_steps_90 : decode cX6_steps 90 = .ok (.fdiv, 1) := by decide +kernel
theorem dX6_steps_91 : decode cX6_steps 91 = .ok (.fstore 5, 2) := by decide +kernel
theorem dX6_steps_93 : decode cX6_steps 93 = .ok (.aload_n 0, 1) := by decide +kernel
theorem dX6_steps_94 : decode cX6_steps 94 = .ok (.getfield 38, 3) := by decide +kernel
theorem dX6_steps_97 : decode cX6_steps 97 = .ok (.iload_n 2, 1) := by decide +kernel
theorem dX6_steps_98 : decode cX6_steps 98 = .ok (.aload_n 0, 1) := by decide +kernel
theorem dX6_steps_99 : decode cX6_steps 99 = .ok (.iload_n 2, 1) := by decide +kernel
theorem dX6_steps_100 : decode cX6_steps 100 = .ok (.iload_n 1, 1) := by decide +kernel
theorem dX6_steps_101 : decode cX6_steps 101 = .ok (.invokevirtual 104, 3) := by decide +kernel
theorem dX6_steps_104 : decode cX6_steps 104 = .ok (.ifCond .eq 16, 3) := by decide +kernel
theorem dX6_steps_107 : decode cX6_steps 107 = .ok (.fload 5, 2) := by decide +kernel
theorem dX6_steps_109 : decode cX6_steps 109 = .ok (.aload_n 0, 1) := by decide +kernel
theorem dX6_steps_110 : decode cX6_steps 110 = .ok (.getfield 7, 3) := by decide +kernel
theorem dX6_steps_113 : decode cX6_steps 113 = .ok (.iconst 2, 1) := by decide +kernel
theorem dX6_steps_114 : decode cX6_steps 114 = .ok (.iaload, 1) := by decide +kernel
theorem dX6_steps_115 : decode cX6_steps 115 = .ok (.i2f, 1) := by decide +kernel
theorem dX6_steps_116 : decode cX6_steps 116 = .ok (.fadd, 1) := by decide +kernel
theorem dX6_steps_117 : decode cX6_steps 117 = .ok (.goto 5, 3) := by decide +kernel
theorem dX6_steps_120 : decode cX6_steps 120 = .ok (.fload 5, 2) := by decide +kernel
theorem dX6_steps_122 : decode cX6_steps 122 = .ok (.fastore, 1) := by decide +kernel
theorem dX6_steps_123 : decode cX6_steps 123 = .ok (.iinc 2 1, 3) := by decide +kernel
theorem dX6_steps_126 : decode cX6_steps 126 = .ok (.goto (-124), 3) := by decide +kernel
theorem dX6_steps_129 : decode cX6_steps 129 = .ok (.aload_n 0, 1) := by decide +kernel
theorem dX6_steps_130 : decode cX6_steps 130 = .ok (.getfield 38, 3) := by decide +kernel
theorem dX6_steps_133 : decode cX6_steps 133 = .ok (.iconst 0, 1) := by decide +kernel
theorem dX6_steps_134 : decode cX6_steps 134 = .ok (.aload_n 0, 1) := by decide +kernel
theorem dX6_steps_135 : decode cX6_steps 135 = .ok (.getfield 35, 3) := by decide +kernel
theorem dX6_steps_138 : decode cX6_steps 138 = .ok (.iconst 0, 1) := by decide +kernel
theorem dX6_steps_139 : decode cX6_steps 139 = .ok (.invokestatic 64, 3) := by decide +kernel
theorem dX6_steps_142 : decode cX6_steps 142 = .ok (.return_, 1) := by decide +kernel
theorem dX6_coolsThought_0 : decode cX6_coolsThought 0 = .ok (.iconst 0, 1) := by decide +kernel
theorem dX6_coolsThought_1 : decode cX6_coolsThought 1 = .ok (.istore_n 1, 1) := by decide +kernel
theorem dX6_coolsThought_2 : decode cX6_coolsThought 2 = .ok (.iload_n 1, 1) := by decide +kernel
theorem dX6_coolsThought_3 : decode cX6_coolsThought 3 = .ok (.bipush 64, 2) := by decide +kernel
theorem dX6_coolsThought_5 : decode cX6_coolsThought 5 = .ok (.if_icmp .ge 16, 3) := by decide +kernel
theorem dX6_coolsThought_8 : decode cX6_coolsThought 8 = .ok (.aload_n 0, 1) := by decide +kernel
theorem dX6_coolsThought_9 : decode cX6_coolsThought 9 = .ok (.getfield 35, 3) := by decide +kernel
theorem dX6_coolsThought_12 : decode cX6_coolsThought 12 = .ok (.iload_n 1, 1) := by decide +kernel
theorem dX6_coolsThought_13 : decode cX6_coolsThought 13 = .ok (.fconst 0, 1) := by decide +kernel
theorem dX6_coolsThought_14 : decode cX6_coolsThought 14 = .ok (.fastore, 1) := by decide +kernel
theorem dX6_coolsThought_15 : decode cX6_coolsThought 15 = .ok (.iinc 1 1, 3) := by decide +kernel
theorem dX6_coolsThought_18 : decode cX6_coolsThought 18 = .ok (.goto (-16), 3) := by decide +kernel
theorem dX6_coolsThought_21 : decode cX6_coolsThought 21 = .ok (.return_, 1) := by decide +kernel
set_option maxRecDepth 20000 in
theorem ggX6_thinks_X6_coolsThought : GoodIn wsX6_thinks wsX6_coolsThought := goodIn_r _ [5, 6, 56, 57, 58, 59, 60, 61, 62, 63, 64, 65, 66, 67, 68, 69, 70, 71, 72, 73, 74, 75, 76, 77, 78, 79, 80] (by decide +kernel) (by decide +kernel)
set_option maxRecDepth 20000 in
theorem gX6_thinks_X6_coolsThought : GoodIn wsX6_thinks (wsV RX6 107 RX6 yX6_coolsThought wsX6_coolsThought) := goodIn_app (goodIn_of _ (by decide +kernel)) ggX6_thinks_X6_coolsThought
set_option maxRecDepth 20000 in
theorem ggX6_thinks_X6_steps : GoodIn wsX6_thinks wsX6_steps := goodIn_r _ [10, 6, 11, 12, 13, 14, 15, 4, 16, 17, 18, 19, 20, 21, 22, 23, 24, 25, 26, 27, 28, 29, 30, 31, 32, 33, 34, 35, 36, 37, 38, 39, 40, 41, 42, 43, 44, 45, 46, 47, 48, 49, 50, 51, 52, 53, 54, 55, 56, 57, 58, 59, 60, 61, 62, 63, 64, 65, 66, 67, 68, 69, 70, 71, 72, 73, 74, 75, 76, 77, 78, 79, 80] (by decide +kernel) (by decide +kernel)
set_option maxRecDepth 20000 in
theorem gX6_thinks_X6_steps : GoodIn wsX6_thinks (wsV RX6 110 RX6 yX6_steps wsX6_steps) := goodIn_app (goodIn_of _ (by decide +kernel)) ggX6_thinks_X6_steps
theorem dX6_thinks_0 : decode cX6_thinks 0 = .ok (.aload_n 0, 1) := by decide +kernel
theorem dX6_thinks_1 : decode cX6_thinks 1 = .ok (.invokevirtual 107, 3) := by decide +kernel
theorem dX6_thinks_4 : decode cX6_thinks 4 = .ok (.iconst 0, 1) := by decide +kernel
theorem dX6_thinks_5 : decode cX6_thinks 5 = .ok (.istore_n 3, 1) := by decide +kernel
theorem dX6_thinks_6 : decode cX6_thinks 6 = .ok (.iload_n 3, 1) := by decide +kernel
theorem dX6_thinks_7 : decode cX6_thinks 7 = .ok (.iload_n 2, 1) := by decide +kernel
theorem dX6_thinks_8 : decode cX6_thinks 8 = .ok (.if_icmp .ge 14, 3) := by decide +kernel
theorem dX6_thinks_11 : decode cX6_thinks 11 = .ok (.aload_n 0, 1) := by decide +kernel
theorem dX6_thinks_12 : decode cX6_thinks 12 = .ok (.iload_n 1, 1) := by decide +kernel
theorem dX6_thinks_13 : decode cX6_thinks 13 = .ok (.invokevirtual 110, 3) := by decide +kernel
theorem dX6_thinks_16 : decode cX6_thinks 16 = .ok (.iinc 3 1, 3) := by decide +kernel
theorem dX6_thinks_19 : decode cX6_thinks 19 = .ok (.goto (-13), 3) := by decide +kernel
theorem dX6_thinks_22 : decode cX6_thinks 22 = .ok (.return_, 1) := by decide +kernel
theorem dX6_readOf_0 : decode cX6_readOf 0 = .ok (.fload_n 0, 1) := by decide +kernel
theorem dX6_readOf_1 : decode cX6_readOf 1 = .ok (.ldc 114, 2) := by decide +kernel
theorem dX6_readOf_3 : decode cX6_readOf 3 = .ok (.fmul, 1) := by decide +kernel
theorem dX6_readOf_4 : decode cX6_readOf 4 = .ok (.f2i, 1) := by decide +kernel
theorem dX6_readOf_5 : decode cX6_readOf 5 = .ok (.ireturn, 1) := by decide +kernel
set_option maxRecDepth 20000 in
theorem ggX6_beginsRun_X6_coolsThought : GoodIn wsX6_beginsRun wsX6_coolsThought := goodIn_r _ [8, 2, 12, 13, 14, 15, 16, 17, 18, 19, 20, 21, 22, 23, 24, 25, 26, 27, 28, 29, 30, 31, 32, 33, 34, 35, 36] (by decide +kernel) (by decide +kernel)
set_option maxRecDepth 20000 in
theorem gX6_beginsRun_X6_coolsThought : GoodIn wsX6_beginsRun (wsV RX6 107 RX6 yX6_coolsThought wsX6_coolsThought) := goodIn_app (goodIn_of _ (by decide +kernel)) ggX6_beginsRun_X6_coolsThought
set_option maxRecDepth 20000 in
theorem ggX6_beginsRun_X6_movesWarmth : GoodIn wsX6_beginsRun wsX6_movesWarmth := goodIn_r _ [11] (by decide +kernel) (by decide +kernel)
set_option maxRecDepth 20000 in
theorem gX6_beginsRun_X6_movesWarmth : GoodIn wsX6_beginsRun (va_wsS RX6 64 yX6_movesWarmth wsX6_movesWarmth) := goodIn_app (goodIn_of _ (by decide +kernel)) ggX6_beginsRun_X6_movesWarmth
theorem dX6_beginsRun_0 : decode cX6_beginsRun 0 = .ok (.aload_n 0, 1) := by decide +kernel
theorem dX6_beginsRun_1 : decode cX6_beginsRun 1 = .ok (.getfield 7, 3) := by decide +kernel
theorem dX6_beginsRun_4 : decode cX6_beginsRun 4 = .ok (.iconst 4, 1) := by decide +kernel
theorem dX6_beginsRun_5 : decode cX6_beginsRun 5 = .ok (.iconst 0, 1) := by decide +kernel
theorem dX6_beginsRun_6 : decode cX6_beginsRun 6 = .ok (.iastore, 1) := by decide +kernel
theorem dX6_beginsRun_7 : decode cX6_beginsRun 7 = .ok (.aload_n 0, 1) := by decide +kernel
theorem dX6_beginsRun_8 : decode cX6_beginsRun 8 = .ok (.getfield 7, 3) := by decide +kernel
theorem dX6_beginsRun_11 : decode cX6_beginsRun 11 = .ok (.bipush 6, 2) := by decide +kernel
theorem dX6_beginsRun_13 : decode cX6_beginsRun 13 = .ok (.iconst 0, 1) := by decide +kernel
theorem dX6_beginsRun_14 : decode cX6_beginsRun 14 = .ok (.iastore, 1) := by decide +kernel
theorem dX6_beginsRun_15 : decode cX6_beginsRun 15 = .ok (.bipush 85, 2) := by decide +kernel
theorem dX6_beginsRun_17 : decode cX6_beginsRun 17 = .ok (.istore_n 1, 1) := by decide +kernel
theorem dX6_beginsRun_18 : decode cX6_beginsRun 18 = .ok (.iload_n 1, 1) := by decide +kernel
theorem dX6_beginsRun_19 : decode cX6_beginsRun 19 = .ok (.bipush 109, 2) := by decide +kernel
theorem dX6_beginsRun_21 : decode cX6_beginsRun 21 = .ok (.if_icmp .ge 16, 3) := by decide +kernel
theorem dX6_beginsRun_24 : decode cX6_beginsRun 24 = .ok (.aload_n 0, 1) := by decide +kernel
theorem dX6_beginsRun_25 : decode cX6_beginsRun 25 = .ok (.getfield 7, 3) := by decide +kernel
theorem dX6_beginsRun_28 : decode cX6_beginsRun 28 = .ok (.iload_n 1, 1) := by decide +kernel
theorem dX6_beginsRun_29 : decode cX6_beginsRun 29 = .ok (.iconst 0, 1) := by decide +kernel
theorem dX6_beginsRun_30 : decode cX6_beginsRun 30 = .ok (.iastore, 1) := by decide +kernel
theorem dX6_beginsRun_31 : decode cX6_beginsRun 31 = .ok (.iinc 1 1, 3) := by decide +kernel
theorem dX6_beginsRun_34 : decode cX6_beginsRun 34 = .ok (.goto (-16), 3) := by decide +kernel
theorem dX6_beginsRun_37 : decode cX6_beginsRun 37 = .ok (.aload_n 0, 1) := by decide +kernel
theorem dX6_beginsRun_38 : decode cX6_beginsRun 38 = .ok (.invokevirtual 107, 3) := by decide +kernel
theorem dX6_beginsRun_41 : decode cX6_beginsRun 41 = .ok (.aload_n 0, 1) := by decide +kernel
theorem dX6_beginsRun_42 : decode cX6_beginsRun 42 = .ok (.getfield 35, 3) := by decide +kernel
theorem dX6_beginsRun_45 : decode cX6_beginsRun 45 = .ok (.iconst 0, 1) := by decide +kernel
theorem dX6_beginsRun_46 : decode cX6_beginsRun 46 = .ok (.aload_n 0, 1) := by decide +kernel
theorem dX6_beginsRun_47 : decode cX6_beginsRun 47 = .ok (.getfield 13, 3) := by decide +kernel
theorem dX6_beginsRun_50 : decode cX6_beginsRun 50 = .ok (.iconst 0, 1) := by decide +kernel
theorem dX6_beginsRun_51 : decode cX6_beginsRun 51 = .ok (.invokestatic 64, 3) := by decide +kernel
theorem dX6_beginsRun_54 : decode cX6_beginsRun 54 = .ok (.return_, 1) := by decide +kernel
set_option maxRecDepth 20000 in
theorem ggX6_warms_X6_movesWarmth : GoodIn wsX6_warms wsX6_movesWarmth := goodIn_r _ [7] (by decide +kernel) (by decide +kernel)
set_option maxRecDepth 20000 in
theorem gX6_warms_X6_movesWarmth : GoodIn wsX6_warms (va_wsS RX6 64 yX6_movesWarmth wsX6_movesWarmth) := goodIn_app (goodIn_of _ (by decide +kernel)) ggX6_warms_X6_movesWarmth
set_option maxRecDepth 20000 in
theorem ggX6_warms_X6_steps : GoodIn wsX6_warms wsX6_steps := goodIn_r _ [11, 2, 3, 12, 13, 14, 15, 6, 16, 17, 18, 19, 20, 21, 22, 23, 24, 25, 26, 27, 28, 29, 30, 31, 32, 33, 34, 35, 36, 37, 38, 39, 40, 41, 42, 43, 44, 45, 46, 47, 48, 49, 50, 51, 52, 4, 5, 7, 53, 54, 55, 56, 57, 58, 59, 60, 61, 62, 63, 64, 65, 66, 67, 68, 69, 70, 71, 72, 73, 74, 75, 76, 77] (by decide +kernel) (by decide +kernel)
set_option maxRecDepth 20000 in
theorem gX6_warms_X6_steps : GoodIn wsX6_warms (wsV RX6 110 RX6 yX6_steps wsX6_steps) := goodIn_app (goodIn_of _ (by decide +kernel)) ggX6_warms_X6_steps
theorem dX6_warms_0 : decode cX6_warms 0 = .ok (.aload_n 0, 1) := by decide +kernel
theorem dX6_warms_1 : decode cX6_warms 1 = .ok (.getfield 13, 3) := by decide +kernel
theorem dX6_warms_4 : decode cX6_warms 4 = .ok (.iconst 0, 1) := by decide +kernel
theorem dX6_warms_5 : decode cX6_warms 5 = .ok (.aload_n 0, 1) := by decide +kernel
theorem dX6_warms_6 : decode cX6_warms 6 = .ok (.getfield 35, 3) := by decide +kernel
theorem dX6_warms_9 : decode cX6_warms 9 = .ok (.iconst 0, 1) := by decide +kernel
theorem dX6_warms_10 : decode cX6_warms 10 = .ok (.invokestatic 64, 3) := by decide +kernel
theorem dX6_warms_13 : decode cX6_warms 13 = .ok (.iconst 0, 1) := by decide +kernel
theorem dX6_warms_14 : decode cX6_warms 14 = .ok (.istore_n 2, 1) := by decide +kernel
theorem dX6_warms_15 : decode cX6_warms 15 = .ok (.iload_n 2, 1) := by decide +kernel
theorem dX6_warms_16 : decode cX6_warms 16 = .ok (.iload_n 1, 1) := by decide +kernel
theorem dX6_warms_17 : decode cX6_warms 17 = .ok (.if_icmp .ge 15, 3) := by decide +kernel
theorem dX6_warms_20 : decode cX6_warms 20 = .ok (.aload_n 0, 1) := by decide +kernel
theorem dX6_warms_21 : decode cX6_warms 21 = .ok (.bipush (-6), 2) := by decide +kernel
theorem dX6_warms_23 : decode cX6_warms 23 = .ok (.invokevirtual 110, 3) := by decide +kernel
theorem dX6_warms_26 : decode cX6_warms 26 = .ok (.iinc 2 1, 3) := by decide +kernel
theorem dX6_warms_29 : decode cX6_warms 29 = .ok (.goto (-14), 3) := by decide +kernel
theorem dX6_warms_32 : decode cX6_warms 32 = .ok (.aload_n 0, 1) := by decide +kernel
theorem dX6_warms_33 : decode cX6_warms 33 = .ok (.getfield 35, 3) := by decide +kernel
theorem dX6_warms_36 : decode cX6_warms 36 = .ok (.iconst 0, 1) := by decide +kernel
theorem dX6_warms_37 : decode cX6_warms 37 = .ok (.aload_n 0, 1) := by decide +kernel
theorem dX6_warms_38 : decode cX6_warms 38 = .ok (.getfield 13, 3) := by decide +kernel
theorem dX6_warms_41 : decode cX6_warms 41 = .ok (.iconst 0, 1) := by decide +kernel
theorem dX6_warms_42 : decode cX6_warms 42 = .ok (.invokestatic 64, 3) := by decide +kernel
theorem dX6_warms_45 : decode cX6_warms 45 = .ok (.aload_n 0, 1) := by decide +kernel
theorem dX6_warms_46 : decode cX6_warms 46 = .ok (.getfield 7, 3) := by decide +kernel
theorem dX6_warms_49 : decode cX6_warms 49 = .ok (.iconst 4, 1) := by decide +kernel
theorem dX6_warms_50 : decode cX6_warms 50 = .ok (.dup2, 1) := by decide +kernel
theorem dX6_warms_51 : decode cX6_warms 51 = .ok (.iaload, 1) := by decide +kernel
theorem dX6_warms_52 : decode cX6_warms 52 = .ok (.iload_n 1, 1) := by decide +kernel
theorem dX6_warms_53 : decode cX6_warms 53 = .ok (.iadd, 1) := by decide +kernel
theorem dX6_warms_54 : decode cX6_warms 54 = .ok (.iastore, 1) := by decide +kernel
theorem dX6_warms_55 : decode cX6_warms 55 = .ok (.aload_n 0, 1) := by decide +kernel
theorem dX6_warms_56 : decode cX6_warms 56 = .ok (.getfield 7, 3) := by decide +kernel
theorem dX6_warms_59 : decode cX6_warms 59 = .ok (.iconst 4, 1) := by decide +kernel
theorem dX6_warms_60 : decode cX6_warms 60 = .ok (.iaload, 1) := by decide +kernel
theorem dX6_warms_61 : decode cX6_warms 61 = .ok (.ireturn, 1) := by decide +kernel
theorem dX6_readingPart_0 : decode cX6_readingPart 0 = .ok (.aload_n 0, 1) := by decide +kernel
theorem dX6_readingPart_1 : decode cX6_readingPart 1 = .ok (.getfield 7, 3) := by decide +kernel
theorem dX6_readingPart_4 : decode cX6_readingPart 4 = .ok (.bipush 85, 2) := by decide +kernel
theorem dX6_readingPart_6 : decode cX6_readingPart 6 = .ok (.iconst 3, 1) := by decide +kernel
theorem dX6_readingPart_7 : decode cX6_readingPart 7 = .ok (.iload_n 1, 1) := by decide +kernel
theorem dX6_readingPart_8 : decode cX6_readingPart 8 = .ok (.imul, 1) := by decide +kernel
theorem dX6_readingPart_9 : decode cX6_readingPart 9 = .ok (.iadd, 1) := by decide +kernel
theorem dX6_readingPart_10 : decode cX6_readingPart 10 = .ok (.iload_n 2, 1) := by decide +kernel
theorem dX6_readingPart_11 : decode cX6_readingPart 11 = .ok (.iadd, 1) := by decide +kernel
theorem dX6_readingPart_12 : decode cX6_readingPart 12 = .ok (.iaload, 1) := by decide +kernel
theorem dX6_readingPart_13 : decode cX6_readingPart 13 = .ok (.ireturn, 1) := by decide +kernel
set_option maxRecDepth 20000 in
theorem ggX6_findMade_X6_coolsThought : GoodIn wsX6_findMade wsX6_coolsThought := goodIn_r _ [8, 3, 61, 62, 63, 64, 65, 66, 67, 68, 69, 70, 71, 72, 73, 74, 75, 76, 77, 78, 79, 80, 81, 82, 83, 84, 85] (by decide +kernel) (by decide +kernel)
set_option maxRecDepth 20000 in
theorem gX6_findMade_X6_coolsThought : GoodIn wsX6_findMade (wsV RX6 107 RX6 yX6_coolsThought wsX6_coolsThought) := goodIn_app (goodIn_of _ (by decide +kernel)) ggX6_findMade_X6_coolsThought
set_option maxRecDepth 20000 in
theorem ggX6_findMade_X6_readingPart : GoodIn wsX6_findMade wsX6_readingPart := goodIn_r _ [12, 1, 61, 62, 63, 64, 65, 66, 67, 68, 69, 70, 71, 72, 73, 74, 75, 76, 77, 78, 79, 80, 81, 82, 83, 84, 85] (by decide +kernel) (by decide +kernel)
set_option maxRecDepth 20000 in
theorem gX6_findMade_X6_readingPart : GoodIn wsX6_findMade (wsV RX6 115 RX6 yX6_readingPart wsX6_readingPart) := goodIn_app (goodIn_of _ (by decide +kernel)) ggX6_findMade_X6_readingPart
set_option maxRecDepth 20000 in
theorem ggX6_findMade_X6_steps : GoodIn wsX6_findMade wsX6_steps := goodIn_r _ [16, 3, 1, 17, 18, 19, 20, 7, 21, 22, 23, 24, 25, 26, 27, 28, 29, 30, 31, 32, 33, 34, 35, 36, 37, 38, 39, 40, 41, 42, 43, 44, 45, 46, 47, 48, 49, 50, 51, 52, 53, 54, 55, 56, 57, 58, 59, 60, 61, 62, 63, 64, 65, 66, 67, 68, 69, 70, 71, 72, 73, 74, 75, 76, 77, 78, 79, 80, 81, 82, 83, 84, 85] (by decide +kernel) (by decide +kernel)
set_option maxRecDepth 20000 in
theorem gX6_findMade_X6_steps : GoodIn wsX6_findMade (wsV RX6 110 RX6 yX6_steps wsX6_steps) := goodIn_app (goodIn_of _ (by decide +kernel)) ggX6_findMade_X6_steps
theorem dX6_findMade_0 : decode cX6_findMade 0 = .ok (.aload_n 0, 1) := by decide +kernel
theorem dX6_findMade_1 : decode cX6_findMade 1 = .ok (.invokevirtual 107, 3) := by decide +kernel
theorem dX6_findMade_4 : decode cX6_findMade 4 = .ok (.iconst 0, 1) := by decide +kernel
theorem dX6_findMade_5 : decode cX6_findMade 5 = .ok (.istore_n 2, 1) := by decide +kernel
theorem dX6_findMade_6 : decode cX6_findMade 6 = .ok (.iload_n 2, 1) := by decide +kernel
theorem dX6_findMade_7 : decode cX6_findMade 7 = .ok (.bipush 100, 2) := by decide +kernel
theorem dX6_findMade_9 : decode cX6_findMade 9 = .ok (.if_icmp .gt 75, 3) := by decide +kernel
theorem dX6_findMade_12 : decode cX6_findMade 12 = .ok (.iconst 0, 1) := by decide +kernel
theorem dX6_findMade_13 : decode cX6_findMade 13 = .ok (.istore_n 3, 1) := by decide +kernel
theorem dX6_findMade_14 : decode cX6_findMade 14 = .ok (.iload_n 3, 1) := by decide +kernel
theorem dX6_findMade_15 : decode cX6_findMade 15 = .ok (.aload_n 0, 1) := by decide +kernel
theorem dX6_findMade_16 : decode cX6_findMade 16 = .ok (.getfield 7, 3) := by decide +kernel
theorem dX6_findMade_19 : decode cX6_findMade 19 = .ok (.bipush 6, 2) := by decide +kernel
theorem dX6_findMade_21 : decode cX6_findMade 21 = .ok (.iaload, 1) := by decide +kernel
theorem dX6_findMade_22 : decode cX6_findMade 22 = .ok (.if_icmp .ge 41, 3) := by decide +kernel
theorem dX6_findMade_25 : decode cX6_findMade 25 = .ok (.aload_n 0, 1) := by decide +kernel
theorem dX6_findMade_26 : decode cX6_findMade 26 = .ok (.iload_n 3, 1) := by decide +kernel
theorem dX6_findMade_27 : decode cX6_findMade 27 = .ok (.iconst 2, 1) := by decide +kernel
theorem dX6_findMade_28 : decode cX6_findMade 28 = .ok (.invokevirtual 115, 3) := by decide +kernel
theorem dX6_findMade_31 : decode cX6_findMade 31 = .ok (.iload_n 2, 1) := by decide +kernel
theorem dX6_findMade_32 : decode cX6_findMade 32 = .ok (.if_icmp .ne 25, 3) := by decide +kernel
theorem dX6_findMade_35 : decode cX6_findMade 35 = .ok (.aload_n 0, 1) := by decide +kernel
theorem dX6_findMade_36 : decode cX6_findMade 36 = .ok (.getfield 41, 3) := by decide +kernel
theorem dX6_findMade_39 : decode cX6_findMade 39 = .ok (.bipush 8, 2) := by decide +kernel
theorem dX6_findMade_41 : decode cX6_findMade 41 = .ok (.iload_n 1, 1) := by decide +kernel
theorem dX6_findMade_42 : decode cX6_findMade 42 = .ok (.imul, 1) := by decide +kernel
theorem dX6_findMade_43 : decode cX6_findMade 43 = .ok (.iload_n 3, 1) := by decide +kernel
theorem dX6_findMade_44 : decode cX6_findMade 44 = .ok (.iadd, 1) := by decide +kernel
theorem dX6_findMade_45 : decode cX6_findMade 45 = .ok (.aload_n 0, 1) := by decide +kernel
theorem dX6_findMade_46 : decode cX6_findMade 46 = .ok (.getfield 35, 3) := by decide +kernel
theorem dX6_findMade_49 : decode cX6_findMade 49 = .ok (.aload_n 0, 1) := by decide +kernel
theorem dX6_findMade_50 : decode cX6_findMade 50 = .ok (.iload_n 3, 1) := by decide +kernel
theorem dX6_findMade_51 : decode cX6_findMade 51 = .ok (.iconst 0, 1) := by decide +kernel
theorem dX6_findMade_52 : decode cX6_findMade 52 = .ok (.invokevirtual 115, 3) := by decide +kernel
theorem dX6_findMade_55 : decode cX6_findMade 55 = .ok (.faload, 1) := by decide +kernel
theorem dX6_findMade_56 : decode cX6_findMade 56 = .ok (.fastore, 1) := by decide +kernel
theorem dX6_findMade_57 : decode cX6_findMade 57 = .ok (.iinc 3 1, 3) := by decide +kernel
theorem dX6_findMade_60 : decode cX6_findMade 60 = .ok (.goto (-46), 3) := by decide +kernel
theorem dX6_findMade_63 : decode cX6_findMade 63 = .ok (.iload_n 2, 1) := by decide +kernel
theorem dX6_findMade_64 : decode cX6_findMade 64 = .ok (.aload_n 0, 1) := by decide +kernel
theorem dX6_findMade_65 : decode cX6_findMade 65 = .ok (.getfield 7, 3) := by decide +kernel
theorem dX6_findMade_68 : decode cX6_findMade 68 = .ok (.iconst 4, 1) := by decide +kernel
theorem dX6_findMade_69 : decode cX6_findMade 69 = .ok (.iaload, 1) := by decide +kernel
theorem dX6_findMade_70 : decode cX6_findMade 70 = .ok (.if_icmp .ge 8, 3) := by decide +kernel
theorem dX6_findMade_73 : decode cX6_findMade 73 = .ok (.aload_n 0, 1) := by decide +kernel
theorem dX6_findMade_74 : decode cX6_findMade 74 = .ok (.iload_n 1, 1) := by decide +kernel
theorem dX6_findMade_75 : decode cX6_findMade 75 = .ok (.invokevirtual 110, 3) := by decide +kernel
theorem dX6_findMade_78 : decode cX6_findMade 78 = .ok (.iinc 2 1, 3) := by decide +kernel
theorem dX6_findMade_81 : decode cX6_findMade 81 = .ok (.goto (-75), 3) := by decide +kernel
theorem dX6_findMade_84 : decode cX6_findMade 84 = .ok (.return_, 1) := by decide +kernel
set_option maxRecDepth 20000 in
theorem ggX6_fits_X6_readOf : GoodIn wsX6_fits wsX6_readOf := goodIn_r _ [5, 6] (by decide +kernel) (by decide +kernel)
set_option maxRecDepth 20000 in
theorem gX6_fits_X6_readOf : GoodIn wsX6_fits (va_wsS RX6 118 yX6_readOf wsX6_readOf) := goodIn_app (goodIn_of _ (by decide +kernel)) ggX6_fits_X6_readOf
set_option maxRecDepth 20000 in
theorem ggX6_fits_X6_readingPart : GoodIn wsX6_fits wsX6_readingPart := goodIn_r _ [10, 1, 14, 15, 16, 17, 18, 19, 20, 21, 22, 23, 24, 25, 26, 27, 28, 29, 30, 31, 32, 33, 34, 35, 36, 37, 38] (by decide +kernel) (by decide +kernel)
set_option maxRecDepth 20000 in
theorem gX6_fits_X6_readingPart : GoodIn wsX6_fits (wsV RX6 115 RX6 yX6_readingPart wsX6_readingPart) := goodIn_app (goodIn_of _ (by decide +kernel)) ggX6_fits_X6_readingPart
set_option maxRecDepth 20000 in
theorem ggX6_fits_X6_within : GoodIn wsX6_fits wsX6_within := goodIn_r _ [13] (by decide +kernel) (by decide +kernel)
set_option maxRecDepth 20000 in
theorem gX6_fits_X6_within : GoodIn wsX6_fits (va_wsS RX6 68 yX6_within wsX6_within) := goodIn_app (goodIn_of _ (by decide +kernel)) ggX6_fits_X6_within
theorem dX6_fits_0 : decode cX6_fits 0 = .ok (.fload_n 1, 1) := by decide +kernel
theorem dX6_fits_1 : decode cX6_fits 1 = .ok (.invokestatic 118, 3) := by decide +kernel
theorem dX6_fits_4 : decode cX6_fits 4 = .ok (.aload_n 0, 1) := by decide +kernel
theorem dX6_fits_5 : decode cX6_fits 5 = .ok (.iload_n 2, 1) := by decide +kernel
theorem dX6_fits_6 : decode cX6_fits 6 = .ok (.iconst 1, 1) := by decide +kernel
theorem dX6_fits_7 : decode cX6_fits 7 = .ok (.invokevirtual 115, 3) := by decide +kernel
theorem dX6_fits_10 : decode cX6_fits 10 = .ok (.isub, 1) := by decide +kernel
theorem dX6_fits_11 : decode cX6_fits 11 = .ok (.istore_n 3, 1) := by decide +kernel
theorem dX6_fits_12 : decode cX6_fits 12 = .ok (.iload_n 3, 1) := by decide +kernel
theorem dX6_fits_13 : decode cX6_fits 13 = .ok (.aload_n 0, 1) := by decide +kernel
theorem dX6_fits_14 : decode cX6_fits 14 = .ok (.getfield 7, 3) := by decide +kernel
theorem dX6_fits_17 : decode cX6_fits 17 = .ok (.iconst 3, 1) := by decide +kernel
theorem dX6_fits_18 : decode cX6_fits 18 = .ok (.iaload, 1) := by decide +kernel
theorem dX6_fits_19 : decode cX6_fits 19 = .ok (.ineg, 1) := by decide +kernel
theorem dX6_fits_20 : decode cX6_fits 20 = .ok (.aload_n 0, 1) := by decide +kernel
theorem dX6_fits_21 : decode cX6_fits 21 = .ok (.getfield 7, 3) := by decide +kernel
theorem dX6_fits_24 : decode cX6_fits 24 = .ok (.iconst 3, 1) := by decide +kernel
theorem dX6_fits_25 : decode cX6_fits 25 = .ok (.iaload, 1) := by decide +kernel
theorem dX6_fits_26 : decode cX6_fits 26 = .ok (.invokestatic 68, 3) := by decide +kernel
theorem dX6_fits_29 : decode cX6_fits 29 = .ok (.ireturn, 1) := by decide +kernel
set_option maxRecDepth 20000 in
theorem ggX6_fitsAlone_X6_fits : GoodIn wsX6_fitsAlone wsX6_fits := goodIn_r _ [7, 1, 8, 9, 6, 10, 11, 12, 13, 14, 15, 16, 17, 18, 19, 20, 21, 22, 23, 24, 25, 26, 27, 28, 29, 30, 31, 32, 33, 34, 35, 36, 37, 38, 39, 40, 41, 42, 43] (by decide +kernel) (by decide +kernel)
set_option maxRecDepth 20000 in
theorem gX6_fitsAlone_X6_fits : GoodIn wsX6_fitsAlone (wsV RX6 122 RX6 yX6_fits wsX6_fits) := goodIn_app (goodIn_of _ (by decide +kernel)) ggX6_fitsAlone_X6_fits
theorem dX6_fitsAlone_0 : decode cX6_fitsAlone 0 = .ok (.iconst 1, 1) := by decide +kernel
theorem dX6_fitsAlone_1 : decode cX6_fitsAlone 1 = .ok (.istore_n 2, 1) := by decide +kernel
theorem dX6_fitsAlone_2 : decode cX6_fitsAlone 2 = .ok (.iconst 0, 1) := by decide +kernel
theorem dX6_fitsAlone_3 : decode cX6_fitsAlone 3 = .ok (.istore_n 3, 1) := by decide +kernel
theorem dX6_fitsAlone_4 : decode cX6_fitsAlone 4 = .ok (.iload_n 3, 1) := by decide +kernel
theorem dX6_fitsAlone_5 : decode cX6_fitsAlone 5 = .ok (.aload_n 0, 1) := by decide +kernel
theorem dX6_fitsAlone_6 : decode cX6_fitsAlone 6 = .ok (.getfield 7, 3) := by decide +kernel
theorem dX6_fitsAlone_9 : decode cX6_fitsAlone 9 = .ok (.bipush 6, 2) := by decide +kernel
theorem dX6_fitsAlone_11 : decode cX6_fitsAlone 11 = .ok (.iaload, 1) := by decide +kernel
theorem dX6_fitsAlone_12 : decode cX6_fitsAlone 12 = .ok (.if_icmp .ge 38, 3) := by decide +kernel
theorem dX6_fitsAlone_15 : decode cX6_fitsAlone 15 = .ok (.iload_n 2, 1) := by decide +kernel
theorem dX6_fitsAlone_16 : decode cX6_fitsAlone 16 = .ok (.ifCond .eq 26, 3) := by decide +kernel
theorem dX6_fitsAlone_19 : decode cX6_fitsAlone 19 = .ok (.aload_n 0, 1) := by decide +kernel
theorem dX6_fitsAlone_20 : decode cX6_fitsAlone 20 = .ok (.aload_n 0, 1) := by decide +kernel
theorem dX6_fitsAlone_21 : decode cX6_fitsAlone 21 = .ok (.getfield 41, 3) := by decide +kernel
theorem dX6_fitsAlone_24 : decode cX6_fitsAlone 24 = .ok (.bipush 8, 2) := by decide +kernel
theorem dX6_fitsAlone_26 : decode cX6_fitsAlone 26 = .ok (.iload_n 1, 1) := by decide +kernel
theorem dX6_fitsAlone_27 : decode cX6_fitsAlone 27 = .ok (.imul, 1) := by decide +kernel
theorem dX6_fitsAlone_28 : decode cX6_fitsAlone 28 = .ok (.iload_n 3, 1) := by decide +kernel
theorem dX6_fitsAlone_29 : decode cX6_fitsAlone 29 = .ok (.iadd, 1) := by decide +kernel
theorem dX6_fitsAlone_30 : decode cX6_fitsAlone 30 = .ok (.faload, 1) := by decide +kernel
theorem dX6_fitsAlone_31 : decode cX6_fitsAlone 31 = .ok (.iload_n 3, 1) := by decide +kernel
theorem dX6_fitsAlone_32 : decode cX6_fitsAlone 32 = .ok (.invokevirtual 122, 3) := by decide +kernel
theorem dX6_fitsAlone_35 : decode cX6_fitsAlone 35 = .ok (.ifCond .eq 7, 3) := by decide +kernel
theorem dX6_fitsAlone_38 : decode cX6_fitsAlone 38 = .ok (.iconst 1, 1) := by decide +kernel
theorem dX6_fitsAlone_39 : decode cX6_fitsAlone 39 = .ok (.goto 4, 3) := by decide +kernel
theorem dX6_fitsAlone_42 : decode cX6_fitsAlone 42 = .ok (.iconst 0, 1) := by decide +kernel
theorem dX6_fitsAlone_43 : decode cX6_fitsAlone 43 = .ok (.istore_n 2, 1) := by decide +kernel
theorem dX6_fitsAlone_44 : decode cX6_fitsAlone 44 = .ok (.iinc 3 1, 3) := by decide +kernel
theorem dX6_fitsAlone_47 : decode cX6_fitsAlone 47 = .ok (.goto (-43), 3) := by decide +kernel
theorem dX6_fitsAlone_50 : decode cX6_fitsAlone 50 = .ok (.iload_n 2, 1) := by decide +kernel
theorem dX6_fitsAlone_51 : decode cX6_fitsAlone 51 = .ok (.ireturn, 1) := by decide +kernel
set_option maxRecDepth 20000 in
theorem ggX6_fitsBoth_X6_fits : GoodIn wsX6_fitsBoth wsX6_fits := goodIn_r _ [7, 1, 8, 9, 6, 10, 11, 12, 13, 14, 15, 16, 17, 18, 19, 20, 21, 22, 23, 24, 25, 26, 27, 28, 29, 30, 31, 32, 33, 34, 35, 36, 37, 38, 39, 40, 41, 42, 43] (by decide +kernel) (by decide +kernel)
set_option maxRecDepth 20000 in
theorem gX6_fitsBoth_X6_fits : GoodIn wsX6_fitsBoth (wsV RX6 122 RX6 yX6_fits wsX6_fits) := goodIn_app (goodIn_of _ (by decide +kernel)) ggX6_fitsBoth_X6_fits
theorem dX6_fitsBoth_0 : decode cX6_fitsBoth 0 = .ok (.iconst 1, 1) := by decide +kernel
theorem dX6_fitsBoth_1 : decode cX6_fitsBoth 1 = .ok (.istore_n 3, 1) := by decide +kernel
theorem dX6_fitsBoth_2 : decode cX6_fitsBoth 2 = .ok (.iconst 0, 1) := by decide +kernel
theorem dX6_fitsBoth_3 : decode cX6_fitsBoth 3 = .ok (.istore 4, 2) := by decide +kernel
theorem dX6_fitsBoth_5 : decode cX6_fitsBoth 5 = .ok (.iload 4, 2) := by decide +kernel
theorem dX6_fitsBoth_7 : decode cX6_fitsBoth 7 = .ok (.aload_n 0, 1) := by decide +kernel
theorem dX6_fitsBoth_8 : decode cX6_fitsBoth 8 = .ok (.getfield 7, 3) := by decide +kernel
theorem dX6_fitsBoth_11 : decode cX6_fitsBoth 11 = .ok (.bipush 6, 2) := by decide +kernel
theorem dX6_fitsBoth_13 : decode cX6_fitsBoth 13 = .ok (.iaload, 1) := by decide +kernel
theorem dX6_fitsBoth_14 : decode cX6_fitsBoth 14 = .ok (.if_icmp .ge 53, 3) := by decide +kernel
theorem dX6_fitsBoth_17 : decode cX6_fitsBoth 17 = .ok (.iload_n 3, 1) := by decide +kernel
theorem dX6_fitsBoth_18 : decode cX6_fitsBoth 18 = .ok (.ifCond .eq 41, 3) := by decide +kernel
theorem dX6_fitsBoth_21 : decode cX6_fitsBoth 21 = .ok (.aload_n 0, 1) := by decide +kernel
theorem dX6_fitsBoth_22 : decode cX6_fitsBoth 22 = .ok (.aload_n 0, 1) := by decide +kernel
theorem dX6_fitsBoth_23 : decode cX6_fitsBoth 23 = .ok (.getfield 41, 3) := by decide +kernel
theorem dX6_fitsBoth_26 : decode cX6_fitsBoth 26 = .ok (.bipush 8, 2) := by decide +kernel
theorem dX6_fitsBoth_28 : decode cX6_fitsBoth 28 = .ok (.iload_n 1, 1) := by decide +kernel
theorem dX6_fitsBoth_29 : decode cX6_fitsBoth 29 = .ok (.imul, 1) := by decide +kernel
theorem dX6_fitsBoth_30 : decode cX6_fitsBoth 30 = .ok (.iload 4, 2) := by decide +kernel
theorem dX6_fitsBoth_32 : decode cX6_fitsBoth 32 = .ok (.iadd, 1) := by decide +kernel
theorem dX6_fitsBoth_33 : decode cX6_fitsBoth 33 = .ok (.faload, 1) := by decide +kernel
theorem dX6_fitsBoth_34 : decode cX6_fitsBoth 34 = .ok (.aload_n 0, 1) := by decide +kernel
theorem dX6_fitsBoth_35 : decode cX6_fitsBoth 35 = .ok (.getfield 41, 3) := by decide +kernel
theorem dX6_fitsBoth_38 : decode cX6_fitsBoth 38 = .ok (.bipush 8, 2) := by decide +kernel
theorem dX6_fitsBoth_40 : decode cX6_fitsBoth 40 = .ok (.iload_n 2, 1) := by decide +kernel
theorem dX6_fitsBoth_41 : decode cX6_fitsBoth 41 = .ok (.imul, 1) := by decide +kernel
theorem dX6_fitsBoth_42 : decode cX6_fitsBoth 42 = .ok (.iload 4, 2) := by decide +kernel
theorem dX6_fitsBoth_44 : decode cX6_fitsBoth 44 = .ok (.iadd, 1) := by decide +kernel
theorem dX6_fitsBoth_45 : decode cX6_fitsBoth 45 = .ok (.faload, 1) := by decide +kernel
theorem dX6_fitsBoth_46 : decode cX6_fitsBoth 46 = .ok (.fadd, 1) := by decide +kernel
theorem dX6_fitsBoth_47 : decode cX6_fitsBoth 47 = .ok (.iload 4, 2) := by decide +kernel
theorem dX6_fitsBoth_49 : decode cX6_fitsBoth 49 = .ok (.invokevirtual 122, 3) := by decide +kernel
theorem dX6_fitsBoth_52 : decode cX6_fitsBoth 52 = .ok (.ifCond .eq 7, 3) := by decide +kernel
theorem dX6_fitsBoth_55 : decode cX6_fitsBoth 55 = .ok (.iconst 1, 1) := by decide +kernel
theorem dX6_fitsBoth_56 : decode cX6_fitsBoth 56 = .ok (.goto 4, 3) := by decide +kernel
theorem dX6_fitsBoth_59 : decode cX6_fitsBoth 59 = .ok (.iconst 0, 1) := by decide +kernel
theorem dX6_fitsBoth_60 : decode cX6_fitsBoth 60 = .ok (.istore_n 3, 1) := by decide +kernel
theorem dX6_fitsBoth_61 : decode cX6_fitsBoth 61 = .ok (.iinc 4 1, 3) := by decide +kernel
theorem dX6_fitsBoth_64 : decode cX6_fitsBoth 64 = .ok (.goto (-59), 3) := by decide +kernel
theorem dX6_fitsBoth_67 : decode cX6_fitsBoth 67 = .ok (.iload_n 3, 1) := by decide +kernel
theorem dX6_fitsBoth_68 : decode cX6_fitsBoth 68 = .ok (.ireturn, 1) := by decide +kernel
set_option maxRecDepth 20000 in
theorem ggX6_findSuspects_X6_isSuspect : GoodIn wsX6_findSuspects wsX6_isSuspect := goodIn_r _ [8, 9, 10, 7, 11, 12, 13, 14, 15, 16, 17, 18, 19, 20, 21, 22, 23, 24, 25, 26, 27, 28, 29, 30, 31, 32, 84, 85, 86, 87, 88, 89, 90, 91, 92, 93, 94, 95, 96, 97, 98, 99, 100, 101, 102, 103, 104, 105, 106, 107, 108] (by decide +kernel) (by decide +kernel)
set_option maxRecDepth 20000 in
theorem gX6_findSuspects_X6_isSuspect : GoodIn wsX6_findSuspects (wsV RX6 126 RX6 yX6_isSuspect wsX6_isSuspect) := goodIn_app (goodIn_of _ (by decide +kernel)) ggX6_findSuspects_X6_isSuspect
set_option maxRecDepth 20000 in
theorem ggX6_findSuspects_X6_findMade : GoodIn wsX6_findSuspects wsX6_findMade := goodIn_r _ [36, 28, 37, 38, 39, 40, 41, 7, 42, 43, 44, 45, 46, 47, 48, 49, 50, 51, 52, 9, 10, 11, 12, 13, 14, 15, 16, 17, 18, 19, 20, 21, 22, 23, 53, 54, 55, 56, 57, 58, 59, 60, 61, 62, 63, 64, 65, 66, 67, 68, 24, 25, 26, 27, 29, 30, 31, 32, 69, 70, 71, 84, 85, 86, 87, 88, 89, 90, 91, 92, 93, 94, 95, 96, 97, 98, 99, 100, 101, 102, 103, 104, 105, 106, 107, 108] (by decide +kernel) (by decide +kernel)
set_option maxRecDepth 20000 in
theorem gX6_findSuspects_X6_findMade : GoodIn wsX6_findSuspects (wsV RX6 129 RX6 yX6_findMade wsX6_findMade) := goodIn_app (goodIn_of _ (by decide +kernel)) ggX6_findSuspects_X6_findMade
set_option maxRecDepth 20000 in
theorem ggX6_findSuspects_X6_fitsAlone : GoodIn wsX6_findSuspects wsX6_fitsAlone := goodIn_r _ [75, 28, 37, 76, 77, 78, 7, 79, 80, 81, 82, 83, 43, 44, 45, 46, 18, 19, 20, 84, 85, 86, 87, 88, 89, 90, 91, 92, 93, 94, 95, 96, 97, 98, 99, 100, 101, 102, 103, 104, 105, 106, 107, 108] (by decide +kernel) (by decide +kernel)
set_option maxRecDepth 20000 in
theorem gX6_findSuspects_X6_fitsAlone : GoodIn wsX6_findSuspects (wsV RX6 132 RX6 yX6_fitsAlone wsX6_fitsAlone) := goodIn_app (goodIn_of _ (by decide +kernel)) ggX6_findSuspects_X6_fitsAlone
theorem dX6_findSuspects_0 : decode cX6_findSuspects 0 = .ok (.iconst 0, 1) := by decide +kernel
theorem dX6_findSuspects_1 : decode cX6_findSuspects 1 = .ok (.istore_n 1, 1) := by decide +kernel
theorem dX6_findSuspects_2 : decode cX6_findSuspects 2 = .ok (.iload_n 1, 1) := by decide +kernel
theorem dX6_findSuspects_3 : decode cX6_findSuspects 3 = .ok (.bipush 64, 2) := by decide +kernel
theorem dX6_findSuspects_5 : decode cX6_findSuspects 5 = .ok (.if_icmp .ge 79, 3) := by decide +kernel
theorem dX6_findSuspects_8 : decode cX6_findSuspects 8 = .ok (.aload_n 0, 1) := by decide +kernel
theorem dX6_findSuspects_9 : decode cX6_findSuspects 9 = .ok (.getfield 44, 3) := by decide +kernel
theorem dX6_findSuspects_12 : decode cX6_findSuspects 12 = .ok (.iload_n 1, 1) := by decide +kernel
theorem dX6_findSuspects_13 : decode cX6_findSuspects 13 = .ok (.aload_n 0, 1) := by decide +kernel
theorem dX6_findSuspects_14 : decode cX6_findSuspects 14 = .ok (.iload_n 1, 1) := by decide +kernel
theorem dX6_findSuspects_15 : decode cX6_findSuspects 15 = .ok (.invokevirtual 126, 3) := by decide +kernel
theorem dX6_findSuspects_18 : decode cX6_findSuspects 18 = .ok (.ifCond .eq 7, 3) := by decide +kernel
theorem dX6_findSuspects_21 : decode cX6_findSuspects 21 = .ok (.iconst 1, 1) := by decide +kernel
theorem dX6_findSuspects_22 : decode cX6_findSuspects 22 = .ok (.goto 4, 3) := by decide +kernel
theorem dX6_findSuspects_25 : decode cX6_findSuspects 25 = .ok (.iconst 0, 1) := by decide +kernel
theorem dX6_findSuspects_26 : decode cX6_findSuspects 26 = .ok (.iastore, 1) := by decide +kernel
theorem dX6_findSuspects_27 : decode cX6_findSuspects 27 = .ok (.aload_n 0, 1) := by decide +kernel
theorem dX6_findSuspects_28 : decode cX6_findSuspects 28 = .ok (.getfield 44, 3) := by decide +kernel
theorem dX6_findSuspects_31 : decode cX6_findSuspects 31 = .ok (.iload_n 1, 1) := by decide +kernel
theorem dX6_findSuspects_32 : decode cX6_findSuspects 32 = .ok (.iaload, 1) := by decide +kernel
theorem dX6_findSuspects_33 : decode cX6_findSuspects 33 = .ok (.iconst 1, 1) := by decide +kernel
theorem dX6_findSuspects_34 : decode cX6_findSuspects 34 = .ok (.if_icmp .ne 8, 3) := by decide +kernel
theorem dX6_findSuspects_37 : decode cX6_findSuspects 37 = .ok (.aload_n 0, 1) := by decide +kernel
theorem dX6_findSuspects_38 : decode cX6_findSuspects 38 = .ok (.iload_n 1, 1) := by decide +kernel
theorem dX6_findSuspects_39 : decode cX6_findSuspects 39 = .ok (.invokevirtual 129, 3) := by decide +kernel
theorem dX6_findSuspects_42 : decode cX6_findSuspects 42 = .ok (.aload_n 0, 1) := by decide +kernel
theorem dX6_findSuspects_43 : decode cX6_findSuspects 43 = .ok (.getfield 47, 3) := by decide +kernel
theorem dX6_findSuspects_46 : decode cX6_findSuspects 46 = .ok (.iload_n 1, 1) := by decide +kernel
theorem dX6_findSuspects_47 : decode cX6_findSuspects 47 = .ok (.aload_n 0, 1) := by decide +kernel
theorem dX6_findSuspects_48 : decode cX6_findSuspects 48 = .ok (.getfield 44, 3) := by decide +kernel
theorem dX6_findSuspects_51 : decode cX6_findSuspects 51 = .ok (.iload_n 1, 1) := by decide +kernel
theorem dX6_findSuspects_52 : decode cX6_findSuspects 52 = .ok (.iaload, 1) := by decide +kernel
theorem dX6_findSuspects_53 : decode cX6_findSuspects 53 = .ok (.iconst 1, 1) := by decide +kernel
theorem dX6_findSuspects_54 : decode cX6_findSuspects 54 = .ok (.if_icmp .ne 15, 3) := by decide +kernel
theorem dX6_findSuspects_57 : decode cX6_findSuspects 57 = .ok (.aload_n 0, 1) := by decide +kernel
theorem dX6_findSuspects_58 : decode cX6_findSuspects 58 = .ok (.iload_n 1, 1) := by decide +kernel
theorem dX6_findSuspects_59 : decode cX6_findSuspects 59 = .ok (.invokevirtual 132, 3) := by decide +kernel
theorem dX6_findSuspects_62 : decode cX6_findSuspects 62 = .ok (.ifCond .eq 7, 3) := by decide +kernel
theorem dX6_findSuspects_65 : decode cX6_findSuspects 65 = .ok (.iconst 1, 1) := by decide +kernel
theorem dX6_findSuspects_66 : decode cX6_findSuspects 66 = .ok (.goto 4, 3) := by decide +kernel
theorem dX6_findSuspects_69 : decode cX6_findSuspects 69 = .ok (.iconst 0, 1) := by decide +kernel
theorem dX6_findSuspects_70 : decode cX6_findSuspects 70 = .ok (.iastore, 1) := by decide +kernel
theorem dX6_findSuspects_71 : decode cX6_findSuspects 71 = .ok (.aload_n 0, 1) := by decide +kernel
theorem dX6_findSuspects_72 : decode cX6_findSuspects 72 = .ok (.getfield 50, 3) := by decide +kernel
theorem dX6_findSuspects_75 : decode cX6_findSuspects 75 = .ok (.iload_n 1, 1) := by decide +kernel
theorem dX6_findSuspects_76 : decode cX6_findSuspects 76 = .ok (.iconst 0, 1) := by decide +kernel
theorem dX6_findSuspects_77 : decode cX6_findSuspects 77 = .ok (.iastore, 1) := by decide +kernel
theorem dX6_findSuspects_78 : decode cX6_findSuspects 78 = .ok (.iinc 1 1, 3) := by decide +kernel
theorem dX6_findSuspects_81 : decode cX6_findSuspects 81 = .ok (.goto (-79), 3) := by decide +kernel
theorem dX6_findSuspects_84 : decode cX6_findSuspects 84 = .ok (.return_, 1) := by decide +kernel
set_option maxRecDepth 20000 in
theorem ggX6_findPairs_X6_findSuspects : GoodIn wsX6_findPairs wsX6_findSuspects := goodIn_r _ [8, 2, 9, 3, 10, 11, 12, 7, 13, 14, 15, 16, 17, 18, 19, 20, 21, 22, 23, 24, 25, 26, 27, 28, 29, 30, 31, 32, 33, 34, 35, 36, 37, 38, 39, 40, 41, 42, 43, 44, 45, 46, 47, 48, 49, 50, 51, 52, 53, 54, 55, 56, 57, 58, 59, 60, 61, 62, 63, 64, 65, 66, 67, 68, 69, 70, 71, 72, 73, 74, 75, 76, 77, 78, 79, 80, 81, 82, 83, 84, 85, 86, 87, 88, 93, 94, 95, 96, 97, 98, 99, 100, 101, 102, 103, 104, 105, 106, 107, 108, 109, 110, 111, 112, 113, 114, 115, 116, 117] (by decide +kernel) (by decide +kernel)
set_option maxRecDepth 20000 in
theorem gX6_findPairs_X6_findSuspects : GoodIn wsX6_findPairs (wsV RX6 135 RX6 yX6_findSuspects wsX6_findSuspects) := goodIn_app (goodIn_of _ (by decide +kernel)) ggX6_findPairs_X6_findSuspects
set_option maxRecDepth 20000 in
theorem ggX6_findPairs_X6_fitsBoth : GoodIn wsX6_findPairs wsX6_fitsBoth := goodIn_r _ [92, 33, 42, 81, 82, 83, 7, 84, 85, 86, 87, 88, 48, 49, 50, 51, 23, 24, 25, 93, 94, 95, 96, 97, 98, 99, 100, 101, 102, 103, 104, 105, 106, 107, 108, 109, 110, 111, 112, 113, 114, 115, 116, 117] (by decide +kernel) (by decide +kernel)
set_option maxRecDepth 20000 in
theorem gX6_findPairs_X6_fitsBoth : GoodIn wsX6_findPairs (wsV RX6 141 RX6 yX6_fitsBoth wsX6_fitsBoth) := goodIn_app (goodIn_of _ (by decide +kernel)) ggX6_findPairs_X6_fitsBoth
theorem dX6_findPairs_0 : decode cX6_findPairs 0 = .ok (.aload_n 0, 1) := by decide +kernel
theorem dX6_findPairs_1 : decode cX6_findPairs 1 = .ok (.invokevirtual 135, 3) := by decide +kernel
theorem dX6_findPairs_4 : decode cX6_findPairs 4 = .ok (.aload_n 0, 1) := by decide +kernel
theorem dX6_findPairs_5 : decode cX6_findPairs 5 = .ok (.iconst 0, 1) := by decide +kernel
theorem dX6_findPairs_6 : decode cX6_findPairs 6 = .ok (.putfield 138, 3) := by decide +kernel
theorem dX6_findPairs_9 : decode cX6_findPairs 9 = .ok (.iconst 0, 1) := by decide +kernel
theorem dX6_findPairs_10 : decode cX6_findPairs 10 = .ok (.istore_n 1, 1) := by decide +kernel
theorem dX6_findPairs_11 : decode cX6_findPairs 11 = .ok (.iload_n 1, 1) := by decide +kernel
theorem dX6_findPairs_12 : decode cX6_findPairs 12 = .ok (.bipush 64, 2) := by decide +kernel
theorem dX6_findPairs_14 : decode cX6_findPairs 14 = .ok (.if_icmp .ge 78, 3) := by decide +kernel
theorem dX6_findPairs_17 : decode cX6_findPairs 17 = .ok (.iload_n 1, 1) := by decide +kernel
theorem dX6_findPairs_18 : decode cX6_findPairs 18 = .ok (.iconst 1, 1) := by decide +kernel
theorem dX6_findPairs_19 : decode cX6_findPairs 19 = .ok (.iadd, 1) := by decide +kernel
theorem dX6_findPairs_20 : decode cX6_findPairs 20 = .ok (.istore_n 2, 1) := by decide +kernel
theorem dX6_findPairs_21 : decode cX6_findPairs 21 = .ok (.iload_n 2, 1) := by decide +kernel
theorem dX6_findPairs_22 : decode cX6_findPairs 22 = .ok (.bipush 64, 2) := by decide +kernel
theorem dX6_findPairs_24 : decode cX6_findPairs 24 = .ok (.if_icmp .ge 62, 3) := by decide +kernel
theorem dX6_findPairs_27 : decode cX6_findPairs 27 = .ok (.aload_n 0, 1) := by decide +kernel
theorem dX6_findPairs_28 : decode cX6_findPairs 28 = .ok (.getfield 44, 3) := by decide +kernel
theorem dX6_findPairs_31 : decode cX6_findPairs 31 = .ok (.iload_n 1, 1) := by decide +kernel
theorem dX6_findPairs_32 : decode cX6_findPairs 32 = .ok (.iaload, 1) := by decide +kernel
theorem dX6_findPairs_33 : decode cX6_findPairs 33 = .ok (.iconst 1, 1) := by decide +kernel
theorem dX6_findPairs_34 : decode cX6_findPairs 34 = .ok (.if_icmp .ne 46, 3) := by decide +kernel
theorem dX6_findPairs_37 : decode cX6_findPairs 37 = .ok (.aload_n 0, 1) := by decide +kernel
theorem dX6_findPairs_38 : decode cX6_findPairs 38 = .ok (.getfield 44, 3) := by decide +kernel
theorem dX6_findPairs_41 : decode cX6_findPairs 41 = .ok (.iload_n 2, 1) := by decide +kernel
theorem dX6_findPairs_42 : decode cX6_findPairs 42 = .ok (.iaload, 1) := by decide +kernel
theorem dX6_findPairs_43 : decode cX6_findPairs 43 = .ok (.iconst 1, 1) := by decide +kernel
theorem dX6_findPairs_44 : decode cX6_findPairs 44 = .ok (.if_icmp .ne 36, 3) := by decide +kernel
theorem dX6_findPairs_47 : decode cX6_findPairs 47 = .ok (.aload_n 0, 1) := by decide +kernel
theorem dX6_findPairs_48 : decode cX6_findPairs 48 = .ok (.iload_n 1, 1) := by decide +kernel
theorem dX6_findPairs_49 : decode cX6_findPairs 49 = .ok (.iload_n 2, 1) := by decide +kernel
theorem dX6_findPairs_50 : decode cX6_findPairs 50 = .ok (.invokevirtual 141, 3) := by decide +kernel
theorem dX6_findPairs_53 : decode cX6_findPairs 53 = .ok (.ifCond .eq 27, 3) := by decide +kernel
theorem dX6_findPairs_56 : decode cX6_findPairs 56 = .ok (.aload_n 0, 1) := by decide +kernel
theorem dX6_findPairs_57 : decode cX6_findPairs 57 = .ok (.dup, 1) := by decide +kernel
theorem dX6_findPairs_58 : decode cX6_findPairs 58 = .ok (.getfield 138, 3) := by decide +kernel
theorem dX6_findPairs_61 : decode cX6_findPairs 61 = .ok (.iconst 1, 1) := by decide +kernel
theorem dX6_findPairs_62 : decode cX6_findPairs 62 = .ok (.iadd, 1) := by decide +kernel
theorem dX6_findPairs_63 : decode cX6_findPairs 63 = .ok (.putfield 138, 3) := by decide +kernel
theorem dX6_findPairs_66 : decode cX6_findPairs 66 = .ok (.aload_n 0, 1) := by decide +kernel
theorem dX6_findPairs_67 : decode cX6_findPairs 67 = .ok (.getfield 50, 3) := by decide +kernel
theorem dX6_findPairs_70 : decode cX6_findPairs 70 = .ok (.iload_n 1, 1) := by decide +kernel
theorem dX6_findPairs_71 : decode cX6_findPairs 71 = .ok (.iconst 1, 1) := by decide +kernel
theorem dX6_findPairs_72 : decode cX6_findPairs 72 = .ok (.iastore, 1) := by decide +kernel
theorem dX6_findPairs_73 : decode cX6_findPairs 73 = .ok (.aload_n 0, 1) := by decide +kernel
theorem dX6_findPairs_74 : decode cX6_findPairs 74 = .ok (.getfield 50, 3) := by decide +kernel
theorem dX6_findPairs_77 : decode cX6_findPairs 77 = .ok (.iload_n 2, 1) := by decide +kernel
theorem dX6_findPairs_78 : decode cX6_findPairs 78 = .ok (.iconst 1, 1) := by decide +kernel
theorem dX6_findPairs_79 : decode cX6_findPairs 79 = .ok (.iastore, 1) := by decide +kernel
theorem dX6_findPairs_80 : decode cX6_findPairs 80 = .ok (.iinc 2 1, 3) := by decide +kernel
theorem dX6_findPairs_83 : decode cX6_findPairs 83 = .ok (.goto (-62), 3) := by decide +kernel
theorem dX6_findPairs_86 : decode cX6_findPairs 86 = .ok (.iinc 1 1, 3) := by decide +kernel
theorem dX6_findPairs_89 : decode cX6_findPairs 89 = .ok (.goto (-78), 3) := by decide +kernel
theorem dX6_findPairs_92 : decode cX6_findPairs 92 = .ok (.return_, 1) := by decide +kernel
set_option maxRecDepth 20000 in
theorem ggX6_suspectsMany_X6_isSuspect : GoodIn wsX6_suspectsMany wsX6_isSuspect := goodIn_r _ [5, 6, 7, 4, 8, 9, 10, 11, 12, 13, 14, 15, 16, 17, 18, 19, 20, 21, 22, 23, 24, 25, 26, 27, 28, 29, 30, 31, 32, 33, 34, 35, 36, 37, 38, 39, 40, 41, 42, 43, 44, 45, 46, 47, 48, 49, 50, 51, 52, 53, 54] (by decide +kernel) (by decide +kernel)
set_option maxRecDepth 20000 in
theorem gX6_suspectsMany_X6_isSuspect : GoodIn wsX6_suspectsMany (wsV RX6 126 RX6 yX6_isSuspect wsX6_isSuspect) := goodIn_app (goodIn_of _ (by decide +kernel)) ggX6_suspectsMany_X6_isSuspect
theorem dX6_suspectsMany_0 : decode cX6_suspectsMany 0 = .ok (.iconst 0, 1) := by decide +kernel
theorem dX6_suspectsMany_1 : decode cX6_suspectsMany 1 = .ok (.istore_n 1, 1) := by decide +kernel
theorem dX6_suspectsMany_2 : decode cX6_suspectsMany 2 = .ok (.iconst 0, 1) := by decide +kernel
theorem dX6_suspectsMany_3 : decode cX6_suspectsMany 3 = .ok (.istore_n 2, 1) := by decide +kernel
theorem dX6_suspectsMany_4 : decode cX6_suspectsMany 4 = .ok (.iload_n 2, 1) := by decide +kernel
theorem dX6_suspectsMany_5 : decode cX6_suspectsMany 5 = .ok (.bipush 64, 2) := by decide +kernel
theorem dX6_suspectsMany_7 : decode cX6_suspectsMany 7 = .ok (.if_icmp .ge 25, 3) := by decide +kernel
theorem dX6_suspectsMany_10 : decode cX6_suspectsMany 10 = .ok (.iload_n 1, 1) := by decide +kernel
theorem dX6_suspectsMany_11 : decode cX6_suspectsMany 11 = .ok (.aload_n 0, 1) := by decide +kernel
theorem dX6_suspectsMany_12 : decode cX6_suspectsMany 12 = .ok (.iload_n 2, 1) := by decide +kernel
theorem dX6_suspectsMany_13 : decode cX6_suspectsMany 13 = .ok (.invokevirtual 126, 3) := by decide +kernel
theorem dX6_suspectsMany_16 : decode cX6_suspectsMany 16 = .ok (.ifCond .eq 7, 3) := by decide +kernel
theorem dX6_suspectsMany_19 : decode cX6_suspectsMany 19 = .ok (.iconst 1, 1) := by decide +kernel
theorem dX6_suspectsMany_20 : decode cX6_suspectsMany 20 = .ok (.goto 4, 3) := by decide +kernel
theorem dX6_suspectsMany_23 : decode cX6_suspectsMany 23 = .ok (.iconst 0, 1) := by decide +kernel
theorem dX6_suspectsMany_24 : decode cX6_suspectsMany 24 = .ok (.iadd, 1) := by decide +kernel
theorem dX6_suspectsMany_25 : decode cX6_suspectsMany 25 = .ok (.istore_n 1, 1) := by decide +kernel
theorem dX6_suspectsMany_26 : decode cX6_suspectsMany 26 = .ok (.iinc 2 1, 3) := by decide +kernel
theorem dX6_suspectsMany_29 : decode cX6_suspectsMany 29 = .ok (.goto (-25), 3) := by decide +kernel
theorem dX6_suspectsMany_32 : decode cX6_suspectsMany 32 = .ok (.iload_n 1, 1) := by decide +kernel
theorem dX6_suspectsMany_33 : decode cX6_suspectsMany 33 = .ok (.ireturn, 1) := by decide +kernel
set_option maxRecDepth 20000 in
theorem ggX6_singlesMany_X6_findSuspects : GoodIn wsX6_singlesMany wsX6_findSuspects := goodIn_r _ [6, 7, 1, 8, 9, 10, 11, 5, 12, 13, 14, 15, 16, 17, 18, 19, 20, 21, 22, 23, 24, 25, 26, 27, 28, 29, 30, 31, 32, 33, 34, 35, 36, 37, 38, 39, 40, 41, 42, 43, 44, 45, 46, 47, 48, 49, 50, 51, 52, 53, 54, 55, 56, 57, 58, 59, 60, 61, 62, 63, 64, 65, 66, 67, 68, 69, 70, 71, 72, 73, 74, 75, 76, 77, 78, 79, 80, 81, 82, 83, 84, 85, 86, 87, 88, 89, 90, 91, 92, 93, 94, 95, 96, 97, 98, 99, 100, 101, 102, 103, 104, 105, 106, 107, 108, 109, 110, 111, 112] (by decide +kernel) (by decide +kernel)
set_option maxRecDepth 20000 in
theorem gX6_singlesMany_X6_findSuspects : GoodIn wsX6_singlesMany (wsV RX6 135 RX6 yX6_findSuspects wsX6_findSuspects) := goodIn_app (goodIn_of _ (by decide +kernel)) ggX6_singlesMany_X6_findSuspects
theorem dX6_singlesMany_0 : decode cX6_singlesMany 0 = .ok (.aload_n 0, 1) := by decide +kernel
theorem dX6_singlesMany_1 : decode cX6_singlesMany 1 = .ok (.invokevirtual 135, 3) := by decide +kernel
theorem dX6_singlesMany_4 : decode cX6_singlesMany 4 = .ok (.iconst 0, 1) := by decide +kernel
theorem dX6_singlesMany_5 : decode cX6_singlesMany 5 = .ok (.istore_n 1, 1) := by decide +kernel
theorem dX6_singlesMany_6 : decode cX6_singlesMany 6 = .ok (.iconst 0, 1) := by decide +kernel
theorem dX6_singlesMany_7 : decode cX6_singlesMany 7 = .ok (.istore_n 2, 1) := by decide +kernel
theorem dX6_singlesMany_8 : decode cX6_singlesMany 8 = .ok (.iload_n 2, 1) := by decide +kernel
theorem dX6_singlesMany_9 : decode cX6_singlesMany 9 = .ok (.bipush 64, 2) := by decide +kernel
theorem dX6_singlesMany_11 : decode cX6_singlesMany 11 = .ok (.if_icmp .ge 18, 3) := by decide +kernel
theorem dX6_singlesMany_14 : decode cX6_singlesMany 14 = .ok (.iload_n 1, 1) := by decide +kernel
theorem dX6_singlesMany_15 : decode cX6_singlesMany 15 = .ok (.aload_n 0, 1) := by decide +kernel
theorem dX6_singlesMany_16 : decode cX6_singlesMany 16 = .ok (.getfield 47, 3) := by decide +kernel
theorem dX6_singlesMany_19 : decode cX6_singlesMany 19 = .ok (.iload_n 2, 1) := by decide +kernel
theorem dX6_singlesMany_20 : decode cX6_singlesMany 20 = .ok (.iaload, 1) := by decide +kernel
theorem dX6_singlesMany_21 : decode cX6_singlesMany 21 = .ok (.iadd, 1) := by decide +kernel
theorem dX6_singlesMany_22 : decode cX6_singlesMany 22 = .ok (.istore_n 1, 1) := by decide +kernel
theorem dX6_singlesMany_23 : decode cX6_singlesMany 23 = .ok (.iinc 2 1, 3) := by decide +kernel
theorem dX6_singlesMany_26 : decode cX6_singlesMany 26 = .ok (.goto (-18), 3) := by decide +kernel
theorem dX6_singlesMany_29 : decode cX6_singlesMany 29 = .ok (.iload_n 1, 1) := by decide +kernel
theorem dX6_singlesMany_30 : decode cX6_singlesMany 30 = .ok (.ireturn, 1) := by decide +kernel
set_option maxRecDepth 20000 in
theorem ggX6_pairsMany_X6_findPairs : GoodIn wsX6_pairsMany wsX6_findPairs := goodIn_r _ [6, 1, 7, 8, 9, 10, 11, 5, 12, 13, 14, 15, 16, 17, 18, 19, 20, 21, 22, 23, 24, 25, 26, 27, 28, 29, 30, 31, 32, 33, 34, 35, 36, 37, 38, 39, 40, 41, 42, 43, 44, 45, 46, 47, 48, 49, 50, 51, 52, 53, 54, 55, 56, 57, 58, 59, 60, 61, 62, 63, 64, 65, 66, 67, 68, 69, 70, 71, 72, 73, 74, 75, 76, 77, 78, 79, 80, 81, 82, 83, 84, 85, 86, 87, 88, 89, 90, 91, 92, 93, 94, 95, 96, 97, 98, 99, 100, 101, 102, 103, 104, 105, 106, 107, 108, 109, 110, 111, 112, 113, 114, 115, 116, 117, 118, 119, 120, 121] (by decide +kernel) (by decide +kernel)
set_option maxRecDepth 20000 in
theorem gX6_pairsMany_X6_findPairs : GoodIn wsX6_pairsMany (wsV RX6 144 RX6 yX6_findPairs wsX6_findPairs) := goodIn_app (goodIn_of _ (by decide +kernel)) ggX6_pairsMany_X6_findPairs
theorem dX6_pairsMany_0 : decode cX6_pairsMany 0 = .ok (.aload_n 0, 1) := by decide +kernel
theorem dX6_pairsMany_1 : decode cX6_pairsMany 1 = .ok (.invokevirtual 144, 3) := by decide +kernel
theorem dX6_pairsMany_4 : decode cX6_pairsMany 4 = .ok (.aload_n 0, 1) := by decide +kernel
theorem dX6_pairsMany_5 : decode cX6_pairsMany 5 = .ok (.getfield 138, 3) := by decide +kernel
theorem dX6_pairsMany_8 : decode cX6_pairsMany 8 = .ok (.ireturn, 1) := by decide +kernel
theorem dX6_most_0 : decode cX6_most 0 = .ok (.iload_n 0, 1) := by decide +kernel
theorem dX6_most_1 : decode cX6_most 1 = .ok (.ifCond .ne 8, 3) := by decide +kernel
theorem dX6_most_4 : decode cX6_most 4 = .ok (.bipush 24, 2) := by decide +kernel
theorem dX6_most_6 : decode cX6_most 6 = .ok (.goto 15, 3) := by decide +kernel
theorem dX6_most_9 : decode cX6_most 9 = .ok (.iload_n 0, 1) := by decide +kernel
theorem dX6_most_10 : decode cX6_most 10 = .ok (.iconst 1, 1) := by decide +kernel
theorem dX6_most_11 : decode cX6_most 11 = .ok (.if_icmp .ne 8, 3) := by decide +kernel
theorem dX6_most_14 : decode cX6_most 14 = .ok (.bipush 50, 2) := by decide +kernel
theorem dX6_most_16 : decode cX6_most 16 = .ok (.goto 5, 3) := by decide +kernel
theorem dX6_most_19 : decode cX6_most 19 = .ok (.bipush 99, 2) := by decide +kernel
theorem dX6_most_21 : decode cX6_most 21 = .ok (.ireturn, 1) := by decide +kernel
set_option maxRecDepth 20000 in
theorem ggX6_set_X6_within : GoodIn wsX6_set wsX6_within := goodIn_r _ [5] (by decide +kernel) (by decide +kernel)
set_option maxRecDepth 20000 in
theorem gX6_set_X6_within : GoodIn wsX6_set (va_wsS RX6 68 yX6_within wsX6_within) := goodIn_app (goodIn_of _ (by decide +kernel)) ggX6_set_X6_within
set_option maxRecDepth 20000 in
theorem ggX6_set_X6_most : GoodIn wsX6_set wsX6_most := goodIn_r _ [8] (by decide +kernel) (by decide +kernel)
set_option maxRecDepth 20000 in
theorem gX6_set_X6_most : GoodIn wsX6_set (va_wsS RX6 147 yX6_most wsX6_most) := goodIn_app (goodIn_of _ (by decide +kernel)) ggX6_set_X6_most
set_option maxRecDepth 20000 in
theorem ggX6_set_X6_record : GoodIn wsX6_set wsX6_record := goodIn_r _ [12, 13, 14, 15, 1, 16, 17, 18, 4, 19, 20, 21, 22, 32, 33, 34, 35, 36, 37, 38, 39, 40, 41, 42, 43, 44, 45, 46, 47, 48, 49, 50, 51, 52, 53, 54, 55, 56] (by decide +kernel) (by decide +kernel)
set_option maxRecDepth 20000 in
theorem gX6_set_X6_record : GoodIn wsX6_set (wsV RX6 150 RX6 yX6_record wsX6_record) := goodIn_app (goodIn_of _ (by decide +kernel)) ggX6_set_X6_record
set_option maxRecDepth 20000 in
theorem ggX6_set_X6_beginsRun : GoodIn wsX6_set wsX6_beginsRun := goodIn_r _ [26, 1, 27, 16, 28, 29, 30, 4, 31, 20, 21, 22, 32, 33, 34, 35, 36, 37, 38, 39, 40, 41, 42, 43, 44, 45, 46, 47, 48, 49, 50, 51, 52, 53, 54, 55, 56] (by decide +kernel) (by decide +kernel)
set_option maxRecDepth 20000 in
theorem gX6_set_X6_beginsRun : GoodIn wsX6_set (wsV RX6 153 RX6 yX6_beginsRun wsX6_beginsRun) := goodIn_app (goodIn_of _ (by decide +kernel)) ggX6_set_X6_beginsRun
theorem dX6_set_0 : decode cX6_set 0 = .ok (.iload_n 1, 1) := by decide +kernel
theorem dX6_set_1 : decode cX6_set 1 = .ok (.iconst 0, 1) := by decide +kernel
theorem dX6_set_2 : decode cX6_set 2 = .ok (.iconst 3, 1) := by decide +kernel
theorem dX6_set_3 : decode cX6_set 3 = .ok (.invokestatic 68, 3) := by decide +kernel
theorem dX6_set_6 : decode cX6_set 6 = .ok (.ifCond .eq 24, 3) := by decide +kernel
theorem dX6_set_9 : decode cX6_set 9 = .ok (.iload_n 2, 1) := by decide +kernel
theorem dX6_set_10 : decode cX6_set 10 = .ok (.iload_n 1, 1) := by decide +kernel
theorem dX6_set_11 : decode cX6_set 11 = .ok (.iconst 2, 1) := by decide +kernel
theorem dX6_set_12 : decode cX6_set 12 = .ok (.if_icmp .ne 7, 3) := by decide +kernel
theorem dX6_set_15 : decode cX6_set 15 = .ok (.iconst 1, 1) := by decide +kernel
theorem dX6_set_16 : decode cX6_set 16 = .ok (.goto 4, 3) := by decide +kernel
theorem dX6_set_19 : decode cX6_set 19 = .ok (.iconst 0, 1) := by decide +kernel
theorem dX6_set_20 : decode cX6_set 20 = .ok (.iload_n 1, 1) := by decide +kernel
theorem dX6_set_21 : decode cX6_set 21 = .ok (.invokestatic 147, 3) := by decide +kernel
theorem dX6_set_24 : decode cX6_set 24 = .ok (.invokestatic 68, 3) := by decide +kernel
theorem dX6_set_27 : decode cX6_set 27 = .ok (.ifCond .ne 6, 3) := by decide +kernel
theorem dX6_set_30 : decode cX6_set 30 = .ok (.bipush (-2), 2) := by decide +kernel
theorem dX6_set_32 : decode cX6_set 32 = .ok (.ireturn, 1) := by decide +kernel
theorem dX6_set_33 : decode cX6_set 33 = .ok (.aload_n 0, 1) := by decide +kernel
theorem dX6_set_34 : decode cX6_set 34 = .ok (.invokevirtual 150, 3) := by decide +kernel
theorem dX6_set_37 : decode cX6_set 37 = .ok (.aload_n 0, 1) := by decide +kernel
theorem dX6_set_38 : decode cX6_set 38 = .ok (.getfield 7, 3) := by decide +kernel
theorem dX6_set_41 : decode cX6_set 41 = .ok (.iload_n 1, 1) := by decide +kernel
theorem dX6_set_42 : decode cX6_set 42 = .ok (.iaload, 1) := by decide +kernel
theorem dX6_set_43 : decode cX6_set 43 = .ok (.istore_n 3, 1) := by decide +kernel
theorem dX6_set_44 : decode cX6_set 44 = .ok (.aload_n 0, 1) := by decide +kernel
theorem dX6_set_45 : decode cX6_set 45 = .ok (.getfield 7, 3) := by decide +kernel
theorem dX6_set_48 : decode cX6_set 48 = .ok (.iload_n 1, 1) := by decide +kernel
theorem dX6_set_49 : decode cX6_set 49 = .ok (.iload_n 2, 1) := by decide +kernel
theorem dX6_set_50 : decode cX6_set 50 = .ok (.iastore, 1) := by decide +kernel
theorem dX6_set_51 : decode cX6_set 51 = .ok (.iload_n 1, 1) := by decide +kernel
theorem dX6_set_52 : decode cX6_set 52 = .ok (.iconst 3, 1) := by decide +kernel
theorem dX6_set_53 : decode cX6_set 53 = .ok (.if_icmp .eq 7, 3) := by decide +kernel
theorem dX6_set_56 : decode cX6_set 56 = .ok (.aload_n 0, 1) := by decide +kernel
theorem dX6_set_57 : decode cX6_set 57 = .ok (.invokevirtual 153, 3) := by decide +kernel
theorem dX6_set_60 : decode cX6_set 60 = .ok (.iload_n 3, 1) := by decide +kernel
theorem dX6_set_61 : decode cX6_set 61 = .ok (.ireturn, 1) := by decide +kernel
set_option maxRecDepth 20000 in
theorem ggX6_whyNotTracked_X6_isPlace : GoodIn wsX6_whyNotTracked wsX6_isPlace := goodIn_r _ [4, 5, 6, 3, 7, 8, 9, 10] (by decide +kernel) (by decide +kernel)
set_option maxRecDepth 20000 in
theorem gX6_whyNotTracked_X6_isPlace : GoodIn wsX6_whyNotTracked (va_wsS RX6 76 yX6_isPlace wsX6_isPlace) := goodIn_app (goodIn_of _ (by decide +kernel)) ggX6_whyNotTracked_X6_isPlace
set_option maxRecDepth 20000 in
theorem ggX6_whyNotTracked_X6_within : GoodIn wsX6_whyNotTracked wsX6_within := goodIn_r _ [10] (by decide +kernel) (by decide +kernel)
set_option maxRecDepth 20000 in
theorem gX6_whyNotTracked_X6_within : GoodIn wsX6_whyNotTracked (va_wsS RX6 68 yX6_within wsX6_within) := goodIn_app (goodIn_of _ (by decide +kernel)) ggX6_whyNotTracked_X6_within
set_option maxRecDepth 20000 in
theorem ggX6_whyNotTracked_X6_placeOf : GoodIn wsX6_whyNotTracked wsX6_placeOf := goodIn_r _ [13] (by decide +kernel) (by decide +kernel)
set_option maxRecDepth 20000 in
theorem gX6_whyNotTracked_X6_placeOf : GoodIn wsX6_whyNotTracked (va_wsS RX6 80 yX6_placeOf wsX6_placeOf) := goodIn_app (goodIn_of _ (by decide +kernel)) ggX6_whyNotTracked_X6_placeOf
set_option maxRecDepth 20000 in
theorem ggX6_whyNotTracked_X6_touchAt : GoodIn wsX6_whyNotTracked wsX6_touchAt := goodIn_r _ [17, 18, 19, 20, 21, 3, 22, 30, 31, 32, 33, 34, 35, 36, 37, 38, 39, 40, 41, 42, 43, 44, 45, 46, 47, 48, 49, 50, 51, 52, 53, 54] (by decide +kernel) (by decide +kernel)
set_option maxRecDepth 20000 in
theorem gX6_whyNotTracked_X6_touchAt : GoodIn wsX6_whyNotTracked (wsV RX6 97 RX6 yX6_touchAt wsX6_touchAt) := goodIn_app (goodIn_of _ (by decide +kernel)) ggX6_whyNotTracked_X6_touchAt
set_option maxRecDepth 20000 in
theorem ggX6_whyNotTracked_X6_neighbour : GoodIn wsX6_whyNotTracked wsX6_neighbour := goodIn_r _ [25, 1, 2, 3, 4, 5, 6, 7, 8, 9, 10, 11, 12, 13] (by decide +kernel) (by decide +kernel)
set_option maxRecDepth 20000 in
theorem gX6_whyNotTracked_X6_neighbour : GoodIn wsX6_whyNotTracked (va_wsS RX6 94 yX6_neighbour wsX6_neighbour) := goodIn_app (goodIn_of _ (by decide +kernel)) ggX6_whyNotTracked_X6_neighbour
set_option maxRecDepth 20000 in
theorem ggX6_whyNotTracked_X6_touchPart : GoodIn wsX6_whyNotTracked wsX6_touchPart := goodIn_r _ [22, 18, 30, 31, 32, 33, 34, 35, 36, 37, 38, 39, 40, 41, 42, 43, 44, 45, 46, 47, 48, 49, 50, 51, 52, 53, 54] (by decide +kernel) (by decide +kernel)
set_option maxRecDepth 20000 in
theorem gX6_whyNotTracked_X6_touchPart : GoodIn wsX6_whyNotTracked (wsV RX6 84 RX6 yX6_touchPart wsX6_touchPart) := goodIn_app (goodIn_of _ (by decide +kernel)) ggX6_whyNotTracked_X6_touchPart
set_option maxRecDepth 20000 in
theorem ggX6_whyNotTracked_X6_netAt : GoodIn wsX6_whyNotTracked wsX6_netAt := goodIn_r _ [29, 18, 30, 31, 32, 33, 34, 35, 36, 37, 38, 39, 40, 41, 42, 43, 44, 45, 46, 47, 48, 49, 50, 51, 52, 53, 54] (by decide +kernel) (by decide +kernel)
set_option maxRecDepth 20000 in
theorem gX6_whyNotTracked_X6_netAt : GoodIn wsX6_whyNotTracked (wsV RX6 87 RX6 yX6_netAt wsX6_netAt) := goodIn_app (goodIn_of _ (by decide +kernel)) ggX6_whyNotTracked_X6_netAt
theorem dX6_whyNotTracked_0 : decode cX6_whyNotTracked 0 = .ok (.iload_n 1, 1) := by decide +kernel
theorem dX6_whyNotTracked_1 : decode cX6_whyNotTracked 1 = .ok (.iload_n 2, 1) := by decide +kernel
theorem dX6_whyNotTracked_2 : decode cX6_whyNotTracked 2 = .ok (.invokestatic 76, 3) := by decide +kernel
theorem dX6_whyNotTracked_5 : decode cX6_whyNotTracked 5 = .ok (.ifCond .ne 5, 3) := by decide +kernel
theorem dX6_whyNotTracked_8 : decode cX6_whyNotTracked 8 = .ok (.iconst (-1), 1) := by decide +kernel
theorem dX6_whyNotTracked_9 : decode cX6_whyNotTracked 9 = .ok (.ireturn, 1) := by decide +kernel
theorem dX6_whyNotTracked_10 : decode cX6_whyNotTracked 10 = .ok (.iload_n 3, 1) := by decide +kernel
theorem dX6_whyNotTracked_11 : decode cX6_whyNotTracked 11 = .ok (.iconst 0, 1) := by decide +kernel
theorem dX6_whyNotTracked_12 : decode cX6_whyNotTracked 12 = .ok (.bipush 7, 2) := by decide +kernel
theorem dX6_whyNotTracked_14 : decode cX6_whyNotTracked 14 = .ok (.invokestatic 68, 3) := by decide +kernel
theorem dX6_whyNotTracked_17 : decode cX6_whyNotTracked 17 = .ok (.ifCond .ne 6, 3) := by decide +kernel
theorem dX6_whyNotTracked_20 : decode cX6_whyNotTracked 20 = .ok (.bipush (-2), 2) := by decide +kernel
theorem dX6_whyNotTracked_22 : decode cX6_whyNotTracked 22 = .ok (.ireturn, 1) := by decide +kernel
theorem dX6_whyNotTracked_23 : decode cX6_whyNotTracked 23 = .ok (.iload_n 1, 1) := by decide +kernel
theorem dX6_whyNotTracked_24 : decode cX6_whyNotTracked 24 = .ok (.iload_n 2, 1) := by decide +kernel
theorem dX6_whyNotTracked_25 : decode cX6_whyNotTracked 25 = .ok (.invokestatic 80, 3) := by decide +kernel
theorem dX6_whyNotTracked_28 : decode cX6_whyNotTracked 28 = .ok (.istore 4, 2) := by decide +kernel
theorem dX6_whyNotTracked_30 : decode cX6_whyNotTracked 30 = .ok (.aload_n 0, 1) := by decide +kernel
theorem dX6_whyNotTracked_31 : decode cX6_whyNotTracked 31 = .ok (.iload 4, 2) := by decide +kernel
theorem dX6_whyNotTracked_33 : decode cX6_whyNotTracked 33 = .ok (.invokevirtual 97, 3) := by decide +kernel
theorem dX6_whyNotTracked_36 : decode cX6_whyNotTracked 36 = .ok (.bipush (-6), 2) := by decide +kernel
theorem dX6_whyNotTracked_38 : decode cX6_whyNotTracked 38 = .ok (.if_icmp .eq 7, 3) := by decide +kernel
theorem dX6_whyNotTracked_41 : decode cX6_whyNotTracked 41 = .ok (.iconst 1, 1) := by decide +kernel
theorem dX6_whyNotTracked_42 : decode cX6_whyNotTracked 42 = .ok (.goto 4, 3) := by decide +kernel
theorem dX6_whyNotTracked_45 : decode cX6_whyNotTracked 45 = .ok (.iconst 0, 1) := by decide +kernel
theorem dX6_whyNotTracked_46 : decode cX6_whyNotTracked 46 = .ok (.istore 5, 2) := by decide +kernel
theorem dX6_whyNotTracked_48 : decode cX6_whyNotTracked 48 = .ok (.iconst 0, 1) := by decide +kernel
theorem dX6_whyNotTracked_49 : decode cX6_whyNotTracked 49 = .ok (.istore 6, 2) := by decide +kernel
theorem dX6_whyNotTracked_51 : decode cX6_whyNotTracked 51 = .ok (.iload 6, 2) := by decide +kernel
theorem dX6_whyNotTracked_53 : decode cX6_whyNotTracked 53 = .ok (.iconst 4, 1) := by decide +kernel
theorem dX6_whyNotTracked_54 : decode cX6_whyNotTracked 54 = .ok (.if_icmp .ge 73, 3) := by decide +kernel
theorem dX6_whyNotTracked_57 : decode cX6_whyNotTracked 57 = .ok (.iload 4, 2) := by decide +kernel
theorem dX6_whyNotTracked_59 : decode cX6_whyNotTracked 59 = .ok (.iload 6, 2) := by decide +kernel
theorem dX6_whyNotTracked_61 : decode cX6_whyNotTracked 61 = .ok (.invokestatic 94, 3) := by decide +kernel
theorem dX6_whyNotTracked_64 : decode cX6_whyNotTracked 64 = .ok (.istore 7, 2) := by decide +kernel
theorem dX6_whyNotTracked_66 : decode cX6_whyNotTracked 66 = .ok (.iload 7, 2) := by decide +kernel
theorem dX6_whyNotTracked_68 : decode cX6_whyNotTracked 68 = .ok (.bipush (-6), 2) := by decide +kernel
theorem dX6_whyNotTracked_70 : decode cX6_whyNotTracked 70 = .ok (.if_icmp .ne 8, 3) := by decide +kernel
theorem dX6_whyNotTracked_73 : decode cX6_whyNotTracked 73 = .ok (.bipush (-6), 2) := by decide +kernel
theorem dX6_whyNotTracked_75 : decode cX6_whyNotTracked 75 = .ok (.goto 9, 3) := by decide +kernel
theorem dX6_whyNotTracked_78 : decode cX6_whyNotTracked 78 = .ok (.aload_n 0, 1) := by decide +kernel
theorem dX6_whyNotTracked_79 : decode cX6_whyNotTracked 79 = .ok (.iload 7, 2) := by decide +kernel
theorem dX6_whyNotTracked_81 : decode cX6_whyNotTracked 81 = .ok (.invokevirtual 97, 3) := by decide +kernel
theorem dX6_whyNotTracked_84 : decode cX6_whyNotTracked 84 = .ok (.istore 8, 2) := by decide +kernel
theorem dX6_whyNotTracked_86 : decode cX6_whyNotTracked 86 = .ok (.iload 5, 2) := by decide +kernel
theorem dX6_whyNotTracked_88 : decode cX6_whyNotTracked 88 = .ok (.ifCond .ne 26, 3) := by decide +kernel
theorem dX6_whyNotTracked_91 : decode cX6_whyNotTracked 91 = .ok (.iload 8, 2) := by decide +kernel
theorem dX6_whyNotTracked_93 : decode cX6_whyNotTracked 93 = .ok (.bipush (-6), 2) := by decide +kernel
theorem dX6_whyNotTracked_95 : decode cX6_whyNotTracked 95 = .ok (.if_icmp .eq 23, 3) := by decide +kernel
theorem dX6_whyNotTracked_98 : decode cX6_whyNotTracked 98 = .ok (.aload_n 0, 1) := by decide +kernel
theorem dX6_whyNotTracked_99 : decode cX6_whyNotTracked 99 = .ok (.iload 8, 2) := by decide +kernel
theorem dX6_whyNotTracked_101 : decode cX6_whyNotTracked 101 = .ok (.iconst 1, 1) := by decide +kernel
theorem dX6_whyNotTracked_102 : decode cX6_whyNotTracked 102 = .ok (.invokevirtual 84, 3) := by decide +kernel
theorem dX6_whyNotTracked_105 : decode cX6_whyNotTracked 105 = .ok (.aload_n 0, 1) := by decide +kernel
theorem dX6_whyNotTracked_106 : decode cX6_whyNotTracked 106 = .ok (.iload 4, 2) := by decide +kernel
theorem dX6_whyNotTracked_108 : decode cX6_whyNotTracked 108 = .ok (.invokevirtual 87, 3) := by decide +kernel
theorem dX6_whyNotTracked_111 : decode cX6_whyNotTracked 111 = .ok (.if_icmp .ne 7, 3) := by decide +kernel
theorem dX6_whyNotTracked_114 : decode cX6_whyNotTracked 114 = .ok (.iconst 1, 1) := by decide +kernel
theorem dX6_whyNotTracked_115 : decode cX6_whyNotTracked 115 = .ok (.goto 4, 3) := by decide +kernel
theorem dX6_whyNotTracked_118 : decode cX6_whyNotTracked 118 = .ok (.iconst 0, 1) := by decide +kernel
theorem dX6_whyNotTracked_119 : decode cX6_whyNotTracked 119 = .ok (.istore 5, 2) := by decide +kernel
theorem dX6_whyNotTracked_121 : decode cX6_whyNotTracked 121 = .ok (.iinc 6 1, 3) := by decide +kernel
theorem dX6_whyNotTracked_124 : decode cX6_whyNotTracked 124 = .ok (.goto (-73), 3) := by decide +kernel
theorem dX6_whyNotTracked_127 : decode cX6_whyNotTracked 127 = .ok (.iload 5, 2) := by decide +kernel
theorem dX6_whyNotTracked_129 : decode cX6_whyNotTracked 129 = .ok (.ifCond .eq 8, 3) := by decide +kernel
theorem dX6_whyNotTracked_132 : decode cX6_whyNotTracked 132 = .ok (.bipush (-5), 2) := by decide +kernel
theorem dX6_whyNotTracked_134 : decode cX6_whyNotTracked 134 = .ok (.goto 4, 3) := by decide +kernel
theorem dX6_whyNotTracked_137 : decode cX6_whyNotTracked 137 = .ok (.iconst 0, 1) := by decide +kernel
theorem dX6_whyNotTracked_138 : decode cX6_whyNotTracked 138 = .ok (.ireturn, 1) := by decide +kernel
set_option maxRecDepth 20000 in
theorem ggX6_tracks_X6_placeOf : GoodIn wsX6_tracks wsX6_placeOf := goodIn_r _ [5] (by decide +kernel) (by decide +kernel)
set_option maxRecDepth 20000 in
theorem gX6_tracks_X6_placeOf : GoodIn wsX6_tracks (va_wsS RX6 80 yX6_placeOf wsX6_placeOf) := goodIn_app (goodIn_of _ (by decide +kernel)) ggX6_tracks_X6_placeOf
set_option maxRecDepth 20000 in
theorem ggX6_tracks_X6_netAt : GoodIn wsX6_tracks wsX6_netAt := goodIn_r _ [9, 1, 23, 24, 25, 26, 27, 28, 29, 30, 31, 32, 33, 34, 35, 36, 37, 38, 39, 40, 41, 42, 43, 44, 45, 46, 47] (by decide +kernel) (by decide +kernel)
set_option maxRecDepth 20000 in
theorem gX6_tracks_X6_netAt : GoodIn wsX6_tracks (wsV RX6 87 RX6 yX6_netAt wsX6_netAt) := goodIn_app (goodIn_of _ (by decide +kernel)) ggX6_tracks_X6_netAt
set_option maxRecDepth 20000 in
theorem ggX6_tracks_X6_beginsRun : GoodIn wsX6_tracks wsX6_beginsRun := goodIn_r _ [13, 1, 14, 15, 16, 17, 18, 4, 19, 20, 21, 22, 23, 24, 25, 26, 27, 28, 29, 30, 31, 32, 33, 34, 35, 36, 37, 38, 39, 40, 41, 42, 43, 44, 45, 46, 47] (by decide +kernel) (by decide +kernel)
set_option maxRecDepth 20000 in
theorem gX6_tracks_X6_beginsRun : GoodIn wsX6_tracks (wsV RX6 153 RX6 yX6_beginsRun wsX6_beginsRun) := goodIn_app (goodIn_of _ (by decide +kernel)) ggX6_tracks_X6_beginsRun
theorem dX6_tracks_0 : decode cX6_tracks 0 = .ok (.iload_n 1, 1) := by decide +kernel
theorem dX6_tracks_1 : decode cX6_tracks 1 = .ok (.iload_n 2, 1) := by decide +kernel
theorem dX6_tracks_2 : decode cX6_tracks 2 = .ok (.invokestatic 80, 3) := by decide +kernel
theorem dX6_tracks_5 : decode cX6_tracks 5 = .ok (.istore 4, 2) := by decide +kernel
theorem dX6_tracks_7 : decode cX6_tracks 7 = .ok (.aload_n 0, 1) := by decide +kernel
theorem dX6_tracks_8 : decode cX6_tracks 8 = .ok (.iload 4, 2) := by decide +kernel
theorem dX6_tracks_10 : decode cX6_tracks 10 = .ok (.invokevirtual 87, 3) := by decide +kernel
theorem dX6_tracks_13 : decode cX6_tracks 13 = .ok (.istore 5, 2) := by decide +kernel
theorem dX6_tracks_15 : decode cX6_tracks 15 = .ok (.aload_n 0, 1) := by decide +kernel
theorem dX6_tracks_16 : decode cX6_tracks 16 = .ok (.getfield 7, 3) := by decide +kernel
theorem dX6_tracks_19 : decode cX6_tracks 19 = .ok (.bipush 7, 2) := by decide +kernel
theorem dX6_tracks_21 : decode cX6_tracks 21 = .ok (.iload 4, 2) := by decide +kernel
theorem dX6_tracks_23 : decode cX6_tracks 23 = .ok (.iadd, 1) := by decide +kernel
theorem dX6_tracks_24 : decode cX6_tracks 24 = .ok (.iload_n 3, 1) := by decide +kernel
theorem dX6_tracks_25 : decode cX6_tracks 25 = .ok (.iastore, 1) := by decide +kernel
theorem dX6_tracks_26 : decode cX6_tracks 26 = .ok (.aload_n 0, 1) := by decide +kernel
theorem dX6_tracks_27 : decode cX6_tracks 27 = .ok (.invokevirtual 153, 3) := by decide +kernel
theorem dX6_tracks_30 : decode cX6_tracks 30 = .ok (.iload 5, 2) := by decide +kernel
theorem dX6_tracks_32 : decode cX6_tracks 32 = .ok (.ireturn, 1) := by decide +kernel
set_option maxRecDepth 20000 in
theorem ggX6_track_X6_whyNotTracked : GoodIn wsX6_track wsX6_whyNotTracked := goodIn_r _ [5, 6, 7, 4, 8, 9, 10, 11, 12, 13, 14, 15, 16, 17, 18, 19, 20, 21, 22, 23, 24, 25, 26, 27, 28, 29, 30, 31, 32, 33, 61, 62, 63, 64, 65, 66, 67, 68, 69, 70, 71, 72, 73, 74, 75, 76, 77, 78, 79, 80, 81, 82, 83, 84, 85] (by decide +kernel) (by decide +kernel)
set_option maxRecDepth 20000 in
theorem gX6_track_X6_whyNotTracked : GoodIn wsX6_track (wsV RX6 156 RX6 yX6_whyNotTracked wsX6_whyNotTracked) := goodIn_app (goodIn_of _ (by decide +kernel)) ggX6_track_X6_whyNotTracked
set_option maxRecDepth 20000 in
theorem ggX6_track_X6_record : GoodIn wsX6_track wsX6_record := goodIn_r _ [37, 38, 39, 40, 22, 41, 42, 43, 4, 44, 45, 46, 47, 61, 62, 63, 64, 65, 66, 67, 68, 69, 70, 71, 72, 73, 74, 75, 76, 77, 78, 79, 80, 81, 82, 83, 84, 85] (by decide +kernel) (by decide +kernel)
set_option maxRecDepth 20000 in
theorem gX6_track_X6_record : GoodIn wsX6_track (wsV RX6 150 RX6 yX6_record wsX6_record) := goodIn_app (goodIn_of _ (by decide +kernel)) ggX6_track_X6_record
set_option maxRecDepth 20000 in
theorem ggX6_track_X6_tracks : GoodIn wsX6_track wsX6_tracks := goodIn_r _ [51, 22, 15, 16, 4, 17, 30, 31, 32, 33, 52, 53, 54, 55, 56, 41, 57, 58, 59, 60, 45, 46, 47, 61, 62, 63, 64, 65, 66, 67, 68, 69, 70, 71, 72, 73, 74, 75, 76, 77, 78, 79, 80, 81, 82, 83, 84, 85] (by decide +kernel) (by decide +kernel)
set_option maxRecDepth 20000 in
theorem gX6_track_X6_tracks : GoodIn wsX6_track (wsV RX6 160 RX6 yX6_tracks wsX6_tracks) := goodIn_app (goodIn_of _ (by decide +kernel)) ggX6_track_X6_tracks
theorem dX6_track_0 : decode cX6_track 0 = .ok (.aload_n 0, 1) := by decide +kernel
theorem dX6_track_1 : decode cX6_track 1 = .ok (.iload_n 1, 1) := by decide +kernel
theorem dX6_track_2 : decode cX6_track 2 = .ok (.iload_n 2, 1) := by decide +kernel
theorem dX6_track_3 : decode cX6_track 3 = .ok (.iload_n 3, 1) := by decide +kernel
theorem dX6_track_4 : decode cX6_track 4 = .ok (.invokevirtual 156, 3) := by decide +kernel
theorem dX6_track_7 : decode cX6_track 7 = .ok (.istore 4, 2) := by decide +kernel
theorem dX6_track_9 : decode cX6_track 9 = .ok (.iload 4, 2) := by decide +kernel
theorem dX6_track_11 : decode cX6_track 11 = .ok (.ifCond .ge 6, 3) := by decide +kernel
theorem dX6_track_14 : decode cX6_track 14 = .ok (.iload 4, 2) := by decide +kernel
theorem dX6_track_16 : decode cX6_track 16 = .ok (.ireturn, 1) := by decide +kernel
theorem dX6_track_17 : decode cX6_track 17 = .ok (.aload_n 0, 1) := by decide +kernel
theorem dX6_track_18 : decode cX6_track 18 = .ok (.invokevirtual 150, 3) := by decide +kernel
theorem dX6_track_21 : decode cX6_track 21 = .ok (.aload_n 0, 1) := by decide +kernel
theorem dX6_track_22 : decode cX6_track 22 = .ok (.iload_n 1, 1) := by decide +kernel
theorem dX6_track_23 : decode cX6_track 23 = .ok (.iload_n 2, 1) := by decide +kernel
theorem dX6_track_24 : decode cX6_track 24 = .ok (.iload_n 3, 1) := by decide +kernel
theorem dX6_track_25 : decode cX6_track 25 = .ok (.invokevirtual 160, 3) := by decide +kernel
theorem dX6_track_28 : decode cX6_track 28 = .ok (.ireturn, 1) := by decide +kernel
set_option maxRecDepth 20000 in
theorem ggX6_whyNotTouched_X6_isPlace : GoodIn wsX6_whyNotTouched wsX6_isPlace := goodIn_r _ [5, 6, 7, 4, 8, 9, 10, 11] (by decide +kernel) (by decide +kernel)
set_option maxRecDepth 20000 in
theorem gX6_whyNotTouched_X6_isPlace : GoodIn wsX6_whyNotTouched (va_wsS RX6 76 yX6_isPlace wsX6_isPlace) := goodIn_app (goodIn_of _ (by decide +kernel)) ggX6_whyNotTouched_X6_isPlace
set_option maxRecDepth 20000 in
theorem ggX6_whyNotTouched_X6_isNet : GoodIn wsX6_whyNotTouched wsX6_isNet := goodIn_r _ [14, 9, 10, 4, 11] (by decide +kernel) (by decide +kernel)
set_option maxRecDepth 20000 in
theorem gX6_whyNotTouched_X6_isNet : GoodIn wsX6_whyNotTouched (va_wsS RX6 163 yX6_isNet wsX6_isNet) := goodIn_app (goodIn_of _ (by decide +kernel)) ggX6_whyNotTouched_X6_isNet
set_option maxRecDepth 20000 in
theorem ggX6_whyNotTouched_X6_placeOf : GoodIn wsX6_whyNotTouched wsX6_placeOf := goodIn_r _ [17] (by decide +kernel) (by decide +kernel)
set_option maxRecDepth 20000 in
theorem gX6_whyNotTouched_X6_placeOf : GoodIn wsX6_whyNotTouched (va_wsS RX6 80 yX6_placeOf wsX6_placeOf) := goodIn_app (goodIn_of _ (by decide +kernel)) ggX6_whyNotTouched_X6_placeOf
set_option maxRecDepth 20000 in
theorem ggX6_whyNotTouched_X6_netAt : GoodIn wsX6_whyNotTouched wsX6_netAt := goodIn_r _ [21, 1, 37, 38, 39, 40, 41, 42, 43, 44, 45, 46, 47, 48, 49, 50, 51, 52, 53, 54, 55, 56, 57, 58, 59, 60, 61] (by decide +kernel) (by decide +kernel)
set_option maxRecDepth 20000 in
theorem gX6_whyNotTouched_X6_netAt : GoodIn wsX6_whyNotTouched (wsV RX6 87 RX6 yX6_netAt wsX6_netAt) := goodIn_app (goodIn_of _ (by decide +kernel)) ggX6_whyNotTouched_X6_netAt
set_option maxRecDepth 20000 in
theorem ggX6_whyNotTouched_X6_touchAt : GoodIn wsX6_whyNotTouched wsX6_touchAt := goodIn_r _ [25, 1, 26, 27, 28, 4, 29, 37, 38, 39, 40, 41, 42, 43, 44, 45, 46, 47, 48, 49, 50, 51, 52, 53, 54, 55, 56, 57, 58, 59, 60, 61] (by decide +kernel) (by decide +kernel)
set_option maxRecDepth 20000 in
theorem gX6_whyNotTouched_X6_touchAt : GoodIn wsX6_whyNotTouched (wsV RX6 97 RX6 yX6_touchAt wsX6_touchAt) := goodIn_app (goodIn_of _ (by decide +kernel)) ggX6_whyNotTouched_X6_touchAt
set_option maxRecDepth 20000 in
theorem ggX6_whyNotTouched_X6_hasNeighbourOf : GoodIn wsX6_whyNotTouched wsX6_hasNeighbourOf := goodIn_r _ [33, 34, 35, 4, 36, 2, 3, 5, 6, 7, 8, 9, 10, 11, 15, 16, 17, 18, 19, 20, 21, 1, 37, 38, 39, 40, 41, 42, 43, 44, 45, 46, 47, 48, 49, 50, 51, 52, 53, 54, 55, 56, 57, 58, 59, 60, 61] (by decide +kernel) (by decide +kernel)
set_option maxRecDepth 20000 in
theorem gX6_whyNotTouched_X6_hasNeighbourOf : GoodIn wsX6_whyNotTouched (wsV RX6 166 RX6 yX6_hasNeighbourOf wsX6_hasNeighbourOf) := goodIn_app (goodIn_of _ (by decide +kernel)) ggX6_whyNotTouched_X6_hasNeighbourOf
theorem dX6_whyNotTouched_0 : decode cX6_whyNotTouched 0 = .ok (.iload_n 1, 1) := by decide +kernel
theorem dX6_whyNotTouched_1 : decode cX6_whyNotTouched 1 = .ok (.iload_n 2, 1) := by decide +kernel
theorem dX6_whyNotTouched_2 : decode cX6_whyNotTouched 2 = .ok (.invokestatic 76, 3) := by decide +kernel
theorem dX6_whyNotTouched_5 : decode cX6_whyNotTouched 5 = .ok (.ifCond .ne 5, 3) := by decide +kernel
theorem dX6_whyNotTouched_8 : decode cX6_whyNotTouched 8 = .ok (.iconst (-1), 1) := by decide +kernel
theorem dX6_whyNotTouched_9 : decode cX6_whyNotTouched 9 = .ok (.ireturn, 1) := by decide +kernel
theorem dX6_whyNotTouched_10 : decode cX6_whyNotTouched 10 = .ok (.iload_n 3, 1) := by decide +kernel
theorem dX6_whyNotTouched_11 : decode cX6_whyNotTouched 11 = .ok (.invokestatic 163, 3) := by decide +kernel
theorem dX6_whyNotTouched_14 : decode cX6_whyNotTouched 14 = .ok (.ifCond .ne 6, 3) := by decide +kernel
theorem dX6_whyNotTouched_17 : decode cX6_whyNotTouched 17 = .ok (.bipush (-2), 2) := by decide +kernel
theorem dX6_whyNotTouched_19 : decode cX6_whyNotTouched 19 = .ok (.ireturn, 1) := by decide +kernel
theorem dX6_whyNotTouched_20 : decode cX6_whyNotTouched 20 = .ok (.iload_n 1, 1) := by decide +kernel
theorem dX6_whyNotTouched_21 : decode cX6_whyNotTouched 21 = .ok (.iload_n 2, 1) := by decide +kernel
theorem dX6_whyNotTouched_22 : decode cX6_whyNotTouched 22 = .ok (.invokestatic 80, 3) := by decide +kernel
theorem dX6_whyNotTouched_25 : decode cX6_whyNotTouched 25 = .ok (.istore 4, 2) := by decide +kernel
theorem dX6_whyNotTouched_27 : decode cX6_whyNotTouched 27 = .ok (.aload_n 0, 1) := by decide +kernel
theorem dX6_whyNotTouched_28 : decode cX6_whyNotTouched 28 = .ok (.iload 4, 2) := by decide +kernel
theorem dX6_whyNotTouched_30 : decode cX6_whyNotTouched 30 = .ok (.invokevirtual 87, 3) := by decide +kernel
theorem dX6_whyNotTouched_33 : decode cX6_whyNotTouched 33 = .ok (.ifCond .eq 34, 3) := by decide +kernel
theorem dX6_whyNotTouched_36 : decode cX6_whyNotTouched 36 = .ok (.aload_n 0, 1) := by decide +kernel
theorem dX6_whyNotTouched_37 : decode cX6_whyNotTouched 37 = .ok (.iload 4, 2) := by decide +kernel
theorem dX6_whyNotTouched_39 : decode cX6_whyNotTouched 39 = .ok (.invokevirtual 87, 3) := by decide +kernel
theorem dX6_whyNotTouched_42 : decode cX6_whyNotTouched 42 = .ok (.iload_n 3, 1) := by decide +kernel
theorem dX6_whyNotTouched_43 : decode cX6_whyNotTouched 43 = .ok (.if_icmp .eq 24, 3) := by decide +kernel
theorem dX6_whyNotTouched_46 : decode cX6_whyNotTouched 46 = .ok (.aload_n 0, 1) := by decide +kernel
theorem dX6_whyNotTouched_47 : decode cX6_whyNotTouched 47 = .ok (.iload 4, 2) := by decide +kernel
theorem dX6_whyNotTouched_49 : decode cX6_whyNotTouched 49 = .ok (.invokevirtual 97, 3) := by decide +kernel
theorem dX6_whyNotTouched_52 : decode cX6_whyNotTouched 52 = .ok (.bipush (-6), 2) := by decide +kernel
theorem dX6_whyNotTouched_54 : decode cX6_whyNotTouched 54 = .ok (.if_icmp .ne 13, 3) := by decide +kernel
theorem dX6_whyNotTouched_57 : decode cX6_whyNotTouched 57 = .ok (.aload_n 0, 1) := by decide +kernel
theorem dX6_whyNotTouched_58 : decode cX6_whyNotTouched 58 = .ok (.iload 4, 2) := by decide +kernel
theorem dX6_whyNotTouched_60 : decode cX6_whyNotTouched 60 = .ok (.iload_n 3, 1) := by decide +kernel
theorem dX6_whyNotTouched_61 : decode cX6_whyNotTouched 61 = .ok (.invokevirtual 166, 3) := by decide +kernel
theorem dX6_whyNotTouched_64 : decode cX6_whyNotTouched 64 = .ok (.ifCond .ne 6, 3) := by decide +kernel
theorem dX6_whyNotTouched_67 : decode cX6_whyNotTouched 67 = .ok (.bipush (-5), 2) := by decide +kernel
theorem dX6_whyNotTouched_69 : decode cX6_whyNotTouched 69 = .ok (.ireturn, 1) := by decide +kernel
theorem dX6_whyNotTouched_70 : decode cX6_whyNotTouched 70 = .ok (.aload_n 0, 1) := by decide +kernel
theorem dX6_whyNotTouched_71 : decode cX6_whyNotTouched 71 = .ok (.getfield 7, 3) := by decide +kernel
theorem dX6_whyNotTouched_74 : decode cX6_whyNotTouched 74 = .ok (.iconst 5, 1) := by decide +kernel
theorem dX6_whyNotTouched_75 : decode cX6_whyNotTouched 75 = .ok (.iaload, 1) := by decide +kernel
theorem dX6_whyNotTouched_76 : decode cX6_whyNotTouched 76 = .ok (.iconst 3, 1) := by decide +kernel
theorem dX6_whyNotTouched_77 : decode cX6_whyNotTouched 77 = .ok (.if_icmp .ne 8, 3) := by decide +kernel
theorem dX6_whyNotTouched_80 : decode cX6_whyNotTouched 80 = .ok (.bipush (-4), 2) := by decide +kernel
theorem dX6_whyNotTouched_82 : decode cX6_whyNotTouched 82 = .ok (.goto 4, 3) := by decide +kernel
theorem dX6_whyNotTouched_85 : decode cX6_whyNotTouched 85 = .ok (.iconst 0, 1) := by decide +kernel
theorem dX6_whyNotTouched_86 : decode cX6_whyNotTouched 86 = .ok (.ireturn, 1) := by decide +kernel
set_option maxRecDepth 20000 in
theorem ggX6_touches_X6_placeOf : GoodIn wsX6_touches wsX6_placeOf := goodIn_r _ [5] (by decide +kernel) (by decide +kernel)
set_option maxRecDepth 20000 in
theorem gX6_touches_X6_placeOf : GoodIn wsX6_touches (va_wsS RX6 80 yX6_placeOf wsX6_placeOf) := goodIn_app (goodIn_of _ (by decide +kernel)) ggX6_touches_X6_placeOf
set_option maxRecDepth 20000 in
theorem ggX6_touches_X6_beginsRun : GoodIn wsX6_touches wsX6_beginsRun := goodIn_r _ [9, 1, 10, 11, 12, 13, 14, 4, 15, 16, 17, 18, 19, 20, 21, 22, 23, 24, 25, 26, 27, 28, 29, 30, 31, 32, 33, 34, 35, 36, 37, 38, 39, 40, 41, 42, 43] (by decide +kernel) (by decide +kernel)
set_option maxRecDepth 20000 in
theorem gX6_touches_X6_beginsRun : GoodIn wsX6_touches (wsV RX6 153 RX6 yX6_beginsRun wsX6_beginsRun) := goodIn_app (goodIn_of _ (by decide +kernel)) ggX6_touches_X6_beginsRun
theorem dX6_touches_0 : decode cX6_touches 0 = .ok (.aload_n 0, 1) := by decide +kernel
theorem dX6_touches_1 : decode cX6_touches 1 = .ok (.getfield 7, 3) := by decide +kernel
theorem dX6_touches_4 : decode cX6_touches 4 = .ok (.iconst 5, 1) := by decide +kernel
theorem dX6_touches_5 : decode cX6_touches 5 = .ok (.iaload, 1) := by decide +kernel
theorem dX6_touches_6 : decode cX6_touches 6 = .ok (.istore 4, 2) := by decide +kernel
theorem dX6_touches_8 : decode cX6_touches 8 = .ok (.aload_n 0, 1) := by decide +kernel
theorem dX6_touches_9 : decode cX6_touches 9 = .ok (.getfield 7, 3) := by decide +kernel
theorem dX6_touches_12 : decode cX6_touches 12 = .ok (.bipush 79, 2) := by decide +kernel
theorem dX6_touches_14 : decode cX6_touches 14 = .ok (.iconst 2, 1) := by decide +kernel
theorem dX6_touches_15 : decode cX6_touches 15 = .ok (.iload 4, 2) := by decide +kernel
theorem dX6_touches_17 : decode cX6_touches 17 = .ok (.imul, 1) := by decide +kernel
theorem dX6_touches_18 : decode cX6_touches 18 = .ok (.iadd, 1) := by decide +kernel
theorem dX6_touches_19 : decode cX6_touches 19 = .ok (.iconst 0, 1) := by decide +kernel
theorem dX6_touches_20 : decode cX6_touches 20 = .ok (.iadd, 1) := by decide +kernel
theorem dX6_touches_21 : decode cX6_touches 21 = .ok (.iload_n 1, 1) := by decide +kernel
theorem dX6_touches_22 : decode cX6_touches 22 = .ok (.iload_n 2, 1) := by decide +kernel
theorem dX6_touches_23 : decode cX6_touches 23 = .ok (.invokestatic 80, 3) := by decide +kernel
theorem dX6_touches_26 : decode cX6_touches 26 = .ok (.iastore, 1) := by decide +kernel
theorem dX6_touches_27 : decode cX6_touches 27 = .ok (.aload_n 0, 1) := by decide +kernel
theorem dX6_touches_28 : decode cX6_touches 28 = .ok (.getfield 7, 3) := by decide +kernel
theorem dX6_touches_31 : decode cX6_touches 31 = .ok (.bipush 79, 2) := by decide +kernel
theorem dX6_touches_33 : decode cX6_touches 33 = .ok (.iconst 2, 1) := by decide +kernel
theorem dX6_touches_34 : decode cX6_touches 34 = .ok (.iload 4, 2) := by decide +kernel
theorem dX6_touches_36 : decode cX6_touches 36 = .ok (.imul, 1) := by decide +kernel
theorem dX6_touches_37 : decode cX6_touches 37 = .ok (.iadd, 1) := by decide +kernel
theorem dX6_touches_38 : decode cX6_touches 38 = .ok (.iconst 1, 1) := by decide +kernel
theorem dX6_touches_39 : decode cX6_touches 39 = .ok (.iadd, 1) := by decide +kernel
theorem dX6_touches_40 : decode cX6_touches 40 = .ok (.iload_n 3, 1) := by decide +kernel
theorem dX6_touches_41 : decode cX6_touches 41 = .ok (.iastore, 1) := by decide +kernel
theorem dX6_touches_42 : decode cX6_touches 42 = .ok (.aload_n 0, 1) := by decide +kernel
theorem dX6_touches_43 : decode cX6_touches 43 = .ok (.getfield 7, 3) := by decide +kernel
theorem dX6_touches_46 : decode cX6_touches 46 = .ok (.iconst 5, 1) := by decide +kernel
theorem dX6_touches_47 : decode cX6_touches 47 = .ok (.dup2, 1) := by decide +kernel
theorem dX6_touches_48 : decode cX6_touches 48 = .ok (.iaload, 1) := by decide +kernel
theorem dX6_touches_49 : decode cX6_touches 49 = .ok (.iconst 1, 1) := by decide +kernel
theorem dX6_touches_50 : decode cX6_touches 50 = .ok (.iadd, 1) := by decide +kernel
theorem dX6_touches_51 : decode cX6_touches 51 = .ok (.iastore, 1) := by decide +kernel
theorem dX6_touches_52 : decode cX6_touches 52 = .ok (.aload_n 0, 1) := by decide +kernel
theorem dX6_touches_53 : decode cX6_touches 53 = .ok (.invokevirtual 153, 3) := by decide +kernel
theorem dX6_touches_56 : decode cX6_touches 56 = .ok (.iload 4, 2) := by decide +kernel
theorem dX6_touches_58 : decode cX6_touches 58 = .ok (.ireturn, 1) := by decide +kernel
set_option maxRecDepth 20000 in
theorem ggX6_touch_X6_whyNotTouched : GoodIn wsX6_touch wsX6_whyNotTouched := goodIn_r _ [5, 6, 7, 8, 4, 9, 10, 11, 12, 13, 14, 15, 16, 17, 18, 19, 20, 21, 22, 23, 24, 25, 26, 27, 28, 29, 30, 31, 32, 33, 34, 35, 36, 37, 38, 39, 40, 68, 69, 70, 71, 72, 73, 74, 75, 76, 77, 78, 79, 80, 81, 82, 83, 84, 85, 86, 87, 88, 89, 90, 91, 92] (by decide +kernel) (by decide +kernel)
set_option maxRecDepth 20000 in
theorem gX6_touch_X6_whyNotTouched : GoodIn wsX6_touch (wsV RX6 169 RX6 yX6_whyNotTouched wsX6_whyNotTouched) := goodIn_app (goodIn_of _ (by decide +kernel)) ggX6_touch_X6_whyNotTouched
set_option maxRecDepth 20000 in
theorem ggX6_touch_X6_record : GoodIn wsX6_touch wsX6_record := goodIn_r _ [44, 45, 46, 47, 6, 48, 49, 50, 4, 51, 52, 53, 54, 68, 69, 70, 71, 72, 73, 74, 75, 76, 77, 78, 79, 80, 81, 82, 83, 84, 85, 86, 87, 88, 89, 90, 91, 92] (by decide +kernel) (by decide +kernel)
set_option maxRecDepth 20000 in
theorem gX6_touch_X6_record : GoodIn wsX6_touch (wsV RX6 150 RX6 yX6_record wsX6_record) := goodIn_app (goodIn_of _ (by decide +kernel)) ggX6_touch_X6_record
set_option maxRecDepth 20000 in
theorem ggX6_touch_X6_touches : GoodIn wsX6_touch wsX6_touches := goodIn_r _ [58, 6, 19, 20, 4, 21, 59, 60, 61, 62, 63, 48, 64, 65, 66, 67, 52, 53, 54, 68, 69, 70, 71, 72, 73, 74, 75, 76, 77, 78, 79, 80, 81, 82, 83, 84, 85, 86, 87, 88, 89, 90, 91, 92] (by decide +kernel) (by decide +kernel)
set_option maxRecDepth 20000 in
theorem gX6_touch_X6_touches : GoodIn wsX6_touch (wsV RX6 172 RX6 yX6_touches wsX6_touches) := goodIn_app (goodIn_of _ (by decide +kernel)) ggX6_touch_X6_touches
theorem dX6_touch_0 : decode cX6_touch 0 = .ok (.aload_n 0, 1) := by decide +kernel
theorem dX6_touch_1 : decode cX6_touch 1 = .ok (.iload_n 1, 1) := by decide +kernel
theorem dX6_touch_2 : decode cX6_touch 2 = .ok (.iload_n 2, 1) := by decide +kernel
theorem dX6_touch_3 : decode cX6_touch 3 = .ok (.iload_n 3, 1) := by decide +kernel
theorem dX6_touch_4 : decode cX6_touch 4 = .ok (.invokevirtual 169, 3) := by decide +kernel
theorem dX6_touch_7 : decode cX6_touch 7 = .ok (.istore 4, 2) := by decide +kernel
theorem dX6_touch_9 : decode cX6_touch 9 = .ok (.iload 4, 2) := by decide +kernel
theorem dX6_touch_11 : decode cX6_touch 11 = .ok (.ifCond .ge 6, 3) := by decide +kernel
theorem dX6_touch_14 : decode cX6_touch 14 = .ok (.iload 4, 2) := by decide +kernel
theorem dX6_touch_16 : decode cX6_touch 16 = .ok (.ireturn, 1) := by decide +kernel
theorem dX6_touch_17 : decode cX6_touch 17 = .ok (.aload_n 0, 1) := by decide +kernel
theorem dX6_touch_18 : decode cX6_touch 18 = .ok (.invokevirtual 150, 3) := by decide +kernel
theorem dX6_touch_21 : decode cX6_touch 21 = .ok (.aload_n 0, 1) := by decide +kernel
theorem dX6_touch_22 : decode cX6_touch 22 = .ok (.iload_n 1, 1) := by decide +kernel
theorem dX6_touch_23 : decode cX6_touch 23 = .ok (.iload_n 2, 1) := by decide +kernel
theorem dX6_touch_24 : decode cX6_touch 24 = .ok (.iload_n 3, 1) := by decide +kernel
theorem dX6_touch_25 : decode cX6_touch 25 = .ok (.invokevirtual 172, 3) := by decide +kernel
theorem dX6_touch_28 : decode cX6_touch 28 = .ok (.ireturn, 1) := by decide +kernel
set_option maxRecDepth 20000 in
theorem ggX6_isTouch_X6_within : GoodIn wsX6_isTouch wsX6_within := goodIn_r _ [5] (by decide +kernel) (by decide +kernel)
set_option maxRecDepth 20000 in
theorem gX6_isTouch_X6_within : GoodIn wsX6_isTouch (va_wsS RX6 68 yX6_within wsX6_within) := goodIn_app (goodIn_of _ (by decide +kernel)) ggX6_isTouch_X6_within
theorem dX6_isTouch_0 : decode cX6_isTouch 0 = .ok (.iload_n 1, 1) := by decide +kernel
theorem dX6_isTouch_1 : decode cX6_isTouch 1 = .ok (.iconst 0, 1) := by decide +kernel
theorem dX6_isTouch_2 : decode cX6_isTouch 2 = .ok (.aload_n 0, 1) := by decide +kernel
theorem dX6_isTouch_3 : decode cX6_isTouch 3 = .ok (.getfield 7, 3) := by decide +kernel
theorem dX6_isTouch_6 : decode cX6_isTouch 6 = .ok (.iconst 5, 1) := by decide +kernel
theorem dX6_isTouch_7 : decode cX6_isTouch 7 = .ok (.iaload, 1) := by decide +kernel
theorem dX6_isTouch_8 : decode cX6_isTouch 8 = .ok (.iconst 1, 1) := by decide +kernel
theorem dX6_isTouch_9 : decode cX6_isTouch 9 = .ok (.isub, 1) := by decide +kernel
theorem dX6_isTouch_10 : decode cX6_isTouch 10 = .ok (.invokestatic 68, 3) := by decide +kernel
theorem dX6_isTouch_13 : decode cX6_isTouch 13 = .ok (.ireturn, 1) := by decide +kernel
set_option maxRecDepth 20000 in
theorem ggX6_mends_X6_beginsRun : GoodIn wsX6_mends wsX6_beginsRun := goodIn_r _ [6, 1, 7, 8, 9, 10, 11, 5, 12, 13, 14, 15, 16, 17, 18, 19, 20, 21, 22, 23, 24, 25, 26, 27, 28, 29, 30, 31, 32, 33, 34, 35, 36, 37, 38, 39, 40] (by decide +kernel) (by decide +kernel)
set_option maxRecDepth 20000 in
theorem gX6_mends_X6_beginsRun : GoodIn wsX6_mends (wsV RX6 153 RX6 yX6_beginsRun wsX6_beginsRun) := goodIn_app (goodIn_of _ (by decide +kernel)) ggX6_mends_X6_beginsRun
theorem dX6_mends_0 : decode cX6_mends 0 = .ok (.aload_n 0, 1) := by decide +kernel
theorem dX6_mends_1 : decode cX6_mends 1 = .ok (.getfield 7, 3) := by decide +kernel
theorem dX6_mends_4 : decode cX6_mends 4 = .ok (.iconst 5, 1) := by decide +kernel
theorem dX6_mends_5 : decode cX6_mends 5 = .ok (.dup2, 1) := by decide +kernel
theorem dX6_mends_6 : decode cX6_mends 6 = .ok (.iaload, 1) := by decide +kernel
theorem dX6_mends_7 : decode cX6_mends 7 = .ok (.iconst 1, 1) := by decide +kernel
theorem dX6_mends_8 : decode cX6_mends 8 = .ok (.isub, 1) := by decide +kernel
theorem dX6_mends_9 : decode cX6_mends 9 = .ok (.iastore, 1) := by decide +kernel
theorem dX6_mends_10 : decode cX6_mends 10 = .ok (.bipush 79, 2) := by decide +kernel
theorem dX6_mends_12 : decode cX6_mends 12 = .ok (.iconst 2, 1) := by decide +kernel
theorem dX6_mends_13 : decode cX6_mends 13 = .ok (.iload_n 1, 1) := by decide +kernel
theorem dX6_mends_14 : decode cX6_mends 14 = .ok (.imul, 1) := by decide +kernel
theorem dX6_mends_15 : decode cX6_mends 15 = .ok (.iadd, 1) := by decide +kernel
theorem dX6_mends_16 : decode cX6_mends 16 = .ok (.istore_n 2, 1) := by decide +kernel
theorem dX6_mends_17 : decode cX6_mends 17 = .ok (.iload_n 2, 1) := by decide +kernel
theorem dX6_mends_18 : decode cX6_mends 18 = .ok (.bipush 79, 2) := by decide +kernel
theorem dX6_mends_20 : decode cX6_mends 20 = .ok (.iconst 2, 1) := by decide +kernel
theorem dX6_mends_21 : decode cX6_mends 21 = .ok (.aload_n 0, 1) := by decide +kernel
theorem dX6_mends_22 : decode cX6_mends 22 = .ok (.getfield 7, 3) := by decide +kernel
theorem dX6_mends_25 : decode cX6_mends 25 = .ok (.iconst 5, 1) := by decide +kernel
theorem dX6_mends_26 : decode cX6_mends 26 = .ok (.iaload, 1) := by decide +kernel
theorem dX6_mends_27 : decode cX6_mends 27 = .ok (.imul, 1) := by decide +kernel
theorem dX6_mends_28 : decode cX6_mends 28 = .ok (.iadd, 1) := by decide +kernel
theorem dX6_mends_29 : decode cX6_mends 29 = .ok (.if_icmp .ge 23, 3) := by decide +kernel
theorem dX6_mends_32 : decode cX6_mends 32 = .ok (.aload_n 0, 1) := by decide +kernel
theorem dX6_mends_33 : decode cX6_mends 33 = .ok (.getfield 7, 3) := by decide +kernel
theorem dX6_mends_36 : decode cX6_mends 36 = .ok (.iload_n 2, 1) := by decide +kernel
theorem dX6_mends_37 : decode cX6_mends 37 = .ok (.aload_n 0, 1) := by decide +kernel
theorem dX6_mends_38 : decode cX6_mends 38 = .ok (.getfield 7, 3) := by decide +kernel
theorem dX6_mends_41 : decode cX6_mends 41 = .ok (.iload_n 2, 1) := by decide +kernel
theorem dX6_mends_42 : decode cX6_mends 42 = .ok (.iconst 2, 1) := by decide +kernel
theorem dX6_mends_43 : decode cX6_mends 43 = .ok (.iadd, 1) := by decide +kernel
theorem dX6_mends_44 : decode cX6_mends 44 = .ok (.iaload, 1) := by decide +kernel
theorem dX6_mends_45 : decode cX6_mends 45 = .ok (.iastore, 1) := by decide +kernel
theorem dX6_mends_46 : decode cX6_mends 46 = .ok (.iinc 2 1, 3) := by decide +kernel
theorem dX6_mends_49 : decode cX6_mends 49 = .ok (.goto (-32), 3) := by decide +kernel
theorem dX6_mends_52 : decode cX6_mends 52 = .ok (.bipush 79, 2) := by decide +kernel
theorem dX6_mends_54 : decode cX6_mends 54 = .ok (.iconst 2, 1) := by decide +kernel
theorem dX6_mends_55 : decode cX6_mends 55 = .ok (.aload_n 0, 1) := by decide +kernel
theorem dX6_mends_56 : decode cX6_mends 56 = .ok (.getfield 7, 3) := by decide +kernel
theorem dX6_mends_59 : decode cX6_mends 59 = .ok (.iconst 5, 1) := by decide +kernel
theorem dX6_mends_60 : decode cX6_mends 60 = .ok (.iaload, 1) := by decide +kernel
theorem dX6_mends_61 : decode cX6_mends 61 = .ok (.imul, 1) := by decide +kernel
theorem dX6_mends_62 : decode cX6_mends 62 = .ok (.iadd, 1) := by decide +kernel
theorem dX6_mends_63 : decode cX6_mends 63 = .ok (.istore_n 2, 1) := by decide +kernel
theorem dX6_mends_64 : decode cX6_mends 64 = .ok (.iload_n 2, 1) := by decide +kernel
theorem dX6_mends_65 : decode cX6_mends 65 = .ok (.bipush 85, 2) := by decide +kernel
theorem dX6_mends_67 : decode cX6_mends 67 = .ok (.if_icmp .ge 16, 3) := by decide +kernel
theorem dX6_mends_70 : decode cX6_mends 70 = .ok (.aload_n 0, 1) := by decide +kernel
theorem dX6_mends_71 : decode cX6_mends 71 = .ok (.getfield 7, 3) := by decide +kernel
theorem dX6_mends_74 : decode cX6_mends 74 = .ok (.iload_n 2, 1) := by decide +kernel
theorem dX6_mends_75 : decode cX6_mends 75 = .ok (.iconst 0, 1) := by decide +kernel
theorem dX6_mends_76 : decode cX6_mends 76 = .ok (.iastore, 1) := by decide +kernel
theorem dX6_mends_77 : decode cX6_mends 77 = .ok (.iinc 2 1, 3) := by decide +kernel
theorem dX6_mends_80 : decode cX6_mends 80 = .ok (.goto (-16), 3) := by decide +kernel
theorem dX6_mends_83 : decode cX6_mends 83 = .ok (.aload_n 0, 1) := by decide +kernel
theorem dX6_mends_84 : decode cX6_mends 84 = .ok (.invokevirtual 153, 3) := by decide +kernel
theorem dX6_mends_87 : decode cX6_mends 87 = .ok (.aload_n 0, 1) := by decide +kernel
theorem dX6_mends_88 : decode cX6_mends 88 = .ok (.getfield 7, 3) := by decide +kernel
theorem dX6_mends_91 : decode cX6_mends 91 = .ok (.iconst 5, 1) := by decide +kernel
theorem dX6_mends_92 : decode cX6_mends 92 = .ok (.iaload, 1) := by decide +kernel
theorem dX6_mends_93 : decode cX6_mends 93 = .ok (.ireturn, 1) := by decide +kernel
set_option maxRecDepth 20000 in
theorem ggX6_mend_X6_isTouch : GoodIn wsX6_mend wsX6_isTouch := goodIn_r _ [5, 6, 7, 8, 4, 9, 37, 38, 39, 40, 41, 42, 43, 44, 45, 46, 47, 48, 49, 50, 51, 52, 53, 54, 55, 56, 57, 58, 59, 60, 61] (by decide +kernel) (by decide +kernel)
set_option maxRecDepth 20000 in
theorem gX6_mend_X6_isTouch : GoodIn wsX6_mend (wsV RX6 175 RX6 yX6_isTouch wsX6_isTouch) := goodIn_app (goodIn_of _ (by decide +kernel)) ggX6_mend_X6_isTouch
set_option maxRecDepth 20000 in
theorem ggX6_mend_X6_record : GoodIn wsX6_mend wsX6_record := goodIn_r _ [13, 14, 15, 16, 6, 17, 18, 19, 4, 20, 21, 22, 23, 37, 38, 39, 40, 41, 42, 43, 44, 45, 46, 47, 48, 49, 50, 51, 52, 53, 54, 55, 56, 57, 58, 59, 60, 61] (by decide +kernel) (by decide +kernel)
set_option maxRecDepth 20000 in
theorem gX6_mend_X6_record : GoodIn wsX6_mend (wsV RX6 150 RX6 yX6_record wsX6_record) := goodIn_app (goodIn_of _ (by decide +kernel)) ggX6_mend_X6_record
set_option maxRecDepth 20000 in
theorem ggX6_mend_X6_mends : GoodIn wsX6_mend wsX6_mends := goodIn_r _ [27, 6, 28, 29, 30, 4, 31, 32, 17, 33, 34, 35, 36, 21, 22, 23, 37, 38, 39, 40, 41, 42, 43, 44, 45, 46, 47, 48, 49, 50, 51, 52, 53, 54, 55, 56, 57, 58, 59, 60, 61] (by decide +kernel) (by decide +kernel)
set_option maxRecDepth 20000 in
theorem gX6_mend_X6_mends : GoodIn wsX6_mend (wsV RX6 178 RX6 yX6_mends wsX6_mends) := goodIn_app (goodIn_of _ (by decide +kernel)) ggX6_mend_X6_mends
theorem dX6_mend_0 : decode cX6_mend 0 = .ok (.aload_n 0, 1) := by decide +kernel
theorem dX6_mend_1 : decode cX6_mend 1 = .ok (.iload_n 1, 1) := by decide +kernel
theorem dX6_mend_2 : decode cX6_mend 2 = .ok (.invokevirtual 175, 3) := by decide +kernel
theorem dX6_mend_5 : decode cX6_mend 5 = .ok (.ifCond .ne 5, 3) := by decide +kernel
theorem dX6_mend_8 : decode cX6_mend 8 = .ok (.iconst (-1), 1) := by decide +kernel
theorem dX6_mend_9 : decode cX6_mend 9 = .ok (.ireturn, 1) := by decide +kernel
theorem dX6_mend_10 : decode cX6_mend 10 = .ok (.aload_n 0, 1) := by decide +kernel
theorem dX6_mend_11 : decode cX6_mend 11 = .ok (.invokevirtual 150, 3) := by decide +kernel
theorem dX6_mend_14 : decode cX6_mend 14 = .ok (.aload_n 0, 1) := by decide +kernel
theorem dX6_mend_15 : decode cX6_mend 15 = .ok (.iload_n 1, 1) := by decide +kernel
theorem dX6_mend_16 : decode cX6_mend 16 = .ok (.invokevirtual 178, 3) := by decide +kernel
theorem dX6_mend_19 : decode cX6_mend 19 = .ok (.ireturn, 1) := by decide +kernel
set_option maxRecDepth 20000 in
theorem ggX6_whyNotFed_X6_isNet : GoodIn wsX6_whyNotFed wsX6_isNet := goodIn_r _ [4, 5, 6, 3, 7] (by decide +kernel) (by decide +kernel)
set_option maxRecDepth 20000 in
theorem gX6_whyNotFed_X6_isNet : GoodIn wsX6_whyNotFed (va_wsS RX6 163 yX6_isNet wsX6_isNet) := goodIn_app (goodIn_of _ (by decide +kernel)) ggX6_whyNotFed_X6_isNet
theorem dX6_whyNotFed_0 : decode cX6_whyNotFed 0 = .ok (.iload_n 0, 1) := by decide +kernel
theorem dX6_whyNotFed_1 : decode cX6_whyNotFed 1 = .ok (.invokestatic 163, 3) := by decide +kernel
theorem dX6_whyNotFed_4 : decode cX6_whyNotFed 4 = .ok (.ifCond .eq 10, 3) := by decide +kernel
theorem dX6_whyNotFed_7 : decode cX6_whyNotFed 7 = .ok (.iload_n 1, 1) := by decide +kernel
theorem dX6_whyNotFed_8 : decode cX6_whyNotFed 8 = .ok (.invokestatic 163, 3) := by decide +kernel
theorem dX6_whyNotFed_11 : decode cX6_whyNotFed 11 = .ok (.ifCond .ne 7, 3) := by decide +kernel
theorem dX6_whyNotFed_14 : decode cX6_whyNotFed 14 = .ok (.iconst (-1), 1) := by decide +kernel
theorem dX6_whyNotFed_15 : decode cX6_whyNotFed 15 = .ok (.goto 14, 3) := by decide +kernel
theorem dX6_whyNotFed_18 : decode cX6_whyNotFed 18 = .ok (.iload_n 0, 1) := by decide +kernel
theorem dX6_whyNotFed_19 : decode cX6_whyNotFed 19 = .ok (.iload_n 1, 1) := by decide +kernel
theorem dX6_whyNotFed_20 : decode cX6_whyNotFed 20 = .ok (.if_icmp .ne 8, 3) := by decide +kernel
theorem dX6_whyNotFed_23 : decode cX6_whyNotFed 23 = .ok (.bipush (-2), 2) := by decide +kernel
theorem dX6_whyNotFed_25 : decode cX6_whyNotFed 25 = .ok (.goto 4, 3) := by decide +kernel
theorem dX6_whyNotFed_28 : decode cX6_whyNotFed 28 = .ok (.iconst 0, 1) := by decide +kernel
theorem dX6_whyNotFed_29 : decode cX6_whyNotFed 29 = .ok (.ireturn, 1) := by decide +kernel
set_option maxRecDepth 20000 in
theorem ggX6_feeds_X6_beginsRun : GoodIn wsX6_feeds wsX6_beginsRun := goodIn_r _ [6, 1, 7, 8, 9, 10, 11, 5, 12, 13, 14, 15, 20, 21, 22, 23, 24, 25, 26, 27, 28, 29, 30, 31, 32, 33, 34, 35, 36, 37, 38, 39, 40, 41, 42, 43, 44] (by decide +kernel) (by decide +kernel)
set_option maxRecDepth 20000 in
theorem gX6_feeds_X6_beginsRun : GoodIn wsX6_feeds (wsV RX6 153 RX6 yX6_beginsRun wsX6_beginsRun) := goodIn_app (goodIn_of _ (by decide +kernel)) ggX6_feeds_X6_beginsRun
set_option maxRecDepth 20000 in
theorem ggX6_feeds_X6_isFed : GoodIn wsX6_feeds wsX6_isFed := goodIn_r _ [19, 1, 20, 21, 22, 23, 24, 25, 26, 27, 28, 29, 30, 31, 32, 33, 34, 35, 36, 37, 38, 39, 40, 41, 42, 43, 44] (by decide +kernel) (by decide +kernel)
set_option maxRecDepth 20000 in
theorem gX6_feeds_X6_isFed : GoodIn wsX6_feeds (wsV RX6 91 RX6 yX6_isFed wsX6_isFed) := goodIn_app (goodIn_of _ (by decide +kernel)) ggX6_feeds_X6_isFed
theorem dX6_feeds_0 : decode cX6_feeds 0 = .ok (.aload_n 0, 1) := by decide +kernel
theorem dX6_feeds_1 : decode cX6_feeds 1 = .ok (.getfield 7, 3) := by decide +kernel
theorem dX6_feeds_4 : decode cX6_feeds 4 = .ok (.bipush 71, 2) := by decide +kernel
theorem dX6_feeds_6 : decode cX6_feeds 6 = .ok (.iload_n 1, 1) := by decide +kernel
theorem dX6_feeds_7 : decode cX6_feeds 7 = .ok (.iadd, 1) := by decide +kernel
theorem dX6_feeds_8 : decode cX6_feeds 8 = .ok (.dup2, 1) := by decide +kernel
theorem dX6_feeds_9 : decode cX6_feeds 9 = .ok (.iaload, 1) := by decide +kernel
theorem dX6_feeds_10 : decode cX6_feeds 10 = .ok (.iconst 1, 1) := by decide +kernel
theorem dX6_feeds_11 : decode cX6_feeds 11 = .ok (.iload_n 2, 1) := by decide +kernel
theorem dX6_feeds_12 : decode cX6_feeds 12 = .ok (.ishl, 1) := by decide +kernel
theorem dX6_feeds_13 : decode cX6_feeds 13 = .ok (.ixor, 1) := by decide +kernel
theorem dX6_feeds_14 : decode cX6_feeds 14 = .ok (.iastore, 1) := by decide +kernel
theorem dX6_feeds_15 : decode cX6_feeds 15 = .ok (.aload_n 0, 1) := by decide +kernel
theorem dX6_feeds_16 : decode cX6_feeds 16 = .ok (.getfield 7, 3) := by decide +kernel
theorem dX6_feeds_19 : decode cX6_feeds 19 = .ok (.bipush 71, 2) := by decide +kernel
theorem dX6_feeds_21 : decode cX6_feeds 21 = .ok (.iload_n 2, 1) := by decide +kernel
theorem dX6_feeds_22 : decode cX6_feeds 22 = .ok (.iadd, 1) := by decide +kernel
theorem dX6_feeds_23 : decode cX6_feeds 23 = .ok (.dup2, 1) := by decide +kernel
theorem dX6_feeds_24 : decode cX6_feeds 24 = .ok (.iaload, 1) := by decide +kernel
theorem dX6_feeds_25 : decode cX6_feeds 25 = .ok (.iconst 1, 1) := by decide +kernel
theorem dX6_feeds_26 : decode cX6_feeds 26 = .ok (.iload_n 1, 1) := by decide +kernel
theorem dX6_feeds_27 : decode cX6_feeds 27 = .ok (.ishl, 1) := by decide +kernel
theorem dX6_feeds_28 : decode cX6_feeds 28 = .ok (.ixor, 1) := by decide +kernel
theorem dX6_feeds_29 : decode cX6_feeds 29 = .ok (.iastore, 1) := by decide +kernel
theorem dX6_feeds_30 : decode cX6_feeds 30 = .ok (.aload_n 0, 1) := by decide +kernel
theorem dX6_feeds_31 : decode cX6_feeds 31 = .ok (.invokevirtual 153, 3) := by decide +kernel
theorem dX6_feeds_34 : decode cX6_feeds 34 = .ok (.aload_n 0, 1) := by decide +kernel
theorem dX6_feeds_35 : decode cX6_feeds 35 = .ok (.iload_n 1, 1) := by decide +kernel
theorem dX6_feeds_36 : decode cX6_feeds 36 = .ok (.iload_n 2, 1) := by decide +kernel
theorem dX6_feeds_37 : decode cX6_feeds 37 = .ok (.invokevirtual 91, 3) := by decide +kernel
theorem dX6_feeds_40 : decode cX6_feeds 40 = .ok (.ifCond .eq 7, 3) := by decide +kernel
theorem dX6_feeds_43 : decode cX6_feeds 43 = .ok (.iconst 1, 1) := by decide +kernel
theorem dX6_feeds_44 : decode cX6_feeds 44 = .ok (.goto 4, 3) := by decide +kernel
theorem dX6_feeds_47 : decode cX6_feeds 47 = .ok (.iconst 0, 1) := by decide +kernel
theorem dX6_feeds_48 : decode cX6_feeds 48 = .ok (.ireturn, 1) := by decide +kernel
set_option maxRecDepth 20000 in
theorem ggX6_feed_X6_whyNotFed : GoodIn wsX6_feed wsX6_whyNotFed := goodIn_r _ [4, 5, 6, 3, 7, 8, 9, 10] (by decide +kernel) (by decide +kernel)
set_option maxRecDepth 20000 in
theorem gX6_feed_X6_whyNotFed : GoodIn wsX6_feed (va_wsS RX6 181 yX6_whyNotFed wsX6_whyNotFed) := goodIn_app (goodIn_of _ (by decide +kernel)) ggX6_feed_X6_whyNotFed
set_option maxRecDepth 20000 in
theorem ggX6_feed_X6_record : GoodIn wsX6_feed wsX6_record := goodIn_r _ [14, 15, 16, 17, 18, 19, 20, 21, 3, 22, 23, 24, 25, 43, 44, 45, 46, 47, 48, 49, 50, 51, 52, 53, 54, 55, 56, 57, 58, 59, 60, 61, 62, 63, 64, 65, 66, 67] (by decide +kernel) (by decide +kernel)
set_option maxRecDepth 20000 in
theorem gX6_feed_X6_record : GoodIn wsX6_feed (wsV RX6 150 RX6 yX6_record wsX6_record) := goodIn_app (goodIn_of _ (by decide +kernel)) ggX6_feed_X6_record
set_option maxRecDepth 20000 in
theorem ggX6_feed_X6_feeds : GoodIn wsX6_feed wsX6_feeds := goodIn_r _ [29, 18, 30, 31, 32, 3, 33, 34, 19, 35, 36, 37, 38, 23, 24, 25, 39, 40, 41, 42, 43, 44, 45, 46, 47, 48, 49, 50, 51, 52, 53, 54, 55, 56, 57, 58, 59, 60, 61, 62, 63, 64, 65, 66, 67] (by decide +kernel) (by decide +kernel)
set_option maxRecDepth 20000 in
theorem gX6_feed_X6_feeds : GoodIn wsX6_feed (wsV RX6 184 RX6 yX6_feeds wsX6_feeds) := goodIn_app (goodIn_of _ (by decide +kernel)) ggX6_feed_X6_feeds
theorem dX6_feed_0 : decode cX6_feed 0 = .ok (.iload_n 1, 1) := by decide +kernel
theorem dX6_feed_1 : decode cX6_feed 1 = .ok (.iload_n 2, 1) := by decide +kernel
theorem dX6_feed_2 : decode cX6_feed 2 = .ok (.invokestatic 181, 3) := by decide +kernel
theorem dX6_feed_5 : decode cX6_feed 5 = .ok (.istore_n 3, 1) := by decide +kernel
theorem dX6_feed_6 : decode cX6_feed 6 = .ok (.iload_n 3, 1) := by decide +kernel
theorem dX6_feed_7 : decode cX6_feed 7 = .ok (.ifCond .ge 5, 3) := by decide +kernel
theorem dX6_feed_10 : decode cX6_feed 10 = .ok (.iload_n 3, 1) := by decide +kernel
theorem dX6_feed_11 : decode cX6_feed 11 = .ok (.ireturn, 1) := by decide +kernel
theorem dX6_feed_12 : decode cX6_feed 12 = .ok (.aload_n 0, 1) := by decide +kernel
theorem dX6_feed_13 : decode cX6_feed 13 = .ok (.invokevirtual 150, 3) := by decide +kernel
theorem dX6_feed_16 : decode cX6_feed 16 = .ok (.aload_n 0, 1) := by decide +kernel
theorem dX6_feed_17 : decode cX6_feed 17 = .ok (.iload_n 1, 1) := by decide +kernel
theorem dX6_feed_18 : decode cX6_feed 18 = .ok (.iload_n 2, 1) := by decide +kernel
theorem dX6_feed_19 : decode cX6_feed 19 = .ok (.invokevirtual 184, 3) := by decide +kernel
theorem dX6_feed_22 : decode cX6_feed 22 = .ok (.ireturn, 1) := by decide +kernel
set_option maxRecDepth 20000 in
theorem ggX6_cool_X6_record : GoodIn wsX6_cool wsX6_record := goodIn_r _ [6, 7, 8, 9, 1, 10, 11, 12, 5, 13, 14, 15, 16, 26, 27, 28, 29, 30, 31, 32, 33, 34, 35, 36, 37, 38, 39, 40, 41, 42, 43, 44, 45, 46, 47, 48, 49, 50] (by decide +kernel) (by decide +kernel)
set_option maxRecDepth 20000 in
theorem gX6_cool_X6_record : GoodIn wsX6_cool (wsV RX6 150 RX6 yX6_record wsX6_record) := goodIn_app (goodIn_of _ (by decide +kernel)) ggX6_cool_X6_record
set_option maxRecDepth 20000 in
theorem ggX6_cool_X6_beginsRun : GoodIn wsX6_cool wsX6_beginsRun := goodIn_r _ [20, 1, 21, 10, 22, 23, 24, 5, 25, 14, 15, 16, 26, 27, 28, 29, 30, 31, 32, 33, 34, 35, 36, 37, 38, 39, 40, 41, 42, 43, 44, 45, 46, 47, 48, 49, 50] (by decide +kernel) (by decide +kernel)
set_option maxRecDepth 20000 in
theorem gX6_cool_X6_beginsRun : GoodIn wsX6_cool (wsV RX6 153 RX6 yX6_beginsRun wsX6_beginsRun) := goodIn_app (goodIn_of _ (by decide +kernel)) ggX6_cool_X6_beginsRun
theorem dX6_cool_0 : decode cX6_cool 0 = .ok (.aload_n 0, 1) := by decide +kernel
theorem dX6_cool_1 : decode cX6_cool 1 = .ok (.invokevirtual 150, 3) := by decide +kernel
theorem dX6_cool_4 : decode cX6_cool 4 = .ok (.aload_n 0, 1) := by decide +kernel
theorem dX6_cool_5 : decode cX6_cool 5 = .ok (.getfield 7, 3) := by decide +kernel
theorem dX6_cool_8 : decode cX6_cool 8 = .ok (.iconst 4, 1) := by decide +kernel
theorem dX6_cool_9 : decode cX6_cool 9 = .ok (.iaload, 1) := by decide +kernel
theorem dX6_cool_10 : decode cX6_cool 10 = .ok (.istore_n 1, 1) := by decide +kernel
theorem dX6_cool_11 : decode cX6_cool 11 = .ok (.aload_n 0, 1) := by decide +kernel
theorem dX6_cool_12 : decode cX6_cool 12 = .ok (.invokevirtual 153, 3) := by decide +kernel
theorem dX6_cool_15 : decode cX6_cool 15 = .ok (.iload_n 1, 1) := by decide +kernel
theorem dX6_cool_16 : decode cX6_cool 16 = .ok (.ireturn, 1) := by decide +kernel
set_option maxRecDepth 20000 in
theorem ggX6_whyNotWarmed_X6_within : GoodIn wsX6_whyNotWarmed wsX6_within := goodIn_r _ [5] (by decide +kernel) (by decide +kernel)
set_option maxRecDepth 20000 in
theorem gX6_whyNotWarmed_X6_within : GoodIn wsX6_whyNotWarmed (va_wsS RX6 68 yX6_within wsX6_within) := goodIn_app (goodIn_of _ (by decide +kernel)) ggX6_whyNotWarmed_X6_within
theorem dX6_whyNotWarmed_0 : decode cX6_whyNotWarmed 0 = .ok (.iload_n 1, 1) := by decide +kernel
theorem dX6_whyNotWarmed_1 : decode cX6_whyNotWarmed 1 = .ok (.iconst 1, 1) := by decide +kernel
theorem dX6_whyNotWarmed_2 : decode cX6_whyNotWarmed 2 = .ok (.bipush 50, 2) := by decide +kernel
theorem dX6_whyNotWarmed_4 : decode cX6_whyNotWarmed 4 = .ok (.invokestatic 68, 3) := by decide +kernel
theorem dX6_whyNotWarmed_7 : decode cX6_whyNotWarmed 7 = .ok (.ifCond .ne 8, 3) := by decide +kernel
theorem dX6_whyNotWarmed_10 : decode cX6_whyNotWarmed 10 = .ok (.bipush (-2), 2) := by decide +kernel
theorem dX6_whyNotWarmed_12 : decode cX6_whyNotWarmed 12 = .ok (.goto 22, 3) := by decide +kernel
theorem dX6_whyNotWarmed_15 : decode cX6_whyNotWarmed 15 = .ok (.aload_n 0, 1) := by decide +kernel
theorem dX6_whyNotWarmed_16 : decode cX6_whyNotWarmed 16 = .ok (.getfield 7, 3) := by decide +kernel
theorem dX6_whyNotWarmed_19 : decode cX6_whyNotWarmed 19 = .ok (.iconst 4, 1) := by decide +kernel
theorem dX6_whyNotWarmed_20 : decode cX6_whyNotWarmed 20 = .ok (.iaload, 1) := by decide +kernel
theorem dX6_whyNotWarmed_21 : decode cX6_whyNotWarmed 21 = .ok (.iload_n 1, 1) := by decide +kernel
theorem dX6_whyNotWarmed_22 : decode cX6_whyNotWarmed 22 = .ok (.iadd, 1) := by decide +kernel
theorem dX6_whyNotWarmed_23 : decode cX6_whyNotWarmed 23 = .ok (.bipush 100, 2) := by decide +kernel
theorem dX6_whyNotWarmed_25 : decode cX6_whyNotWarmed 25 = .ok (.if_icmp .le 8, 3) := by decide +kernel
theorem dX6_whyNotWarmed_28 : decode cX6_whyNotWarmed 28 = .ok (.bipush (-5), 2) := by decide +kernel
theorem dX6_whyNotWarmed_30 : decode cX6_whyNotWarmed 30 = .ok (.goto 4, 3) := by decide +kernel
theorem dX6_whyNotWarmed_33 : decode cX6_whyNotWarmed 33 = .ok (.iconst 0, 1) := by decide +kernel
theorem dX6_whyNotWarmed_34 : decode cX6_whyNotWarmed 34 = .ok (.ireturn, 1) := by decide +kernel
set_option maxRecDepth 20000 in
theorem ggX6_warm_X6_whyNotWarmed : GoodIn wsX6_warm wsX6_whyNotWarmed := goodIn_r _ [5, 6, 7, 8, 4, 9, 71, 72, 73, 74, 75, 76, 77, 78, 79, 80, 81, 82, 83, 84, 85, 86, 87, 88, 89, 90, 91, 92, 93, 94, 95] (by decide +kernel) (by decide +kernel)
set_option maxRecDepth 20000 in
theorem gX6_warm_X6_whyNotWarmed : GoodIn wsX6_warm (wsV RX6 187 RX6 yX6_whyNotWarmed wsX6_whyNotWarmed) := goodIn_app (goodIn_of _ (by decide +kernel)) ggX6_warm_X6_whyNotWarmed
set_option maxRecDepth 20000 in
theorem ggX6_warm_X6_record : GoodIn wsX6_warm wsX6_record := goodIn_r _ [13, 14, 15, 16, 6, 17, 18, 19, 4, 20, 21, 22, 23, 71, 72, 73, 74, 75, 76, 77, 78, 79, 80, 81, 82, 83, 84, 85, 86, 87, 88, 89, 90, 91, 92, 93, 94, 95] (by decide +kernel) (by decide +kernel)
set_option maxRecDepth 20000 in
theorem gX6_warm_X6_record : GoodIn wsX6_warm (wsV RX6 150 RX6 yX6_record wsX6_record) := goodIn_app (goodIn_of _ (by decide +kernel)) ggX6_warm_X6_record
set_option maxRecDepth 20000 in
theorem ggX6_warm_X6_warms : GoodIn wsX6_warm wsX6_warms := goodIn_r _ [27, 17, 28, 6, 21, 22, 4, 23, 29, 30, 31, 32, 33, 34, 35, 36, 37, 38, 39, 40, 41, 42, 43, 7, 8, 9, 44, 45, 46, 47, 48, 49, 50, 51, 52, 53, 54, 55, 56, 57, 58, 59, 60, 61, 62, 63, 64, 65, 66, 67, 68, 69, 70, 71, 72, 73, 74, 75, 76, 77, 78, 79, 80, 81, 82, 83, 84, 85, 86, 87, 88, 89, 90, 91, 92, 93, 94, 95] (by decide +kernel) (by decide +kernel)
set_option maxRecDepth 20000 in
theorem gX6_warm_X6_warms : GoodIn wsX6_warm (wsV RX6 190 RX6 yX6_warms wsX6_warms) := goodIn_app (goodIn_of _ (by decide +kernel)) ggX6_warm_X6_warms
theorem dX6_warm_0 : decode cX6_warm 0 = .ok (.aload_n 0, 1) := by decide +kernel
theorem dX6_warm_1 : decode cX6_warm 1 = .ok (.iload_n 1, 1) := by decide +kernel
theorem dX6_warm_2 : decode cX6_warm 2 = .ok (.invokevirtual 187, 3) := by decide +kernel
theorem dX6_warm_5 : decode cX6_warm 5 = .ok (.istore_n 2, 1) := by decide +kernel
theorem dX6_warm_6 : decode cX6_warm 6 = .ok (.iload_n 2, 1) := by decide +kernel
theorem dX6_warm_7 : decode cX6_warm 7 = .ok (.ifCond .ge 5, 3) := by decide +kernel
theorem dX6_warm_10 : decode cX6_warm 10 = .ok (.iload_n 2, 1) := by decide +kernel
theorem dX6_warm_11 : decode cX6_warm 11 = .ok (.ireturn, 1) := by decide +kernel
theorem dX6_warm_12 : decode cX6_warm 12 = .ok (.aload_n 0, 1) := by decide +kernel
theorem dX6_warm_13 : decode cX6_warm 13 = .ok (.invokevirtual 150, 3) := by decide +kernel
theorem dX6_warm_16 : decode cX6_warm 16 = .ok (.aload_n 0, 1) := by decide +kernel
theorem dX6_warm_17 : decode cX6_warm 17 = .ok (.iload_n 1, 1) := by decide +kernel
theorem dX6_warm_18 : decode cX6_warm 18 = .ok (.invokevirtual 190, 3) := by decide +kernel
theorem dX6_warm_21 : decode cX6_warm 21 = .ok (.ireturn, 1) := by decide +kernel
set_option maxRecDepth 20000 in
theorem ggX6_whyNotProbed_X6_isPlace : GoodIn wsX6_whyNotProbed wsX6_isPlace := goodIn_r _ [5, 6, 7, 4, 8, 9, 10, 11] (by decide +kernel) (by decide +kernel)
set_option maxRecDepth 20000 in
theorem gX6_whyNotProbed_X6_isPlace : GoodIn wsX6_whyNotProbed (va_wsS RX6 76 yX6_isPlace wsX6_isPlace) := goodIn_app (goodIn_of _ (by decide +kernel)) ggX6_whyNotProbed_X6_isPlace
