theorem dX5_readsIn_2 : decode cX5_readsIn 2 = .ok (.invokestatic 86, 3) := by decide +kernel
theorem dX5_readsIn_5 : decode cX5_readsIn 5 = .ok (.istore 4, 2) := by decide +kernel
theorem dX5_readsIn_7 : decode cX5_readsIn 7 = .ok (.iload 4, 2) := by decide +kernel
theorem dX5_readsIn_9 : decode cX5_readsIn 9 = .ok (.ifCond .ge 5, 3) := by decide +kernel
theorem dX5_readsIn_12 : decode cX5_readsIn 12 = .ok (.iconst (-1), 1) := by decide +kernel
theorem dX5_readsIn_13 : decode cX5_readsIn 13 = .ok (.ireturn, 1) := by decide +kernel
theorem dX5_readsIn_14 : decode cX5_readsIn 14 = .ok (.iload_n 3, 1) := by decide +kernel
theorem dX5_readsIn_15 : decode cX5_readsIn 15 = .ok (.iconst 1, 1) := by decide +kernel
theorem dX5_readsIn_16 : decode cX5_readsIn 16 = .ok (.if_icmp .lt 10, 3) := by decide +kernel
theorem dX5_readsIn_19 : decode cX5_readsIn 19 = .ok (.iload_n 3, 1) := by decide +kernel
theorem dX5_readsIn_20 : decode cX5_readsIn 20 = .ok (.sipush 9999, 3) := by decide +kernel
theorem dX5_readsIn_23 : decode cX5_readsIn 23 = .ok (.if_icmp .le 6, 3) := by decide +kernel
theorem dX5_readsIn_26 : decode cX5_readsIn 26 = .ok (.bipush (-2), 2) := by decide +kernel
theorem dX5_readsIn_28 : decode cX5_readsIn 28 = .ok (.ireturn, 1) := by decide +kernel
theorem dX5_readsIn_29 : decode cX5_readsIn 29 = .ok (.aload_n 0, 1) := by decide +kernel
theorem dX5_readsIn_30 : decode cX5_readsIn 30 = .ok (.getfield 16, 3) := by decide +kernel
theorem dX5_readsIn_33 : decode cX5_readsIn 33 = .ok (.aload_n 0, 1) := by decide +kernel
theorem dX5_readsIn_34 : decode cX5_readsIn 34 = .ok (.getfield 10, 3) := by decide +kernel
theorem dX5_readsIn_37 : decode cX5_readsIn 37 = .ok (.invokevirtual 206, 3) := by decide +kernel
theorem dX5_readsIn_40 : decode cX5_readsIn 40 = .ok (.aload_n 0, 1) := by decide +kernel
theorem dX5_readsIn_41 : decode cX5_readsIn 41 = .ok (.getfield 16, 3) := by decide +kernel
theorem dX5_readsIn_44 : decode cX5_readsIn 44 = .ok (.invokevirtual 170, 3) := by decide +kernel
theorem dX5_readsIn_47 : decode cX5_readsIn 47 = .ok (.lstore 5, 2) := by decide +kernel
theorem dX5_readsIn_49 : decode cX5_readsIn 49 = .ok (.iconst 0, 1) := by decide +kernel
theorem dX5_readsIn_50 : decode cX5_readsIn 50 = .ok (.istore 7, 2) := by decide +kernel
theorem dX5_readsIn_52 : decode cX5_readsIn 52 = .ok (.iload 7, 2) := by decide +kernel
theorem dX5_readsIn_54 : decode cX5_readsIn 54 = .ok (.sipush 200, 3) := by decide +kernel
theorem dX5_readsIn_57 : decode cX5_readsIn 57 = .ok (.if_icmp .gt 38, 3) := by decide +kernel
theorem dX5_readsIn_60 : decode cX5_readsIn 60 = .ok (.aload_n 0, 1) := by decide +kernel
theorem dX5_readsIn_61 : decode cX5_readsIn 61 = .ok (.getfield 16, 3) := by decide +kernel
theorem dX5_readsIn_64 : decode cX5_readsIn 64 = .ok (.getfield 93, 3) := by decide +kernel
theorem dX5_readsIn_67 : decode cX5_readsIn 67 = .ok (.iload 4, 2) := by decide +kernel
theorem dX5_readsIn_69 : decode cX5_readsIn 69 = .ok (.faload, 1) := by decide +kernel
theorem dX5_readsIn_70 : decode cX5_readsIn 70 = .ok (.invokestatic 101, 3) := by decide +kernel
theorem dX5_readsIn_73 : decode cX5_readsIn 73 = .ok (.iload_n 3, 1) := by decide +kernel
theorem dX5_readsIn_74 : decode cX5_readsIn 74 = .ok (.if_icmp .lt 6, 3) := by decide +kernel
theorem dX5_readsIn_77 : decode cX5_readsIn 77 = .ok (.iload 7, 2) := by decide +kernel
theorem dX5_readsIn_79 : decode cX5_readsIn 79 = .ok (.ireturn, 1) := by decide +kernel
theorem dX5_readsIn_80 : decode cX5_readsIn 80 = .ok (.aload_n 0, 1) := by decide +kernel
theorem dX5_readsIn_81 : decode cX5_readsIn 81 = .ok (.getfield 16, 3) := by decide +kernel
theorem dX5_readsIn_84 : decode cX5_readsIn 84 = .ok (.lload 5, 2) := by decide +kernel
theorem dX5_readsIn_86 : decode cX5_readsIn 86 = .ok (.invokevirtual 209, 3) := by decide +kernel
theorem dX5_readsIn_89 : decode cX5_readsIn 89 = .ok (.iinc 7 1, 3) := by decide +kernel
theorem dX5_readsIn_92 : decode cX5_readsIn 92 = .ok (.goto (-40), 3) := by decide +kernel
theorem dX5_readsIn_95 : decode cX5_readsIn 95 = .ok (.bipush (-6), 2) := by decide +kernel
theorem dX5_readsIn_97 : decode cX5_readsIn 97 = .ok (.ireturn, 1) := by decide +kernel
set_option maxRecDepth 20000 in
theorem ggX5_wouldRead_X5_placeOf : GoodIn wsX5_wouldRead wsX5_placeOf := goodIn_r _ [6] (by decide +kernel) (by decide +kernel)
set_option maxRecDepth 20000 in
theorem gX5_wouldRead_X5_placeOf : GoodIn wsX5_wouldRead (va_wsS RX5 86 yX5_placeOf wsX5_placeOf) := goodIn_app (goodIn_of _ (by decide +kernel)) ggX5_wouldRead_X5_placeOf
set_option maxRecDepth 20000 in
theorem ggX5_wouldRead_X0_isSuspect : GoodIn wsX5_wouldRead wsX0_isSuspect := goodIn_r _ [10, 11, 12, 5, 13, 14, 15, 16, 8, 17, 18, 55, 56, 57, 58, 59, 60, 61, 62, 63, 64, 65, 66, 67] (by decide +kernel) (by decide +kernel)
set_option maxRecDepth 20000 in
theorem gX5_wouldRead_X0_isSuspect_n104 : GoodIn wsX5_wouldRead (wsX0_isSuspect) := ggX5_wouldRead_X0_isSuspect
set_option maxRecDepth 20000 in
theorem ggX5_wouldRead_X4_readBy : GoodIn wsX5_wouldRead wsX4_readBy := goodIn_r _ [22, 23, 24, 25, 26, 27, 28, 29, 30, 31, 32, 33, 34, 35, 36, 37, 38, 39, 5, 40, 41, 42, 43, 44, 45, 46, 47, 68, 69, 55, 56, 57, 58, 59, 60, 61, 62, 63, 64, 65, 66, 67, 70, 71, 72] (by decide +kernel) (by decide +kernel)
set_option maxRecDepth 20000 in
theorem gX5_wouldRead_X4_readBy_n213 : GoodIn wsX5_wouldRead (wsX4_readBy) := ggX5_wouldRead_X4_readBy
theorem dX5_wouldRead_0 : decode cX5_wouldRead 0 = .ok (.iload_n 1, 1) := by decide +kernel
theorem dX5_wouldRead_1 : decode cX5_wouldRead 1 = .ok (.iload_n 2, 1) := by decide +kernel
theorem dX5_wouldRead_2 : decode cX5_wouldRead 2 = .ok (.invokestatic 86, 3) := by decide +kernel
theorem dX5_wouldRead_5 : decode cX5_wouldRead 5 = .ok (.istore 5, 2) := by decide +kernel
theorem dX5_wouldRead_7 : decode cX5_wouldRead 7 = .ok (.iload_n 3, 1) := by decide +kernel
theorem dX5_wouldRead_8 : decode cX5_wouldRead 8 = .ok (.iload 4, 2) := by decide +kernel
theorem dX5_wouldRead_10 : decode cX5_wouldRead 10 = .ok (.invokestatic 86, 3) := by decide +kernel
theorem dX5_wouldRead_13 : decode cX5_wouldRead 13 = .ok (.istore 6, 2) := by decide +kernel
theorem dX5_wouldRead_15 : decode cX5_wouldRead 15 = .ok (.iload 5, 2) := by decide +kernel
theorem dX5_wouldRead_17 : decode cX5_wouldRead 17 = .ok (.ifCond .lt 20, 3) := by decide +kernel
theorem dX5_wouldRead_20 : decode cX5_wouldRead 20 = .ok (.iload 6, 2) := by decide +kernel
theorem dX5_wouldRead_22 : decode cX5_wouldRead 22 = .ok (.ifCond .lt 15, 3) := by decide +kernel
theorem dX5_wouldRead_25 : decode cX5_wouldRead 25 = .ok (.aload_n 0, 1) := by decide +kernel
theorem dX5_wouldRead_26 : decode cX5_wouldRead 26 = .ok (.getfield 10, 3) := by decide +kernel
theorem dX5_wouldRead_29 : decode cX5_wouldRead 29 = .ok (.iload 6, 2) := by decide +kernel
theorem dX5_wouldRead_31 : decode cX5_wouldRead 31 = .ok (.invokevirtual 104, 3) := by decide +kernel
theorem dX5_wouldRead_34 : decode cX5_wouldRead 34 = .ok (.ifCond .ne 5, 3) := by decide +kernel
theorem dX5_wouldRead_37 : decode cX5_wouldRead 37 = .ok (.iconst (-1), 1) := by decide +kernel
theorem dX5_wouldRead_38 : decode cX5_wouldRead 38 = .ok (.ireturn, 1) := by decide +kernel
theorem dX5_wouldRead_39 : decode cX5_wouldRead 39 = .ok (.aload_n 0, 1) := by decide +kernel
theorem dX5_wouldRead_40 : decode cX5_wouldRead 40 = .ok (.getfield 22, 3) := by decide +kernel
theorem dX5_wouldRead_43 : decode cX5_wouldRead 43 = .ok (.aload_n 0, 1) := by decide +kernel
theorem dX5_wouldRead_44 : decode cX5_wouldRead 44 = .ok (.getfield 10, 3) := by decide +kernel
theorem dX5_wouldRead_47 : decode cX5_wouldRead 47 = .ok (.iload 6, 2) := by decide +kernel
theorem dX5_wouldRead_49 : decode cX5_wouldRead 49 = .ok (.iload 5, 2) := by decide +kernel
theorem dX5_wouldRead_51 : decode cX5_wouldRead 51 = .ok (.invokevirtual 213, 3) := by decide +kernel
theorem dX5_wouldRead_54 : decode cX5_wouldRead 54 = .ok (.ireturn, 1) := by decide +kernel
set_option maxRecDepth 20000 in
theorem ggX5_put_X2_append : GoodIn wsX5_put wsX2_append := goodIn_r _ [5, 6, 7, 8, 9, 10, 18, 19] (by decide +kernel) (by decide +kernel)
set_option maxRecDepth 20000 in
theorem gX5_put_X2_append_n217 : GoodIn wsX5_put (wsX2_append) := ggX5_put_X2_append
theorem dX5_put_0 : decode cX5_put 0 = .ok (.aload_n 0, 1) := by decide +kernel
theorem dX5_put_1 : decode cX5_put 1 = .ok (.getfield 36, 3) := by decide +kernel
theorem dX5_put_4 : decode cX5_put 4 = .ok (.lload_n 1, 1) := by decide +kernel
theorem dX5_put_5 : decode cX5_put 5 = .ok (.invokevirtual 217, 3) := by decide +kernel
theorem dX5_put_8 : decode cX5_put 8 = .ok (.ireturn, 1) := by decide +kernel
set_option maxRecDepth 20000 in
theorem ggX5_wipe_X2_clear : GoodIn wsX5_wipe wsX2_clear := goodIn_r _ [5, 6, 14, 15] (by decide +kernel) (by decide +kernel)
set_option maxRecDepth 20000 in
theorem gX5_wipe_X2_clear_n220 : GoodIn wsX5_wipe (wsX2_clear) := ggX5_wipe_X2_clear
theorem dX5_wipe_0 : decode cX5_wipe 0 = .ok (.aload_n 0, 1) := by decide +kernel
theorem dX5_wipe_1 : decode cX5_wipe 1 = .ok (.getfield 36, 3) := by decide +kernel
theorem dX5_wipe_4 : decode cX5_wipe 4 = .ok (.invokevirtual 220, 3) := by decide +kernel
theorem dX5_wipe_7 : decode cX5_wipe 7 = .ok (.ireturn, 1) := by decide +kernel
set_option maxRecDepth 20000 in
theorem ggX5_fault_X2_firstFault : GoodIn wsX5_fault wsX2_firstFault := goodIn_r _ [5, 6, 7, 8, 9, 3, 10, 11, 12, 13, 14, 15, 16, 17, 18, 19, 20, 21, 22, 23, 24, 25, 26, 27, 28, 29, 30, 31, 32, 33, 34, 35, 36, 37, 38, 39, 40, 41, 42, 43, 44, 45, 46, 47, 48, 49, 50, 51, 52, 53, 54, 55, 56, 57, 58, 59, 60, 61, 62, 63, 64, 65, 66, 67, 68, 69, 70, 71, 72, 73, 74, 75, 76, 77, 78, 79, 80, 81, 82, 83, 84, 92, 93] (by decide +kernel) (by decide +kernel)
set_option maxRecDepth 20000 in
theorem gX5_fault_X2_firstFault_n223 : GoodIn wsX5_fault (wsX2_firstFault) := ggX5_fault_X2_firstFault
theorem dX5_fault_0 : decode cX5_fault 0 = .ok (.aload_n 0, 1) := by decide +kernel
theorem dX5_fault_1 : decode cX5_fault 1 = .ok (.getfield 36, 3) := by decide +kernel
theorem dX5_fault_4 : decode cX5_fault 4 = .ok (.invokevirtual 223, 3) := by decide +kernel
theorem dX5_fault_7 : decode cX5_fault 7 = .ok (.ireturn, 1) := by decide +kernel
set_option maxRecDepth 20000 in
theorem ggX5_carryOut_X2_firstFault : GoodIn wsX5_carryOut wsX2_firstFault := goodIn_r _ [7, 8, 9, 10, 11, 5, 12, 13, 14, 15, 16, 17, 18, 19, 20, 21, 22, 23, 24, 25, 26, 27, 28, 29, 30, 31, 32, 33, 34, 35, 36, 37, 38, 39, 40, 41, 42, 43, 44, 45, 46, 47, 48, 49, 50, 51, 52, 53, 54, 55, 56, 57, 58, 59, 60, 61, 62, 63, 64, 65, 66, 67, 68, 69, 70, 71, 72, 73, 74, 75, 76, 77, 78, 79, 80, 81, 82, 83, 84, 85, 86, 217, 218] (by decide +kernel) (by decide +kernel)
set_option maxRecDepth 20000 in
theorem gX5_carryOut_X2_firstFault_n223 : GoodIn wsX5_carryOut (wsX2_firstFault) := ggX5_carryOut_X2_firstFault
set_option maxRecDepth 20000 in
theorem ggX5_carryOut_X3_prepare : GoodIn wsX5_carryOut wsX3_prepare := goodIn_r _ [90, 91, 92, 93, 94, 95, 96, 97, 98, 99, 100, 101, 102, 103, 104, 105, 106, 107, 108, 109, 110, 111, 112, 219, 220, 221, 222, 223, 224, 225, 226, 227, 228, 229, 230, 231, 232, 233] (by decide +kernel) (by decide +kernel)
set_option maxRecDepth 20000 in
theorem gX5_carryOut_X3_prepare_n48 : GoodIn wsX5_carryOut (wsX3_prepare) := ggX5_carryOut_X3_prepare
set_option maxRecDepth 20000 in
theorem ggX5_carryOut_X5_carriedOut : GoodIn wsX5_carryOut wsX5_carriedOut := goodIn_r _ [117, 1, 10, 5, 11, 12, 13, 14, 15, 16, 8, 17, 18, 19, 20, 21, 22, 23, 24, 25, 26, 27, 28, 29, 30, 31, 32, 33, 34, 35, 36, 37, 38, 39, 40, 41, 42, 43, 44, 45, 46, 47, 48, 49, 50, 51, 52, 53, 54, 55, 56, 57, 58, 59, 60, 61, 62, 63, 64, 65, 66, 67, 68, 69, 70, 71, 72, 73, 74, 75, 76, 77, 78, 79, 80, 81, 82, 83, 84, 85, 86, 118, 119, 120, 121, 122, 123, 116, 124, 3, 125, 126, 127, 128, 129, 130, 131, 94, 132, 133, 102, 134, 135, 136, 137, 138, 139, 140, 141, 104, 105, 106, 142, 143, 144, 145, 146, 147, 148, 149, 150, 107, 109, 108, 151, 152, 153, 103, 154, 155, 156, 157, 158, 159, 160, 161, 162, 163, 164, 165, 166, 167, 168, 169, 170, 171, 172, 173, 174, 175, 176, 177, 178, 179, 180, 181, 182, 183, 184, 185, 186, 187, 188, 189, 190, 191, 97, 98, 99, 100, 101, 192, 193, 194, 195, 196, 197, 198, 199, 200, 110, 111, 112, 201, 202, 203, 210, 211, 212, 213, 214, 215, 216, 217, 218, 221, 222, 223, 224, 225, 226, 227, 228, 229, 230, 231, 232, 233] (by decide +kernel) (by decide +kernel)
set_option maxRecDepth 20000 in
theorem gX5_carryOut_X5_carriedOut : GoodIn wsX5_carryOut (wsV RX5 226 RX5 yX5_carriedOut wsX5_carriedOut) := goodIn_app (goodIn_of _ (by decide +kernel)) ggX5_carryOut_X5_carriedOut
set_option maxRecDepth 20000 in
theorem ggX5_carryOut_X2_clear : GoodIn wsX5_carryOut wsX2_clear := goodIn_r _ [206, 8, 217, 218] (by decide +kernel) (by decide +kernel)
set_option maxRecDepth 20000 in
theorem gX5_carryOut_X2_clear_n220 : GoodIn wsX5_carryOut (wsX2_clear) := ggX5_carryOut_X2_clear
set_option maxRecDepth 20000 in
theorem ggX5_carryOut_X3_kept : GoodIn wsX5_carryOut wsX3_kept := goodIn_r _ [209, 92, 91, 219, 220] (by decide +kernel) (by decide +kernel)
set_option maxRecDepth 20000 in
theorem gX5_carryOut_X3_kept_n56 : GoodIn wsX5_carryOut (wsX3_kept) := ggX5_carryOut_X3_kept
theorem dX5_carryOut_0 : decode cX5_carryOut 0 = .ok (.aload_n 0, 1) := by decide +kernel
theorem dX5_carryOut_1 : decode cX5_carryOut 1 = .ok (.getfield 36, 3) := by decide +kernel
theorem dX5_carryOut_4 : decode cX5_carryOut 4 = .ok (.invokevirtual 223, 3) := by decide +kernel
theorem dX5_carryOut_7 : decode cX5_carryOut 7 = .ok (.bipush (-6), 2) := by decide +kernel
theorem dX5_carryOut_9 : decode cX5_carryOut 9 = .ok (.if_icmp .eq 6, 3) := by decide +kernel
theorem dX5_carryOut_12 : decode cX5_carryOut 12 = .ok (.bipush (-3), 2) := by decide +kernel
theorem dX5_carryOut_14 : decode cX5_carryOut 14 = .ok (.ireturn, 1) := by decide +kernel
theorem dX5_carryOut_15 : decode cX5_carryOut 15 = .ok (.aload_n 0, 1) := by decide +kernel
theorem dX5_carryOut_16 : decode cX5_carryOut 16 = .ok (.getfield 29, 3) := by decide +kernel
theorem dX5_carryOut_19 : decode cX5_carryOut 19 = .ok (.aload_n 0, 1) := by decide +kernel
theorem dX5_carryOut_20 : decode cX5_carryOut 20 = .ok (.getfield 10, 3) := by decide +kernel
theorem dX5_carryOut_23 : decode cX5_carryOut 23 = .ok (.invokevirtual 48, 3) := by decide +kernel
theorem dX5_carryOut_26 : decode cX5_carryOut 26 = .ok (.aload_n 0, 1) := by decide +kernel
theorem dX5_carryOut_27 : decode cX5_carryOut 27 = .ok (.invokevirtual 226, 3) := by decide +kernel
theorem dX5_carryOut_30 : decode cX5_carryOut 30 = .ok (.istore_n 1, 1) := by decide +kernel
theorem dX5_carryOut_31 : decode cX5_carryOut 31 = .ok (.aload_n 0, 1) := by decide +kernel
theorem dX5_carryOut_32 : decode cX5_carryOut 32 = .ok (.getfield 36, 3) := by decide +kernel
theorem dX5_carryOut_35 : decode cX5_carryOut 35 = .ok (.invokevirtual 220, 3) := by decide +kernel
theorem dX5_carryOut_38 : decode cX5_carryOut 38 = .ok (.pop, 1) := by decide +kernel
theorem dX5_carryOut_39 : decode cX5_carryOut 39 = .ok (.aload_n 0, 1) := by decide +kernel
theorem dX5_carryOut_40 : decode cX5_carryOut 40 = .ok (.getfield 29, 3) := by decide +kernel
theorem dX5_carryOut_43 : decode cX5_carryOut 43 = .ok (.iload_n 1, 1) := by decide +kernel
theorem dX5_carryOut_44 : decode cX5_carryOut 44 = .ok (.invokevirtual 56, 3) := by decide +kernel
theorem dX5_carryOut_47 : decode cX5_carryOut 47 = .ok (.ireturn, 1) := by decide +kernel
set_option maxRecDepth 20000 in
theorem ggX5_undo_X3_goBack : GoodIn wsX5_undo wsX3_goBack := goodIn_r _ [6, 7, 8, 9, 10, 11, 12, 13, 14, 15, 16, 17, 18, 19, 20, 21, 22, 23, 24, 25, 26, 27, 28, 36, 37, 38, 39, 40, 41, 42, 43, 44, 45, 46, 47, 48, 49, 50] (by decide +kernel) (by decide +kernel)
set_option maxRecDepth 20000 in
theorem gX5_undo_X3_goBack_n229 : GoodIn wsX5_undo (wsX3_goBack) := ggX5_undo_X3_goBack
theorem dX5_undo_0 : decode cX5_undo 0 = .ok (.aload_n 0, 1) := by decide +kernel
theorem dX5_undo_1 : decode cX5_undo 1 = .ok (.getfield 29, 3) := by decide +kernel
theorem dX5_undo_4 : decode cX5_undo 4 = .ok (.aload_n 0, 1) := by decide +kernel
theorem dX5_undo_5 : decode cX5_undo 5 = .ok (.getfield 10, 3) := by decide +kernel
theorem dX5_undo_8 : decode cX5_undo 8 = .ok (.invokevirtual 229, 3) := by decide +kernel
theorem dX5_undo_11 : decode cX5_undo 11 = .ok (.ireturn, 1) := by decide +kernel
set_option maxRecDepth 20000 in
theorem ggX5_save_X0_takeOver : GoodIn wsX5_save wsX0_takeOver := goodIn_r _ [7, 8, 9, 10, 11, 12, 13, 14, 15, 16, 17, 18, 19, 20, 21, 22, 23, 31, 32, 33, 34, 35, 36, 37, 38, 39, 40, 41, 42, 43] (by decide +kernel) (by decide +kernel)
set_option maxRecDepth 20000 in
theorem gX5_save_X0_takeOver_n206 : GoodIn wsX5_save (wsX0_takeOver) := ggX5_save_X0_takeOver
theorem dX5_save_0 : decode cX5_save 0 = .ok (.iload_n 1, 1) := by decide +kernel
theorem dX5_save_1 : decode cX5_save 1 = .ok (.ifCond .lt 8, 3) := by decide +kernel
theorem dX5_save_4 : decode cX5_save 4 = .ok (.iload_n 1, 1) := by decide +kernel
theorem dX5_save_5 : decode cX5_save 5 = .ok (.iconst 2, 1) := by decide +kernel
theorem dX5_save_6 : decode cX5_save 6 = .ok (.if_icmp .lt 6, 3) := by decide +kernel
theorem dX5_save_9 : decode cX5_save 9 = .ok (.bipush (-2), 2) := by decide +kernel
theorem dX5_save_11 : decode cX5_save 11 = .ok (.ireturn, 1) := by decide +kernel
theorem dX5_save_12 : decode cX5_save 12 = .ok (.aload_n 0, 1) := by decide +kernel
theorem dX5_save_13 : decode cX5_save 13 = .ok (.getfield 40, 3) := by decide +kernel
theorem dX5_save_16 : decode cX5_save 16 = .ok (.iload_n 1, 1) := by decide +kernel
theorem dX5_save_17 : decode cX5_save 17 = .ok (.aaload, 1) := by decide +kernel
theorem dX5_save_18 : decode cX5_save 18 = .ok (.aload_n 0, 1) := by decide +kernel
theorem dX5_save_19 : decode cX5_save 19 = .ok (.getfield 10, 3) := by decide +kernel
theorem dX5_save_22 : decode cX5_save 22 = .ok (.invokevirtual 206, 3) := by decide +kernel
theorem dX5_save_25 : decode cX5_save 25 = .ok (.aload_n 0, 1) := by decide +kernel
theorem dX5_save_26 : decode cX5_save 26 = .ok (.getfield 44, 3) := by decide +kernel
theorem dX5_save_29 : decode cX5_save 29 = .ok (.iload_n 1, 1) := by decide +kernel
theorem dX5_save_30 : decode cX5_save 30 = .ok (.iconst 1, 1) := by decide +kernel
theorem dX5_save_31 : decode cX5_save 31 = .ok (.bastore, 1) := by decide +kernel
theorem dX5_save_32 : decode cX5_save 32 = .ok (.aload_n 0, 1) := by decide +kernel
theorem dX5_save_33 : decode cX5_save 33 = .ok (.getfield 10, 3) := by decide +kernel
theorem dX5_save_36 : decode cX5_save 36 = .ok (.getfield 133, 3) := by decide +kernel
theorem dX5_save_39 : decode cX5_save 39 = .ok (.ireturn, 1) := by decide +kernel
set_option maxRecDepth 20000 in
theorem ggX5_restore_X3_prepare : GoodIn wsX5_restore wsX3_prepare := goodIn_r _ [8, 9, 10, 11, 12, 13, 14, 15, 16, 17, 18, 19, 20, 21, 22, 23, 24, 25, 26, 27, 28, 29, 30, 54, 55, 41, 42, 43, 44, 45, 46, 47, 48, 49, 50, 51, 52, 53] (by decide +kernel) (by decide +kernel)
set_option maxRecDepth 20000 in
theorem gX5_restore_X3_prepare_n48 : GoodIn wsX5_restore (wsX3_prepare) := ggX5_restore_X3_prepare
set_option maxRecDepth 20000 in
theorem ggX5_restore_X0_takeOver : GoodIn wsX5_restore wsX0_takeOver := goodIn_r _ [14, 15, 16, 17, 18, 19, 20, 21, 22, 23, 24, 25, 26, 27, 28, 29, 30, 41, 42, 43, 44, 45, 46, 47, 48, 49, 50, 51, 52, 53] (by decide +kernel) (by decide +kernel)
set_option maxRecDepth 20000 in
theorem gX5_restore_X0_takeOver_n206 : GoodIn wsX5_restore (wsX0_takeOver) := ggX5_restore_X0_takeOver
set_option maxRecDepth 20000 in
theorem ggX5_restore_X3_kept : GoodIn wsX5_restore wsX3_kept := goodIn_r _ [33, 10, 9, 54, 55] (by decide +kernel) (by decide +kernel)
set_option maxRecDepth 20000 in
theorem gX5_restore_X3_kept_n56 : GoodIn wsX5_restore (wsX3_kept) := ggX5_restore_X3_kept
theorem dX5_restore_0 : decode cX5_restore 0 = .ok (.iload_n 1, 1) := by decide +kernel
theorem dX5_restore_1 : decode cX5_restore 1 = .ok (.ifCond .lt 8, 3) := by decide +kernel
theorem dX5_restore_4 : decode cX5_restore 4 = .ok (.iload_n 1, 1) := by decide +kernel
theorem dX5_restore_5 : decode cX5_restore 5 = .ok (.iconst 2, 1) := by decide +kernel
theorem dX5_restore_6 : decode cX5_restore 6 = .ok (.if_icmp .lt 6, 3) := by decide +kernel
theorem dX5_restore_9 : decode cX5_restore 9 = .ok (.bipush (-2), 2) := by decide +kernel
theorem dX5_restore_11 : decode cX5_restore 11 = .ok (.ireturn, 1) := by decide +kernel
theorem dX5_restore_12 : decode cX5_restore 12 = .ok (.aload_n 0, 1) := by decide +kernel
theorem dX5_restore_13 : decode cX5_restore 13 = .ok (.getfield 44, 3) := by decide +kernel
theorem dX5_restore_16 : decode cX5_restore 16 = .ok (.iload_n 1, 1) := by decide +kernel
theorem dX5_restore_17 : decode cX5_restore 17 = .ok (.baload, 1) := by decide +kernel
theorem dX5_restore_18 : decode cX5_restore 18 = .ok (.ifCond .ne 6, 3) := by decide +kernel
theorem dX5_restore_21 : decode cX5_restore 21 = .ok (.bipush (-5), 2) := by decide +kernel
theorem dX5_restore_23 : decode cX5_restore 23 = .ok (.ireturn, 1) := by decide +kernel
theorem dX5_restore_24 : decode cX5_restore 24 = .ok (.aload_n 0, 1) := by decide +kernel
theorem dX5_restore_25 : decode cX5_restore 25 = .ok (.getfield 29, 3) := by decide +kernel
theorem dX5_restore_28 : decode cX5_restore 28 = .ok (.aload_n 0, 1) := by decide +kernel
theorem dX5_restore_29 : decode cX5_restore 29 = .ok (.getfield 10, 3) := by decide +kernel
theorem dX5_restore_32 : decode cX5_restore 32 = .ok (.invokevirtual 48, 3) := by decide +kernel
theorem dX5_restore_35 : decode cX5_restore 35 = .ok (.aload_n 0, 1) := by decide +kernel
theorem dX5_restore_36 : decode cX5_restore 36 = .ok (.getfield 10, 3) := by decide +kernel
theorem dX5_restore_39 : decode cX5_restore 39 = .ok (.aload_n 0, 1) := by decide +kernel
theorem dX5_restore_40 : decode cX5_restore 40 = .ok (.getfield 40, 3) := by decide +kernel
theorem dX5_restore_43 : decode cX5_restore 43 = .ok (.iload_n 1, 1) := by decide +kernel
theorem dX5_restore_44 : decode cX5_restore 44 = .ok (.aaload, 1) := by decide +kernel
theorem dX5_restore_45 : decode cX5_restore 45 = .ok (.invokevirtual 206, 3) := by decide +kernel
theorem dX5_restore_48 : decode cX5_restore 48 = .ok (.aload_n 0, 1) := by decide +kernel
theorem dX5_restore_49 : decode cX5_restore 49 = .ok (.getfield 29, 3) := by decide +kernel
theorem dX5_restore_52 : decode cX5_restore 52 = .ok (.aload_n 0, 1) := by decide +kernel
theorem dX5_restore_53 : decode cX5_restore 53 = .ok (.getfield 10, 3) := by decide +kernel
theorem dX5_restore_56 : decode cX5_restore 56 = .ok (.getfield 133, 3) := by decide +kernel
theorem dX5_restore_59 : decode cX5_restore 59 = .ok (.invokevirtual 56, 3) := by decide +kernel
theorem dX5_restore_62 : decode cX5_restore 62 = .ok (.ireturn, 1) := by decide +kernel
set_option maxRecDepth 20000 in
theorem ggX5_carriedOut_X2_endOfOrder : GoodIn wsX5_carriedOut wsX2_endOfOrder := goodIn_r _ [5, 6, 7, 8, 3, 9, 10, 11, 12, 13, 14, 15, 16, 17, 18, 19, 20, 21, 22, 23, 24, 25, 26, 27, 28, 29, 30, 31, 32, 33, 34, 35, 36, 37, 38, 39, 40, 41, 42, 43, 44, 45, 46, 47, 48, 49, 50, 51, 52, 53, 54, 55, 56, 57, 58, 59, 60, 61, 62, 63, 64, 65, 66, 67, 68, 69, 70, 71, 72, 73, 74, 75, 76, 77, 78, 79, 80, 193, 194] (by decide +kernel) (by decide +kernel)
set_option maxRecDepth 20000 in
theorem gX5_carriedOut_X2_endOfOrder_n232 : GoodIn wsX5_carriedOut (wsX2_endOfOrder) := ggX5_carriedOut_X2_endOfOrder
set_option maxRecDepth 20000 in
theorem ggX5_carriedOut_X2_ordersIn : GoodIn wsX5_carriedOut wsX2_ordersIn := goodIn_r _ [83, 6, 7, 8, 3, 9, 10, 11, 193, 194] (by decide +kernel) (by decide +kernel)
set_option maxRecDepth 20000 in
theorem gX5_carriedOut_X2_ordersIn_n235 : GoodIn wsX5_carriedOut (wsX2_ordersIn) := ggX5_carriedOut_X2_ordersIn
set_option maxRecDepth 20000 in
theorem ggX5_carriedOut_X5_answerOf : GoodIn wsX5_carriedOut wsX5_answerOf := goodIn_r _ [88, 1, 89, 7, 3, 8, 9, 10, 11, 90, 91, 92, 6, 93, 94, 95, 96, 97, 98, 99, 100, 101, 87, 102, 103, 104, 105, 106, 107, 108, 109, 110, 111, 112, 113, 114, 115, 116, 117, 118, 119, 120, 121, 122, 123, 124, 125, 126, 127, 128, 129, 130, 131, 132, 133, 134, 135, 136, 137, 138, 139, 140, 141, 142, 143, 144, 145, 146, 147, 148, 149, 150, 151, 152, 153, 154, 155, 156, 157, 158, 159, 160, 161, 162, 163, 164, 165, 166, 167, 168, 169, 170, 171, 172, 173, 174, 175, 176, 177, 178, 179, 180, 181, 182, 183, 184, 185, 186, 187, 188, 189, 190, 191, 192, 193, 194, 195, 196, 197, 198, 199, 200, 201, 202, 203, 204, 205, 206, 207] (by decide +kernel) (by decide +kernel)
set_option maxRecDepth 20000 in
theorem gX5_carriedOut_X5_answerOf : GoodIn wsX5_carriedOut (wsV RX5 238 RX5 yX5_answerOf wsX5_answerOf) := goodIn_app (goodIn_of _ (by decide +kernel)) ggX5_carriedOut_X5_answerOf
theorem dX5_carriedOut_0 : decode cX5_carriedOut 0 = .ok (.iconst 0, 1) := by decide +kernel
theorem dX5_carriedOut_1 : decode cX5_carriedOut 1 = .ok (.istore_n 1, 1) := by decide +kernel
theorem dX5_carriedOut_2 : decode cX5_carriedOut 2 = .ok (.iconst 0, 1) := by decide +kernel
theorem dX5_carriedOut_3 : decode cX5_carriedOut 3 = .ok (.istore_n 2, 1) := by decide +kernel
theorem dX5_carriedOut_4 : decode cX5_carriedOut 4 = .ok (.iconst 0, 1) := by decide +kernel
theorem dX5_carriedOut_5 : decode cX5_carriedOut 5 = .ok (.istore_n 3, 1) := by decide +kernel
theorem dX5_carriedOut_6 : decode cX5_carriedOut 6 = .ok (.iload_n 3, 1) := by decide +kernel
theorem dX5_carriedOut_7 : decode cX5_carriedOut 7 = .ok (.bipush 80, 2) := by decide +kernel
theorem dX5_carriedOut_9 : decode cX5_carriedOut 9 = .ok (.if_icmp .ge 80, 3) := by decide +kernel
theorem dX5_carriedOut_12 : decode cX5_carriedOut 12 = .ok (.iload_n 2, 1) := by decide +kernel
theorem dX5_carriedOut_13 : decode cX5_carriedOut 13 = .ok (.aload_n 0, 1) := by decide +kernel
theorem dX5_carriedOut_14 : decode cX5_carriedOut 14 = .ok (.getfield 36, 3) := by decide +kernel
theorem dX5_carriedOut_17 : decode cX5_carriedOut 17 = .ok (.getfield 190, 3) := by decide +kernel
theorem dX5_carriedOut_20 : decode cX5_carriedOut 20 = .ok (.if_icmp .ge 69, 3) := by decide +kernel
theorem dX5_carriedOut_23 : decode cX5_carriedOut 23 = .ok (.aload_n 0, 1) := by decide +kernel
theorem dX5_carriedOut_24 : decode cX5_carriedOut 24 = .ok (.getfield 36, 3) := by decide +kernel
theorem dX5_carriedOut_27 : decode cX5_carriedOut 27 = .ok (.iload_n 2, 1) := by decide +kernel
theorem dX5_carriedOut_28 : decode cX5_carriedOut 28 = .ok (.invokevirtual 232, 3) := by decide +kernel
theorem dX5_carriedOut_31 : decode cX5_carriedOut 31 = .ok (.istore 4, 2) := by decide +kernel
theorem dX5_carriedOut_33 : decode cX5_carriedOut 33 = .ok (.aload_n 0, 1) := by decide +kernel
theorem dX5_carriedOut_34 : decode cX5_carriedOut 34 = .ok (.getfield 36, 3) := by decide +kernel
theorem dX5_carriedOut_37 : decode cX5_carriedOut 37 = .ok (.iload_n 2, 1) := by decide +kernel
theorem dX5_carriedOut_38 : decode cX5_carriedOut 38 = .ok (.iload 4, 2) := by decide +kernel
theorem dX5_carriedOut_40 : decode cX5_carriedOut 40 = .ok (.invokevirtual 235, 3) := by decide +kernel
theorem dX5_carriedOut_43 : decode cX5_carriedOut 43 = .ok (.istore 5, 2) := by decide +kernel
theorem dX5_carriedOut_45 : decode cX5_carriedOut 45 = .ok (.iconst 0, 1) := by decide +kernel
theorem dX5_carriedOut_46 : decode cX5_carriedOut 46 = .ok (.istore 6, 2) := by decide +kernel
theorem dX5_carriedOut_48 : decode cX5_carriedOut 48 = .ok (.iload 6, 2) := by decide +kernel
theorem dX5_carriedOut_50 : decode cX5_carriedOut 50 = .ok (.iload 5, 2) := by decide +kernel
theorem dX5_carriedOut_52 : decode cX5_carriedOut 52 = .ok (.if_icmp .ge 26, 3) := by decide +kernel
theorem dX5_carriedOut_55 : decode cX5_carriedOut 55 = .ok (.aload_n 0, 1) := by decide +kernel
theorem dX5_carriedOut_56 : decode cX5_carriedOut 56 = .ok (.iload_n 2, 1) := by decide +kernel
theorem dX5_carriedOut_57 : decode cX5_carriedOut 57 = .ok (.iload 4, 2) := by decide +kernel
theorem dX5_carriedOut_59 : decode cX5_carriedOut 59 = .ok (.iload 6, 2) := by decide +kernel
theorem dX5_carriedOut_61 : decode cX5_carriedOut 61 = .ok (.invokevirtual 238, 3) := by decide +kernel
theorem dX5_carriedOut_64 : decode cX5_carriedOut 64 = .ok (.ifCond .ge 5, 3) := by decide +kernel
theorem dX5_carriedOut_67 : decode cX5_carriedOut 67 = .ok (.iload_n 1, 1) := by decide +kernel
theorem dX5_carriedOut_68 : decode cX5_carriedOut 68 = .ok (.ireturn, 1) := by decide +kernel
theorem dX5_carriedOut_69 : decode cX5_carriedOut 69 = .ok (.iinc 1 1, 3) := by decide +kernel
theorem dX5_carriedOut_72 : decode cX5_carriedOut 72 = .ok (.iinc 6 1, 3) := by decide +kernel
theorem dX5_carriedOut_75 : decode cX5_carriedOut 75 = .ok (.goto (-27), 3) := by decide +kernel
theorem dX5_carriedOut_78 : decode cX5_carriedOut 78 = .ok (.iload 4, 2) := by decide +kernel
theorem dX5_carriedOut_80 : decode cX5_carriedOut 80 = .ok (.iconst 1, 1) := by decide +kernel
theorem dX5_carriedOut_81 : decode cX5_carriedOut 81 = .ok (.iadd, 1) := by decide +kernel
theorem dX5_carriedOut_82 : decode cX5_carriedOut 82 = .ok (.istore_n 2, 1) := by decide +kernel
theorem dX5_carriedOut_83 : decode cX5_carriedOut 83 = .ok (.iinc 3 1, 3) := by decide +kernel
theorem dX5_carriedOut_86 : decode cX5_carriedOut 86 = .ok (.goto (-80), 3) := by decide +kernel
theorem dX5_carriedOut_89 : decode cX5_carriedOut 89 = .ok (.iload_n 1, 1) := by decide +kernel
theorem dX5_carriedOut_90 : decode cX5_carriedOut 90 = .ok (.ireturn, 1) := by decide +kernel
set_option maxRecDepth 20000 in
theorem ggX5_answerOf_X2_codeAt : GoodIn wsX5_answerOf wsX2_codeAt := goodIn_r _ [6, 7, 8, 114, 115] (by decide +kernel) (by decide +kernel)
set_option maxRecDepth 20000 in
theorem gX5_answerOf_X2_codeAt_n241 : GoodIn wsX5_answerOf (wsX2_codeAt) := ggX5_answerOf_X2_codeAt
set_option maxRecDepth 20000 in
theorem ggX5_answerOf_X2_digitAt : GoodIn wsX5_answerOf wsX2_digitAt := goodIn_r _ [11, 12, 3, 5, 4, 6, 7, 8, 114, 115] (by decide +kernel) (by decide +kernel)
set_option maxRecDepth 20000 in
theorem gX5_answerOf_X2_digitAt_n244 : GoodIn wsX5_answerOf (wsX2_digitAt) := ggX5_answerOf_X2_digitAt
set_option maxRecDepth 20000 in
theorem ggX5_answerOf_X2_columnAt : GoodIn wsX5_answerOf wsX2_columnAt := goodIn_r _ [15, 12, 3, 5, 4, 6, 7, 8, 114, 115] (by decide +kernel) (by decide +kernel)
set_option maxRecDepth 20000 in
theorem gX5_answerOf_X2_columnAt_n247 : GoodIn wsX5_answerOf (wsX2_columnAt) := ggX5_answerOf_X2_columnAt
set_option maxRecDepth 20000 in
theorem ggX5_answerOf_X0_lay : GoodIn wsX5_answerOf wsX0_lay := goodIn_r _ [19, 20, 21, 22, 23, 24, 25, 26, 27, 28, 17, 29, 30, 31, 32, 33, 34, 35, 36, 37, 38, 39, 40, 41, 42, 43, 44, 116, 117, 118, 119, 120, 121, 122, 123, 124, 125, 126, 127, 128] (by decide +kernel) (by decide +kernel)
set_option maxRecDepth 20000 in
theorem gX5_answerOf_X0_lay_n60 : GoodIn wsX5_answerOf (wsX0_lay) := ggX5_answerOf_X0_lay
set_option maxRecDepth 20000 in
theorem ggX5_answerOf_X0_turnPair : GoodIn wsX5_answerOf wsX0_turnPair := goodIn_r _ [47, 48, 24, 22, 25, 38, 39, 40, 17, 41, 42, 43, 44, 49, 50, 51, 52, 116, 117, 118, 119, 120, 121, 122, 123, 124, 125, 126, 127, 128] (by decide +kernel) (by decide +kernel)
set_option maxRecDepth 20000 in
theorem gX5_answerOf_X0_turnPair_n70 : GoodIn wsX5_answerOf (wsX0_turnPair) := ggX5_answerOf_X0_turnPair
set_option maxRecDepth 20000 in
theorem ggX5_answerOf_X0_join : GoodIn wsX5_answerOf wsX0_join := goodIn_r _ [55, 20, 30, 31, 32, 21, 22, 23, 24, 25, 56, 57, 58, 17, 59, 60, 61, 62, 63, 36, 37, 38, 39, 40, 41, 42, 43, 44, 116, 117, 118, 119, 120, 121, 122, 123, 124, 125, 126, 127, 128] (by decide +kernel) (by decide +kernel)
set_option maxRecDepth 20000 in
theorem gX5_answerOf_X0_join_n64 : GoodIn wsX5_answerOf (wsX0_join) := ggX5_answerOf_X0_join
set_option maxRecDepth 20000 in
theorem ggX5_answerOf_X0_part : GoodIn wsX5_answerOf wsX0_part := goodIn_r _ [66, 30, 31, 32, 38, 39, 40, 17, 41, 42, 43, 44, 116, 117, 118, 119, 120, 121, 122, 123, 124, 125, 126, 127, 128] (by decide +kernel) (by decide +kernel)
set_option maxRecDepth 20000 in
theorem gX5_answerOf_X0_part_n67 : GoodIn wsX5_answerOf (wsX0_part) := ggX5_answerOf_X0_part
set_option maxRecDepth 20000 in
theorem ggX5_answerOf_X2_numberIn : GoodIn wsX5_answerOf wsX2_numberIn := goodIn_r _ [69, 70, 9, 10, 4, 11, 12, 3, 5, 6, 7, 8, 114, 115] (by decide +kernel) (by decide +kernel)
set_option maxRecDepth 20000 in
theorem gX5_answerOf_X2_numberIn_n250 : GoodIn wsX5_answerOf (wsX2_numberIn) := ggX5_answerOf_X2_numberIn
set_option maxRecDepth 20000 in
theorem ggX5_answerOf_X0_letPass : GoodIn wsX5_answerOf wsX0_letPass := goodIn_r _ [73, 42, 74, 75, 76, 17, 77, 30, 31, 78, 79, 80, 81, 20, 32, 49, 50, 51, 52, 48, 82, 83, 84, 85, 44, 86, 87, 88, 89, 90, 91, 92, 22, 93, 94, 95, 96, 97, 116, 117, 118, 119, 120, 121, 122, 123, 124, 125, 126, 127, 128] (by decide +kernel) (by decide +kernel)
set_option maxRecDepth 20000 in
theorem gX5_answerOf_X0_letPass_n80 : GoodIn wsX5_answerOf (wsX0_letPass) := ggX5_answerOf_X0_letPass
set_option maxRecDepth 20000 in
theorem ggX5_answerOf_X0_measure : GoodIn wsX5_answerOf wsX0_measure := goodIn_r _ [100, 43, 44, 101, 102, 103, 42, 21, 22, 23, 104, 105, 106, 116, 117, 118, 119, 120, 121, 122, 123, 124, 125, 126, 127, 128] (by decide +kernel) (by decide +kernel)
set_option maxRecDepth 20000 in
theorem gX5_answerOf_X0_measure_n83 : GoodIn wsX5_answerOf (wsX0_measure) := ggX5_answerOf_X0_measure
theorem dX5_answerOf_0 : decode cX5_answerOf 0 = .ok (.aload_n 0, 1) := by decide +kernel
theorem dX5_answerOf_1 : decode cX5_answerOf 1 = .ok (.getfield 36, 3) := by decide +kernel
theorem dX5_answerOf_4 : decode cX5_answerOf 4 = .ok (.iload_n 1, 1) := by decide +kernel
theorem dX5_answerOf_5 : decode cX5_answerOf 5 = .ok (.invokevirtual 241, 3) := by decide +kernel
theorem dX5_answerOf_8 : decode cX5_answerOf 8 = .ok (.lookupswitch 202 #[(102, 99), (109, 165), (115, 127), (116, 52), (119, 183)], 52) := by decide +kernel
theorem dX5_answerOf_60 : decode cX5_answerOf 60 = .ok (.iload_n 1, 1) := by decide +kernel
theorem dX5_answerOf_61 : decode cX5_answerOf 61 = .ok (.iconst 2, 1) := by decide +kernel
theorem dX5_answerOf_62 : decode cX5_answerOf 62 = .ok (.iadd, 1) := by decide +kernel
theorem dX5_answerOf_63 : decode cX5_answerOf 63 = .ok (.iconst 2, 1) := by decide +kernel
theorem dX5_answerOf_64 : decode cX5_answerOf 64 = .ok (.iload_n 3, 1) := by decide +kernel
theorem dX5_answerOf_65 : decode cX5_answerOf 65 = .ok (.imul, 1) := by decide +kernel
theorem dX5_answerOf_66 : decode cX5_answerOf 66 = .ok (.iadd, 1) := by decide +kernel
theorem dX5_answerOf_67 : decode cX5_answerOf 67 = .ok (.istore 4, 2) := by decide +kernel
theorem dX5_answerOf_69 : decode cX5_answerOf 69 = .ok (.aload_n 0, 1) := by decide +kernel
theorem dX5_answerOf_70 : decode cX5_answerOf 70 = .ok (.getfield 10, 3) := by decide +kernel
theorem dX5_answerOf_73 : decode cX5_answerOf 73 = .ok (.aload_n 0, 1) := by decide +kernel
theorem dX5_answerOf_74 : decode cX5_answerOf 74 = .ok (.getfield 36, 3) := by decide +kernel
theorem dX5_answerOf_77 : decode cX5_answerOf 77 = .ok (.iload 4, 2) := by decide +kernel
theorem dX5_answerOf_79 : decode cX5_answerOf 79 = .ok (.iconst 1, 1) := by decide +kernel
theorem dX5_answerOf_80 : decode cX5_answerOf 80 = .ok (.iadd, 1) := by decide +kernel
theorem dX5_answerOf_81 : decode cX5_answerOf 81 = .ok (.invokevirtual 244, 3) := by decide +kernel
theorem dX5_answerOf_84 : decode cX5_answerOf 84 = .ok (.aload_n 0, 1) := by decide +kernel
theorem dX5_answerOf_85 : decode cX5_answerOf 85 = .ok (.getfield 36, 3) := by decide +kernel
theorem dX5_answerOf_88 : decode cX5_answerOf 88 = .ok (.iload 4, 2) := by decide +kernel
theorem dX5_answerOf_90 : decode cX5_answerOf 90 = .ok (.invokevirtual 247, 3) := by decide +kernel
theorem dX5_answerOf_93 : decode cX5_answerOf 93 = .ok (.aload_n 0, 1) := by decide +kernel
theorem dX5_answerOf_94 : decode cX5_answerOf 94 = .ok (.getfield 36, 3) := by decide +kernel
theorem dX5_answerOf_97 : decode cX5_answerOf 97 = .ok (.iload_n 1, 1) := by decide +kernel
theorem dX5_answerOf_98 : decode cX5_answerOf 98 = .ok (.iconst 1, 1) := by decide +kernel
theorem dX5_answerOf_99 : decode cX5_answerOf 99 = .ok (.iadd, 1) := by decide +kernel
theorem dX5_answerOf_100 : decode cX5_answerOf 100 = .ok (.invokevirtual 244, 3) := by decide +kernel
theorem dX5_answerOf_103 : decode cX5_answerOf 103 = .ok (.invokevirtual 60, 3) := by decide +kernel
theorem dX5_answerOf_106 : decode cX5_answerOf 106 = .ok (.ireturn, 1) := by decide +kernel
theorem dX5_answerOf_107 : decode cX5_answerOf 107 = .ok (.aload_n 0, 1) := by decide +kernel
theorem dX5_answerOf_108 : decode cX5_answerOf 108 = .ok (.getfield 10, 3) := by decide +kernel
theorem dX5_answerOf_111 : decode cX5_answerOf 111 = .ok (.aload_n 0, 1) := by decide +kernel
theorem dX5_answerOf_112 : decode cX5_answerOf 112 = .ok (.getfield 36, 3) := by decide +kernel
theorem dX5_answerOf_115 : decode cX5_answerOf 115 = .ok (.iload_n 1, 1) := by decide +kernel
theorem dX5_answerOf_116 : decode cX5_answerOf 116 = .ok (.iconst 1, 1) := by decide +kernel
theorem dX5_answerOf_117 : decode cX5_answerOf 117 = .ok (.iadd, 1) := by decide +kernel
theorem dX5_answerOf_118 : decode cX5_answerOf 118 = .ok (.invokevirtual 244, 3) := by decide +kernel
theorem dX5_answerOf_121 : decode cX5_answerOf 121 = .ok (.aload_n 0, 1) := by decide +kernel
theorem dX5_answerOf_122 : decode cX5_answerOf 122 = .ok (.getfield 36, 3) := by decide +kernel
theorem dX5_answerOf_125 : decode cX5_answerOf 125 = .ok (.iload_n 1, 1) := by decide +kernel
theorem dX5_answerOf_126 : decode cX5_answerOf 126 = .ok (.iconst 2, 1) := by decide +kernel
theorem dX5_answerOf_127 : decode cX5_answerOf 127 = .ok (.iadd, 1) := by decide +kernel
theorem dX5_answerOf_128 : decode cX5_answerOf 128 = .ok (.invokevirtual 244, 3) := by decide +kernel
theorem dX5_answerOf_131 : decode cX5_answerOf 131 = .ok (.invokevirtual 70, 3) := by decide +kernel
theorem dX5_answerOf_134 : decode cX5_answerOf 134 = .ok (.ireturn, 1) := by decide +kernel
theorem dX5_answerOf_135 : decode cX5_answerOf 135 = .ok (.aload_n 0, 1) := by decide +kernel
theorem dX5_answerOf_136 : decode cX5_answerOf 136 = .ok (.getfield 10, 3) := by decide +kernel
theorem dX5_answerOf_139 : decode cX5_answerOf 139 = .ok (.aload_n 0, 1) := by decide +kernel
theorem dX5_answerOf_140 : decode cX5_answerOf 140 = .ok (.getfield 36, 3) := by decide +kernel
theorem dX5_answerOf_143 : decode cX5_answerOf 143 = .ok (.iload_n 1, 1) := by decide +kernel
theorem dX5_answerOf_144 : decode cX5_answerOf 144 = .ok (.iconst 2, 1) := by decide +kernel
theorem dX5_answerOf_145 : decode cX5_answerOf 145 = .ok (.iadd, 1) := by decide +kernel
theorem dX5_answerOf_146 : decode cX5_answerOf 146 = .ok (.invokevirtual 244, 3) := by decide +kernel
theorem dX5_answerOf_149 : decode cX5_answerOf 149 = .ok (.aload_n 0, 1) := by decide +kernel
theorem dX5_answerOf_150 : decode cX5_answerOf 150 = .ok (.getfield 36, 3) := by decide +kernel
theorem dX5_answerOf_153 : decode cX5_answerOf 153 = .ok (.iload_n 1, 1) := by decide +kernel
theorem dX5_answerOf_154 : decode cX5_answerOf 154 = .ok (.iconst 1, 1) := by decide +kernel
theorem dX5_answerOf_155 : decode cX5_answerOf 155 = .ok (.iadd, 1) := by decide +kernel
theorem dX5_answerOf_156 : decode cX5_answerOf 156 = .ok (.invokevirtual 247, 3) := by decide +kernel
theorem dX5_answerOf_159 : decode cX5_answerOf 159 = .ok (.aload_n 0, 1) := by decide +kernel
theorem dX5_answerOf_160 : decode cX5_answerOf 160 = .ok (.getfield 36, 3) := by decide +kernel
theorem dX5_answerOf_163 : decode cX5_answerOf 163 = .ok (.iload_n 1, 1) := by decide +kernel
theorem dX5_answerOf_164 : decode cX5_answerOf 164 = .ok (.iconst 4, 1) := by decide +kernel
theorem dX5_answerOf_165 : decode cX5_answerOf 165 = .ok (.iadd, 1) := by decide +kernel
theorem dX5_answerOf_166 : decode cX5_answerOf 166 = .ok (.invokevirtual 244, 3) := by decide +kernel
theorem dX5_answerOf_169 : decode cX5_answerOf 169 = .ok (.invokevirtual 64, 3) := by decide +kernel
theorem dX5_answerOf_172 : decode cX5_answerOf 172 = .ok (.ireturn, 1) := by decide +kernel
theorem dX5_answerOf_173 : decode cX5_answerOf 173 = .ok (.aload_n 0, 1) := by decide +kernel
theorem dX5_answerOf_174 : decode cX5_answerOf 174 = .ok (.getfield 10, 3) := by decide +kernel
theorem dX5_answerOf_177 : decode cX5_answerOf 177 = .ok (.aload_n 0, 1) := by decide +kernel
theorem dX5_answerOf_178 : decode cX5_answerOf 178 = .ok (.getfield 36, 3) := by decide +kernel
theorem dX5_answerOf_181 : decode cX5_answerOf 181 = .ok (.iload_n 1, 1) := by decide +kernel
theorem dX5_answerOf_182 : decode cX5_answerOf 182 = .ok (.iconst 1, 1) := by decide +kernel
theorem dX5_answerOf_183 : decode cX5_answerOf 183 = .ok (.iadd, 1) := by decide +kernel
theorem dX5_answerOf_184 : decode cX5_answerOf 184 = .ok (.invokevirtual 244, 3) := by decide +kernel
theorem dX5_answerOf_187 : decode cX5_answerOf 187 = .ok (.invokevirtual 67, 3) := by decide +kernel
theorem dX5_answerOf_190 : decode cX5_answerOf 190 = .ok (.ireturn, 1) := by decide +kernel
theorem dX5_answerOf_191 : decode cX5_answerOf 191 = .ok (.aload_n 0, 1) := by decide +kernel
theorem dX5_answerOf_192 : decode cX5_answerOf 192 = .ok (.getfield 10, 3) := by decide +kernel
theorem dX5_answerOf_195 : decode cX5_answerOf 195 = .ok (.aload_n 0, 1) := by decide +kernel
theorem dX5_answerOf_196 : decode cX5_answerOf 196 = .ok (.getfield 36, 3) := by decide +kernel
theorem dX5_answerOf_199 : decode cX5_answerOf 199 = .ok (.iload_n 1, 1) := by decide +kernel
theorem dX5_answerOf_200 : decode cX5_answerOf 200 = .ok (.iconst 1, 1) := by decide +kernel
theorem dX5_answerOf_201 : decode cX5_answerOf 201 = .ok (.iadd, 1) := by decide +kernel
theorem dX5_answerOf_202 : decode cX5_answerOf 202 = .ok (.iload_n 2, 1) := by decide +kernel
theorem dX5_answerOf_203 : decode cX5_answerOf 203 = .ok (.invokevirtual 250, 3) := by decide +kernel
theorem dX5_answerOf_206 : decode cX5_answerOf 206 = .ok (.invokevirtual 80, 3) := by decide +kernel
theorem dX5_answerOf_209 : decode cX5_answerOf 209 = .ok (.ireturn, 1) := by decide +kernel
theorem dX5_answerOf_210 : decode cX5_answerOf 210 = .ok (.aload_n 0, 1) := by decide +kernel
theorem dX5_answerOf_211 : decode cX5_answerOf 211 = .ok (.getfield 10, 3) := by decide +kernel
theorem dX5_answerOf_214 : decode cX5_answerOf 214 = .ok (.aload_n 0, 1) := by decide +kernel
theorem dX5_answerOf_215 : decode cX5_answerOf 215 = .ok (.getfield 36, 3) := by decide +kernel
theorem dX5_answerOf_218 : decode cX5_answerOf 218 = .ok (.iload_n 1, 1) := by decide +kernel
theorem dX5_answerOf_219 : decode cX5_answerOf 219 = .ok (.iconst 2, 1) := by decide +kernel
theorem dX5_answerOf_220 : decode cX5_answerOf 220 = .ok (.iadd, 1) := by decide +kernel
theorem dX5_answerOf_221 : decode cX5_answerOf 221 = .ok (.invokevirtual 244, 3) := by decide +kernel
theorem dX5_answerOf_224 : decode cX5_answerOf 224 = .ok (.aload_n 0, 1) := by decide +kernel
theorem dX5_answerOf_225 : decode cX5_answerOf 225 = .ok (.getfield 36, 3) := by decide +kernel
theorem dX5_answerOf_228 : decode cX5_answerOf 228 = .ok (.iload_n 1, 1) := by decide +kernel
theorem dX5_answerOf_229 : decode cX5_answerOf 229 = .ok (.iconst 1, 1) := by decide +kernel
theorem dX5_answerOf_230 : decode cX5_answerOf 230 = .ok (.iadd, 1) := by decide +kernel
theorem dX5_answerOf_231 : decode cX5_answerOf 231 = .ok (.invokevirtual 247, 3) := by decide +kernel
theorem dX5_answerOf_234 : decode cX5_answerOf 234 = .ok (.invokevirtual 83, 3) := by decide +kernel
theorem dX5_answerOf_237 : decode cX5_answerOf 237 = .ok (.ireturn, 1) := by decide +kernel
theorem dX5_placeOf_0 : decode cX5_placeOf 0 = .ok (.iload_n 0, 1) := by decide +kernel
theorem dX5_placeOf_1 : decode cX5_placeOf 1 = .ok (.ifCond .lt 19, 3) := by decide +kernel
theorem dX5_placeOf_4 : decode cX5_placeOf 4 = .ok (.iload_n 0, 1) := by decide +kernel
theorem dX5_placeOf_5 : decode cX5_placeOf 5 = .ok (.bipush 8, 2) := by decide +kernel
theorem dX5_placeOf_7 : decode cX5_placeOf 7 = .ok (.if_icmp .ge 13, 3) := by decide +kernel
theorem dX5_placeOf_10 : decode cX5_placeOf 10 = .ok (.iload_n 1, 1) := by decide +kernel
theorem dX5_placeOf_11 : decode cX5_placeOf 11 = .ok (.ifCond .lt 9, 3) := by decide +kernel
theorem dX5_placeOf_14 : decode cX5_placeOf 14 = .ok (.iload_n 1, 1) := by decide +kernel
theorem dX5_placeOf_15 : decode cX5_placeOf 15 = .ok (.bipush 8, 2) := by decide +kernel
theorem dX5_placeOf_17 : decode cX5_placeOf 17 = .ok (.if_icmp .lt 7, 3) := by decide +kernel
theorem dX5_placeOf_20 : decode cX5_placeOf 20 = .ok (.iconst (-1), 1) := by decide +kernel
theorem dX5_placeOf_21 : decode cX5_placeOf 21 = .ok (.goto 9, 3) := by decide +kernel
theorem dX5_placeOf_24 : decode cX5_placeOf 24 = .ok (.bipush 8, 2) := by decide +kernel
theorem dX5_placeOf_26 : decode cX5_placeOf 26 = .ok (.iload_n 0, 1) := by decide +kernel
theorem dX5_placeOf_27 : decode cX5_placeOf 27 = .ok (.imul, 1) := by decide +kernel
theorem dX5_placeOf_28 : decode cX5_placeOf 28 = .ok (.iload_n 1, 1) := by decide +kernel
theorem dX5_placeOf_29 : decode cX5_placeOf 29 = .ok (.iadd, 1) := by decide +kernel
theorem dX5_placeOf_30 : decode cX5_placeOf 30 = .ok (.ireturn, 1) := by decide +kernel
theorem dX5_neighbourOf_0 : decode cX5_neighbourOf 0 = .ok (.iload_n 1, 1) := by decide +kernel
theorem dX5_neighbourOf_1 : decode cX5_neighbourOf 1 = .ok (.tableswitch 75 0 2 #[27, 43, 59], 27) := by decide +kernel
theorem dX5_neighbourOf_28 : decode cX5_neighbourOf 28 = .ok (.iload_n 0, 1) := by decide +kernel
theorem dX5_neighbourOf_29 : decode cX5_neighbourOf 29 = .ok (.bipush 8, 2) := by decide +kernel
theorem dX5_neighbourOf_31 : decode cX5_neighbourOf 31 = .ok (.if_icmp .lt 10, 3) := by decide +kernel
theorem dX5_neighbourOf_34 : decode cX5_neighbourOf 34 = .ok (.iload_n 0, 1) := by decide +kernel
theorem dX5_neighbourOf_35 : decode cX5_neighbourOf 35 = .ok (.bipush 8, 2) := by decide +kernel
theorem dX5_neighbourOf_37 : decode cX5_neighbourOf 37 = .ok (.isub, 1) := by decide +kernel
theorem dX5_neighbourOf_38 : decode cX5_neighbourOf 38 = .ok (.goto 5, 3) := by decide +kernel
theorem dX5_neighbourOf_41 : decode cX5_neighbourOf 41 = .ok (.bipush (-6), 2) := by decide +kernel
theorem dX5_neighbourOf_43 : decode cX5_neighbourOf 43 = .ok (.ireturn, 1) := by decide +kernel
theorem dX5_neighbourOf_44 : decode cX5_neighbourOf 44 = .ok (.iload_n 0, 1) := by decide +kernel
theorem dX5_neighbourOf_45 : decode cX5_neighbourOf 45 = .ok (.bipush 56, 2) := by decide +kernel
theorem dX5_neighbourOf_47 : decode cX5_neighbourOf 47 = .ok (.if_icmp .ge 10, 3) := by decide +kernel
theorem dX5_neighbourOf_50 : decode cX5_neighbourOf 50 = .ok (.iload_n 0, 1) := by decide +kernel
theorem dX5_neighbourOf_51 : decode cX5_neighbourOf 51 = .ok (.bipush 8, 2) := by decide +kernel
theorem dX5_neighbourOf_53 : decode cX5_neighbourOf 53 = .ok (.iadd, 1) := by decide +kernel
theorem dX5_neighbourOf_54 : decode cX5_neighbourOf 54 = .ok (.goto 5, 3) := by decide +kernel
theorem dX5_neighbourOf_57 : decode cX5_neighbourOf 57 = .ok (.bipush (-6), 2) := by decide +kernel
theorem dX5_neighbourOf_59 : decode cX5_neighbourOf 59 = .ok (.ireturn, 1) := by decide +kernel
theorem dX5_neighbourOf_60 : decode cX5_neighbourOf 60 = .ok (.iload_n 0, 1) := by decide +kernel
theorem dX5_neighbourOf_61 : decode cX5_neighbourOf 61 = .ok (.bipush 8, 2) := by decide +kernel
theorem dX5_neighbourOf_63 : decode cX5_neighbourOf 63 = .ok (.irem, 1) := by decide +kernel
theorem dX5_neighbourOf_64 : decode cX5_neighbourOf 64 = .ok (.ifCond .le 9, 3) := by decide +kernel
theorem dX5_neighbourOf_67 : decode cX5_neighbourOf 67 = .ok (.iload_n 0, 1) := by decide +kernel
theorem dX5_neighbourOf_68 : decode cX5_neighbourOf 68 = .ok (.iconst 1, 1) := by decide +kernel
theorem dX5_neighbourOf_69 : decode cX5_neighbourOf 69 = .ok (.isub, 1) := by decide +kernel
theorem dX5_neighbourOf_70 : decode cX5_neighbourOf 70 = .ok (.goto 5, 3) := by decide +kernel
theorem dX5_neighbourOf_73 : decode cX5_neighbourOf 73 = .ok (.bipush (-6), 2) := by decide +kernel
theorem dX5_neighbourOf_75 : decode cX5_neighbourOf 75 = .ok (.ireturn, 1) := by decide +kernel
theorem dX5_neighbourOf_76 : decode cX5_neighbourOf 76 = .ok (.iload_n 0, 1) := by decide +kernel
theorem dX5_neighbourOf_77 : decode cX5_neighbourOf 77 = .ok (.bipush 8, 2) := by decide +kernel
theorem dX5_neighbourOf_79 : decode cX5_neighbourOf 79 = .ok (.irem, 1) := by decide +kernel
theorem dX5_neighbourOf_80 : decode cX5_neighbourOf 80 = .ok (.bipush 7, 2) := by decide +kernel
theorem dX5_neighbourOf_82 : decode cX5_neighbourOf 82 = .ok (.if_icmp .ge 9, 3) := by decide +kernel
theorem dX5_neighbourOf_85 : decode cX5_neighbourOf 85 = .ok (.iload_n 0, 1) := by decide +kernel
theorem dX5_neighbourOf_86 : decode cX5_neighbourOf 86 = .ok (.iconst 1, 1) := by decide +kernel
theorem dX5_neighbourOf_87 : decode cX5_neighbourOf 87 = .ok (.iadd, 1) := by decide +kernel
theorem dX5_neighbourOf_88 : decode cX5_neighbourOf 88 = .ok (.goto 5, 3) := by decide +kernel
theorem dX5_neighbourOf_91 : decode cX5_neighbourOf 91 = .ok (.bipush (-6), 2) := by decide +kernel
theorem dX5_neighbourOf_93 : decode cX5_neighbourOf 93 = .ok (.ireturn, 1) := by decide +kernel
set_option maxRecDepth 20000 in
theorem ggX5_areNeighbours_X5_neighbourOf : GoodIn wsX5_areNeighbours wsX5_neighbourOf := goodIn_r _ [4] (by decide +kernel) (by decide +kernel)
set_option maxRecDepth 20000 in
theorem gX5_areNeighbours_X5_neighbourOf : GoodIn wsX5_areNeighbours (va_wsS RX5 253 yX5_neighbourOf wsX5_neighbourOf) := goodIn_app (goodIn_of _ (by decide +kernel)) ggX5_areNeighbours_X5_neighbourOf
theorem dX5_areNeighbours_0 : decode cX5_areNeighbours 0 = .ok (.iconst 0, 1) := by decide +kernel
theorem dX5_areNeighbours_1 : decode cX5_areNeighbours 1 = .ok (.istore_n 2, 1) := by decide +kernel
theorem dX5_areNeighbours_2 : decode cX5_areNeighbours 2 = .ok (.iload_n 2, 1) := by decide +kernel
theorem dX5_areNeighbours_3 : decode cX5_areNeighbours 3 = .ok (.iconst 4, 1) := by decide +kernel
theorem dX5_areNeighbours_4 : decode cX5_areNeighbours 4 = .ok (.if_icmp .ge 20, 3) := by decide +kernel
theorem dX5_areNeighbours_7 : decode cX5_areNeighbours 7 = .ok (.iload_n 0, 1) := by decide +kernel
theorem dX5_areNeighbours_8 : decode cX5_areNeighbours 8 = .ok (.iload_n 2, 1) := by decide +kernel
theorem dX5_areNeighbours_9 : decode cX5_areNeighbours 9 = .ok (.invokestatic 253, 3) := by decide +kernel
theorem dX5_areNeighbours_12 : decode cX5_areNeighbours 12 = .ok (.iload_n 1, 1) := by decide +kernel
theorem dX5_areNeighbours_13 : decode cX5_areNeighbours 13 = .ok (.if_icmp .ne 5, 3) := by decide +kernel
theorem dX5_areNeighbours_16 : decode cX5_areNeighbours 16 = .ok (.iconst 1, 1) := by decide +kernel
theorem dX5_areNeighbours_17 : decode cX5_areNeighbours 17 = .ok (.ireturn, 1) := by decide +kernel
theorem dX5_areNeighbours_18 : decode cX5_areNeighbours 18 = .ok (.iinc 2 1, 3) := by decide +kernel
theorem dX5_areNeighbours_21 : decode cX5_areNeighbours 21 = .ok (.goto (-19), 3) := by decide +kernel
theorem dX5_areNeighbours_24 : decode cX5_areNeighbours 24 = .ok (.iconst 0, 1) := by decide +kernel
theorem dX5_areNeighbours_25 : decode cX5_areNeighbours 25 = .ok (.ireturn, 1) := by decide +kernel
theorem dX5_isNet_0 : decode cX5_isNet 0 = .ok (.iload_n 0, 1) := by decide +kernel
theorem dX5_isNet_1 : decode cX5_isNet 1 = .ok (.iconst 1, 1) := by decide +kernel
theorem dX5_isNet_2 : decode cX5_isNet 2 = .ok (.if_icmp .lt 13, 3) := by decide +kernel
theorem dX5_isNet_5 : decode cX5_isNet 5 = .ok (.iload_n 0, 1) := by decide +kernel
theorem dX5_isNet_6 : decode cX5_isNet 6 = .ok (.bipush 7, 2) := by decide +kernel
theorem dX5_isNet_8 : decode cX5_isNet 8 = .ok (.if_icmp .gt 7, 3) := by decide +kernel
theorem dX5_isNet_11 : decode cX5_isNet 11 = .ok (.iconst 1, 1) := by decide +kernel
theorem dX5_isNet_12 : decode cX5_isNet 12 = .ok (.goto 4, 3) := by decide +kernel
theorem dX5_isNet_15 : decode cX5_isNet 15 = .ok (.iconst 0, 1) := by decide +kernel
theorem dX5_isNet_16 : decode cX5_isNet 16 = .ok (.ireturn, 1) := by decide +kernel
theorem dX5_isIn_0 : decode cX5_isIn 0 = .ok (.lload_n 0, 1) := by decide +kernel
theorem dX5_isIn_1 : decode cX5_isIn 1 = .ok (.iload_n 2, 1) := by decide +kernel
theorem dX5_isIn_2 : decode cX5_isIn 2 = .ok (.lushr, 1) := by decide +kernel
theorem dX5_isIn_3 : decode cX5_isIn 3 = .ok (.lconst 1, 1) := by decide +kernel
theorem dX5_isIn_4 : decode cX5_isIn 4 = .ok (.land, 1) := by decide +kernel
theorem dX5_isIn_5 : decode cX5_isIn 5 = .ok (.lconst 0, 1) := by decide +kernel
theorem dX5_isIn_6 : decode cX5_isIn 6 = .ok (.lcmp, 1) := by decide +kernel
theorem dX5_isIn_7 : decode cX5_isIn 7 = .ok (.ifCond .eq 7, 3) := by decide +kernel
theorem dX5_isIn_10 : decode cX5_isIn 10 = .ok (.iconst 1, 1) := by decide +kernel
theorem dX5_isIn_11 : decode cX5_isIn 11 = .ok (.goto 4, 3) := by decide +kernel
theorem dX5_isIn_14 : decode cX5_isIn 14 = .ok (.iconst 0, 1) := by decide +kernel
theorem dX5_isIn_15 : decode cX5_isIn 15 = .ok (.ireturn, 1) := by decide +kernel
theorem dX5_columnsOf_0 : decode cX5_columnsOf 0 = .ok (.lload_n 0, 1) := by decide +kernel
theorem dX5_columnsOf_1 : decode cX5_columnsOf 1 = .ok (.bipush 8, 2) := by decide +kernel
theorem dX5_columnsOf_3 : decode cX5_columnsOf 3 = .ok (.iload_n 2, 1) := by decide +kernel
theorem dX5_columnsOf_4 : decode cX5_columnsOf 4 = .ok (.imul, 1) := by decide +kernel
theorem dX5_columnsOf_5 : decode cX5_columnsOf 5 = .ok (.lushr, 1) := by decide +kernel
theorem dX5_columnsOf_6 : decode cX5_columnsOf 6 = .ok (.ldc2_w 256, 3) := by decide +kernel
theorem dX5_columnsOf_9 : decode cX5_columnsOf 9 = .ok (.land, 1) := by decide +kernel
theorem dX5_columnsOf_10 : decode cX5_columnsOf 10 = .ok (.l2i, 1) := by decide +kernel
theorem dX5_columnsOf_11 : decode cX5_columnsOf 11 = .ok (.ireturn, 1) := by decide +kernel
theorem dX5_readOf_0 : decode cX5_readOf 0 = .ok (.fload_n 0, 1) := by decide +kernel
theorem dX5_readOf_1 : decode cX5_readOf 1 = .ok (.ldc_w 258, 3) := by decide +kernel
theorem dX5_readOf_4 : decode cX5_readOf 4 = .ok (.fmul, 1) := by decide +kernel
theorem dX5_readOf_5 : decode cX5_readOf 5 = .ok (.f2i, 1) := by decide +kernel
theorem dX5_readOf_6 : decode cX5_readOf 6 = .ok (.ireturn, 1) := by decide +kernel
set_option maxRecDepth 20000 in
theorem ggX5_step_X5_isIn : GoodIn wsX5_step wsX5_isIn := goodIn_r _ [5] (by decide +kernel) (by decide +kernel)
set_option maxRecDepth 20000 in
theorem gX5_step_X5_isIn : GoodIn wsX5_step (va_wsS RX5 260 yX5_isIn wsX5_isIn) := goodIn_app (goodIn_of _ (by decide +kernel)) ggX5_step_X5_isIn
theorem dX5_step_0 : decode cX5_step 0 = .ok (.aload 6, 2) := by decide +kernel
theorem dX5_step_2 : decode cX5_step 2 = .ok (.iconst 0, 1) := by decide +kernel
theorem dX5_step_3 : decode cX5_step 3 = .ok (.iaload, 1) := by decide +kernel
theorem dX5_step_4 : decode cX5_step 4 = .ok (.i2f, 1) := by decide +kernel
theorem dX5_step_5 : decode cX5_step 5 = .ok (.fstore 7, 2) := by decide +kernel
theorem dX5_step_7 : decode cX5_step 7 = .ok (.bipush 100, 2) := by decide +kernel
theorem dX5_step_9 : decode cX5_step 9 = .ok (.aload 6, 2) := by decide +kernel
theorem dX5_step_11 : decode cX5_step 11 = .ok (.iconst 1, 1) := by decide +kernel
theorem dX5_step_12 : decode cX5_step 12 = .ok (.iaload, 1) := by decide +kernel
theorem dX5_step_13 : decode cX5_step 13 = .ok (.isub, 1) := by decide +kernel
theorem dX5_step_14 : decode cX5_step 14 = .ok (.i2f, 1) := by decide +kernel
theorem dX5_step_15 : decode cX5_step 15 = .ok (.fstore 8, 2) := by decide +kernel
theorem dX5_step_17 : decode cX5_step 17 = .ok (.aload 6, 2) := by decide +kernel
theorem dX5_step_19 : decode cX5_step 19 = .ok (.iconst 2, 1) := by decide +kernel
theorem dX5_step_20 : decode cX5_step 20 = .ok (.iaload, 1) := by decide +kernel
theorem dX5_step_21 : decode cX5_step 21 = .ok (.i2f, 1) := by decide +kernel
theorem dX5_step_22 : decode cX5_step 22 = .ok (.fstore 9, 2) := by decide +kernel
theorem dX5_step_24 : decode cX5_step 24 = .ok (.iconst 0, 1) := by decide +kernel
theorem dX5_step_25 : decode cX5_step 25 = .ok (.istore 10, 2) := by decide +kernel
theorem dX5_step_27 : decode cX5_step 27 = .ok (.iload 10, 2) := by decide +kernel
theorem dX5_step_29 : decode cX5_step 29 = .ok (.bipush 64, 2) := by decide +kernel
theorem dX5_step_31 : decode cX5_step 31 = .ok (.if_icmp .ge 182, 3) := by decide +kernel
theorem dX5_step_34 : decode cX5_step 34 = .ok (.iload_n 1, 1) := by decide +kernel
theorem dX5_step_35 : decode cX5_step 35 = .ok (.iload 10, 2) := by decide +kernel
theorem dX5_step_37 : decode cX5_step 37 = .ok (.iadd, 1) := by decide +kernel
theorem dX5_step_38 : decode cX5_step 38 = .ok (.istore 11, 2) := by decide +kernel
theorem dX5_step_40 : decode cX5_step 40 = .ok (.aload_n 0, 1) := by decide +kernel
theorem dX5_step_41 : decode cX5_step 41 = .ok (.iload 11, 2) := by decide +kernel
theorem dX5_step_43 : decode cX5_step 43 = .ok (.faload, 1) := by decide +kernel
theorem dX5_step_44 : decode cX5_step 44 = .ok (.fstore 12, 2) := by decide +kernel
theorem dX5_step_46 : decode cX5_step 46 = .ok (.fconst 0, 1) := by decide +kernel
theorem dX5_step_47 : decode cX5_step 47 = .ok (.fstore 13, 2) := by decide +kernel
theorem dX5_step_49 : decode cX5_step 49 = .ok (.iload 10, 2) := by decide +kernel
theorem dX5_step_51 : decode cX5_step 51 = .ok (.bipush 8, 2) := by decide +kernel
theorem dX5_step_53 : decode cX5_step 53 = .ok (.if_icmp .lt 25, 3) := by decide +kernel
theorem dX5_step_56 : decode cX5_step 56 = .ok (.fload 13, 2) := by decide +kernel
theorem dX5_step_58 : decode cX5_step 58 = .ok (.aload_n 0, 1) := by decide +kernel
theorem dX5_step_59 : decode cX5_step 59 = .ok (.iload 11, 2) := by decide +kernel
theorem dX5_step_61 : decode cX5_step 61 = .ok (.bipush 8, 2) := by decide +kernel
theorem dX5_step_63 : decode cX5_step 63 = .ok (.isub, 1) := by decide +kernel
theorem dX5_step_64 : decode cX5_step 64 = .ok (.faload, 1) := by decide +kernel
theorem dX5_step_65 : decode cX5_step 65 = .ok (.fload 12, 2) := by decide +kernel
theorem dX5_step_67 : decode cX5_step 67 = .ok (.fsub, 1) := by decide +kernel
theorem dX5_step_68 : decode cX5_step 68 = .ok (.fload 7, 2) := by decide +kernel
theorem dX5_step_70 : decode cX5_step 70 = .ok (.fmul, 1) := by decide +kernel
theorem dX5_step_71 : decode cX5_step 71 = .ok (.ldc_w 259, 3) := by decide +kernel
theorem dX5_step_74 : decode cX5_step 74 = .ok (.fdiv, 1) := by decide +kernel
theorem dX5_step_75 : decode cX5_step 75 = .ok (.fadd, 1) := by decide +kernel
theorem dX5_step_76 : decode cX5_step 76 = .ok (.fstore 13, 2) := by decide +kernel
theorem dX5_step_78 : decode cX5_step 78 = .ok (.iload 10, 2) := by decide +kernel
theorem dX5_step_80 : decode cX5_step 80 = .ok (.bipush 56, 2) := by decide +kernel
theorem dX5_step_82 : decode cX5_step 82 = .ok (.if_icmp .ge 25, 3) := by decide +kernel
theorem dX5_step_85 : decode cX5_step 85 = .ok (.fload 13, 2) := by decide +kernel
theorem dX5_step_87 : decode cX5_step 87 = .ok (.aload_n 0, 1) := by decide +kernel
theorem dX5_step_88 : decode cX5_step 88 = .ok (.iload 11, 2) := by decide +kernel
theorem dX5_step_90 : decode cX5_step 90 = .ok (.bipush 8, 2) := by decide +kernel
theorem dX5_step_92 : decode cX5_step 92 = .ok (.iadd, 1) := by decide +kernel
theorem dX5_step_93 : decode cX5_step 93 = .ok (.faload, 1) := by decide +kernel
theorem dX5_step_94 : decode cX5_step 94 = .ok (.fload 12, 2) := by decide +kernel
theorem dX5_step_96 : decode cX5_step 96 = .ok (.fsub, 1) := by decide +kernel
theorem dX5_step_97 : decode cX5_step 97 = .ok (.fload 7, 2) := by decide +kernel
theorem dX5_step_99 : decode cX5_step 99 = .ok (.fmul, 1) := by decide +kernel
theorem dX5_step_100 : decode cX5_step 100 = .ok (.ldc_w 259, 3) := by decide +kernel
theorem dX5_step_103 : decode cX5_step 103 = .ok (.fdiv, 1) := by decide +kernel
theorem dX5_step_104 : decode cX5_step 104 = .ok (.fadd, 1) := by decide +kernel
theorem dX5_step_105 : decode cX5_step 105 = .ok (.fstore 13, 2) := by decide +kernel
theorem dX5_step_107 : decode cX5_step 107 = .ok (.iload 10, 2) := by decide +kernel
theorem dX5_step_109 : decode cX5_step 109 = .ok (.bipush 8, 2) := by decide +kernel
theorem dX5_step_111 : decode cX5_step 111 = .ok (.irem, 1) := by decide +kernel
theorem dX5_step_112 : decode cX5_step 112 = .ok (.ifCond .le 24, 3) := by decide +kernel
theorem dX5_step_115 : decode cX5_step 115 = .ok (.fload 13, 2) := by decide +kernel
theorem dX5_step_117 : decode cX5_step 117 = .ok (.aload_n 0, 1) := by decide +kernel
theorem dX5_step_118 : decode cX5_step 118 = .ok (.iload 11, 2) := by decide +kernel
theorem dX5_step_120 : decode cX5_step 120 = .ok (.iconst 1, 1) := by decide +kernel
theorem dX5_step_121 : decode cX5_step 121 = .ok (.isub, 1) := by decide +kernel
theorem dX5_step_122 : decode cX5_step 122 = .ok (.faload, 1) := by decide +kernel
theorem dX5_step_123 : decode cX5_step 123 = .ok (.fload 12, 2) := by decide +kernel
theorem dX5_step_125 : decode cX5_step 125 = .ok (.fsub, 1) := by decide +kernel
theorem dX5_step_126 : decode cX5_step 126 = .ok (.fload 7, 2) := by decide +kernel
theorem dX5_step_128 : decode cX5_step 128 = .ok (.fmul, 1) := by decide +kernel
theorem dX5_step_129 : decode cX5_step 129 = .ok (.ldc_w 259, 3) := by decide +kernel
theorem dX5_step_132 : decode cX5_step 132 = .ok (.fdiv, 1) := by decide +kernel
theorem dX5_step_133 : decode cX5_step 133 = .ok (.fadd, 1) := by decide +kernel
theorem dX5_step_134 : decode cX5_step 134 = .ok (.fstore 13, 2) := by decide +kernel
theorem dX5_step_136 : decode cX5_step 136 = .ok (.iload 10, 2) := by decide +kernel
theorem dX5_step_138 : decode cX5_step 138 = .ok (.bipush 8, 2) := by decide +kernel
theorem dX5_step_140 : decode cX5_step 140 = .ok (.irem, 1) := by decide +kernel
theorem dX5_step_141 : decode cX5_step 141 = .ok (.bipush 7, 2) := by decide +kernel
theorem dX5_step_143 : decode cX5_step 143 = .ok (.if_icmp .ge 24, 3) := by decide +kernel
theorem dX5_step_146 : decode cX5_step 146 = .ok (.fload 13, 2) := by decide +kernel
theorem dX5_step_148 : decode cX5_step 148 = .ok (.aload_n 0, 1) := by decide +kernel
theorem dX5_step_149 : decode cX5_step 149 = .ok (.iload 11, 2) := by decide +kernel
theorem dX5_step_151 : decode cX5_step 151 = .ok (.iconst 1, 1) := by decide +kernel
theorem dX5_step_152 : decode cX5_step 152 = .ok (.iadd, 1) := by decide +kernel
theorem dX5_step_153 : decode cX5_step 153 = .ok (.faload, 1) := by decide +kernel
theorem dX5_step_154 : decode cX5_step 154 = .ok (.fload 12, 2) := by decide +kernel
theorem dX5_step_156 : decode cX5_step 156 = .ok (.fsub, 1) := by decide +kernel
theorem dX5_step_157 : decode cX5_step 157 = .ok (.fload 7, 2) := by decide +kernel
theorem dX5_step_159 : decode cX5_step 159 = .ok (.fmul, 1) := by decide +kernel
theorem dX5_step_160 : decode cX5_step 160 = .ok (.ldc_w 259, 3) := by decide +kernel
theorem dX5_step_163 : decode cX5_step 163 = .ok (.fdiv, 1) := by decide +kernel
theorem dX5_step_164 : decode cX5_step 164 = .ok (.fadd, 1) := by decide +kernel
theorem dX5_step_165 : decode cX5_step 165 = .ok (.fstore 13, 2) := by decide +kernel
theorem dX5_step_167 : decode cX5_step 167 = .ok (.fload 12, 2) := by decide +kernel
theorem dX5_step_169 : decode cX5_step 169 = .ok (.fload 13, 2) := by decide +kernel
theorem dX5_step_171 : decode cX5_step 171 = .ok (.fadd, 1) := by decide +kernel
theorem dX5_step_172 : decode cX5_step 172 = .ok (.fload 8, 2) := by decide +kernel
theorem dX5_step_174 : decode cX5_step 174 = .ok (.fmul, 1) := by decide +kernel
theorem dX5_step_175 : decode cX5_step 175 = .ok (.ldc_w 259, 3) := by decide +kernel
theorem dX5_step_178 : decode cX5_step 178 = .ok (.fdiv, 1) := by decide +kernel
theorem dX5_step_179 : decode cX5_step 179 = .ok (.fstore 14, 2) := by decide +kernel
theorem dX5_step_181 : decode cX5_step 181 = .ok (.aload_n 2, 1) := by decide +kernel
theorem dX5_step_182 : decode cX5_step 182 = .ok (.iload_n 3, 1) := by decide +kernel
theorem dX5_step_183 : decode cX5_step 183 = .ok (.iload 10, 2) := by decide +kernel
theorem dX5_step_185 : decode cX5_step 185 = .ok (.iadd, 1) := by decide +kernel
theorem dX5_step_186 : decode cX5_step 186 = .ok (.lload 4, 2) := by decide +kernel
theorem dX5_step_188 : decode cX5_step 188 = .ok (.iload 10, 2) := by decide +kernel
theorem dX5_step_190 : decode cX5_step 190 = .ok (.invokestatic 260, 3) := by decide +kernel
theorem dX5_step_193 : decode cX5_step 193 = .ok (.ifCond .eq 11, 3) := by decide +kernel
theorem dX5_step_196 : decode cX5_step 196 = .ok (.fload 14, 2) := by decide +kernel
theorem dX5_step_198 : decode cX5_step 198 = .ok (.fload 9, 2) := by decide +kernel
theorem dX5_step_200 : decode cX5_step 200 = .ok (.fadd, 1) := by decide +kernel
theorem dX5_step_201 : decode cX5_step 201 = .ok (.goto 5, 3) := by decide +kernel
theorem dX5_step_204 : decode cX5_step 204 = .ok (.fload 14, 2) := by decide +kernel
theorem dX5_step_206 : decode cX5_step 206 = .ok (.fastore, 1) := by decide +kernel
theorem dX5_step_207 : decode cX5_step 207 = .ok (.iinc 10 1, 3) := by decide +kernel
theorem dX5_step_210 : decode cX5_step 210 = .ok (.goto (-183), 3) := by decide +kernel
theorem dX5_step_213 : decode cX5_step 213 = .ok (.return_, 1) := by decide +kernel
theorem dX5_bitsOfFloat_0 : decode cX5_bitsOfFloat 0 = .ok (.fload_n 0, 1) := by decide +kernel
theorem dX5_bitsOfFloat_1 : decode cX5_bitsOfFloat 1 = .ok (.fstore_n 1, 1) := by decide +kernel
theorem dX5_bitsOfFloat_2 : decode cX5_bitsOfFloat 2 = .ok (.sipush 150, 3) := by decide +kernel
theorem dX5_bitsOfFloat_5 : decode cX5_bitsOfFloat 5 = .ok (.istore_n 2, 1) := by decide +kernel
theorem dX5_bitsOfFloat_6 : decode cX5_bitsOfFloat 6 = .ok (.iload_n 2, 1) := by decide +kernel
theorem dX5_bitsOfFloat_7 : decode cX5_bitsOfFloat 7 = .ok (.iconst 1, 1) := by decide +kernel
theorem dX5_bitsOfFloat_8 : decode cX5_bitsOfFloat 8 = .ok (.if_icmp .le 21, 3) := by decide +kernel
theorem dX5_bitsOfFloat_11 : decode cX5_bitsOfFloat 11 = .ok (.fload_n 1, 1) := by decide +kernel
theorem dX5_bitsOfFloat_12 : decode cX5_bitsOfFloat 12 = .ok (.ldc_w 264, 3) := by decide +kernel
theorem dX5_bitsOfFloat_15 : decode cX5_bitsOfFloat 15 = .ok (.fcmp .g, 1) := by decide +kernel
theorem dX5_bitsOfFloat_16 : decode cX5_bitsOfFloat 16 = .ok (.ifCond .ge 13, 3) := by decide +kernel
theorem dX5_bitsOfFloat_19 : decode cX5_bitsOfFloat 19 = .ok (.fload_n 1, 1) := by decide +kernel
theorem dX5_bitsOfFloat_20 : decode cX5_bitsOfFloat 20 = .ok (.fconst 2, 1) := by decide +kernel
theorem dX5_bitsOfFloat_21 : decode cX5_bitsOfFloat 21 = .ok (.fmul, 1) := by decide +kernel
theorem dX5_bitsOfFloat_22 : decode cX5_bitsOfFloat 22 = .ok (.fstore_n 1, 1) := by decide +kernel
theorem dX5_bitsOfFloat_23 : decode cX5_bitsOfFloat 23 = .ok (.iinc 2 (-1), 3) := by decide +kernel
theorem dX5_bitsOfFloat_26 : decode cX5_bitsOfFloat 26 = .ok (.goto (-20), 3) := by decide +kernel
theorem dX5_bitsOfFloat_29 : decode cX5_bitsOfFloat 29 = .ok (.fload_n 1, 1) := by decide +kernel
theorem dX5_bitsOfFloat_30 : decode cX5_bitsOfFloat 30 = .ok (.f2i, 1) := by decide +kernel
theorem dX5_bitsOfFloat_31 : decode cX5_bitsOfFloat 31 = .ok (.istore_n 3, 1) := by decide +kernel
theorem dX5_bitsOfFloat_32 : decode cX5_bitsOfFloat 32 = .ok (.iload_n 3, 1) := by decide +kernel
theorem dX5_bitsOfFloat_33 : decode cX5_bitsOfFloat 33 = .ok (.ldc_w 265, 3) := by decide +kernel
theorem dX5_bitsOfFloat_36 : decode cX5_bitsOfFloat 36 = .ok (.if_icmp .ge 7, 3) := by decide +kernel
theorem dX5_bitsOfFloat_39 : decode cX5_bitsOfFloat 39 = .ok (.iload_n 3, 1) := by decide +kernel
theorem dX5_bitsOfFloat_40 : decode cX5_bitsOfFloat 40 = .ok (.goto 13, 3) := by decide +kernel
theorem dX5_bitsOfFloat_43 : decode cX5_bitsOfFloat 43 = .ok (.iload_n 2, 1) := by decide +kernel
theorem dX5_bitsOfFloat_44 : decode cX5_bitsOfFloat 44 = .ok (.bipush 23, 2) := by decide +kernel
theorem dX5_bitsOfFloat_46 : decode cX5_bitsOfFloat 46 = .ok (.ishl, 1) := by decide +kernel
theorem dX5_bitsOfFloat_47 : decode cX5_bitsOfFloat 47 = .ok (.iload_n 3, 1) := by decide +kernel
theorem dX5_bitsOfFloat_48 : decode cX5_bitsOfFloat 48 = .ok (.ldc_w 265, 3) := by decide +kernel
theorem dX5_bitsOfFloat_51 : decode cX5_bitsOfFloat 51 = .ok (.isub, 1) := by decide +kernel
theorem dX5_bitsOfFloat_52 : decode cX5_bitsOfFloat 52 = .ok (.iadd, 1) := by decide +kernel
theorem dX5_bitsOfFloat_53 : decode cX5_bitsOfFloat 53 = .ok (.ireturn, 1) := by decide +kernel
theorem dX5_bitsOfDouble_0 : decode cX5_bitsOfDouble 0 = .ok (.dload_n 0, 1) := by decide +kernel
theorem dX5_bitsOfDouble_1 : decode cX5_bitsOfDouble 1 = .ok (.dstore_n 2, 1) := by decide +kernel
theorem dX5_bitsOfDouble_2 : decode cX5_bitsOfDouble 2 = .ok (.ldc2_w 266, 3) := by decide +kernel
theorem dX5_bitsOfDouble_5 : decode cX5_bitsOfDouble 5 = .ok (.lstore 4, 2) := by decide +kernel
theorem dX5_bitsOfDouble_7 : decode cX5_bitsOfDouble 7 = .ok (.lload 4, 2) := by decide +kernel
theorem dX5_bitsOfDouble_9 : decode cX5_bitsOfDouble 9 = .ok (.lconst 1, 1) := by decide +kernel
theorem dX5_bitsOfDouble_10 : decode cX5_bitsOfDouble 10 = .ok (.lcmp, 1) := by decide +kernel
theorem dX5_bitsOfDouble_11 : decode cX5_bitsOfDouble 11 = .ok (.ifCond .le 26, 3) := by decide +kernel
theorem dX5_bitsOfDouble_14 : decode cX5_bitsOfDouble 14 = .ok (.dload_n 2, 1) := by decide +kernel
theorem dX5_bitsOfDouble_15 : decode cX5_bitsOfDouble 15 = .ok (.ldc2_w 268, 3) := by decide +kernel
theorem dX5_bitsOfDouble_18 : decode cX5_bitsOfDouble 18 = .ok (.dcmp .g, 1) := by decide +kernel
theorem dX5_bitsOfDouble_19 : decode cX5_bitsOfDouble 19 = .ok (.ifCond .ge 18, 3) := by decide +kernel
theorem dX5_bitsOfDouble_22 : decode cX5_bitsOfDouble 22 = .ok (.dload_n 2, 1) := by decide +kernel
theorem dX5_bitsOfDouble_23 : decode cX5_bitsOfDouble 23 = .ok (.ldc2_w 270, 3) := by decide +kernel
theorem dX5_bitsOfDouble_26 : decode cX5_bitsOfDouble 26 = .ok (.dmul, 1) := by decide +kernel
theorem dX5_bitsOfDouble_27 : decode cX5_bitsOfDouble 27 = .ok (.dstore_n 2, 1) := by decide +kernel
theorem dX5_bitsOfDouble_28 : decode cX5_bitsOfDouble 28 = .ok (.lload 4, 2) := by decide +kernel
theorem dX5_bitsOfDouble_30 : decode cX5_bitsOfDouble 30 = .ok (.lconst 1, 1) := by decide +kernel
theorem dX5_bitsOfDouble_31 : decode cX5_bitsOfDouble 31 = .ok (.lsub, 1) := by decide +kernel
theorem dX5_bitsOfDouble_32 : decode cX5_bitsOfDouble 32 = .ok (.lstore 4, 2) := by decide +kernel
theorem dX5_bitsOfDouble_34 : decode cX5_bitsOfDouble 34 = .ok (.goto (-27), 3) := by decide +kernel
theorem dX5_bitsOfDouble_37 : decode cX5_bitsOfDouble 37 = .ok (.dload_n 2, 1) := by decide +kernel
theorem dX5_bitsOfDouble_38 : decode cX5_bitsOfDouble 38 = .ok (.d2l, 1) := by decide +kernel
theorem dX5_bitsOfDouble_39 : decode cX5_bitsOfDouble 39 = .ok (.lstore 6, 2) := by decide +kernel
theorem dX5_bitsOfDouble_41 : decode cX5_bitsOfDouble 41 = .ok (.lload 6, 2) := by decide +kernel
theorem dX5_bitsOfDouble_43 : decode cX5_bitsOfDouble 43 = .ok (.ldc2_w 272, 3) := by decide +kernel
theorem dX5_bitsOfDouble_46 : decode cX5_bitsOfDouble 46 = .ok (.lcmp, 1) := by decide +kernel
theorem dX5_bitsOfDouble_47 : decode cX5_bitsOfDouble 47 = .ok (.ifCond .ge 8, 3) := by decide +kernel
theorem dX5_bitsOfDouble_50 : decode cX5_bitsOfDouble 50 = .ok (.lload 6, 2) := by decide +kernel
theorem dX5_bitsOfDouble_52 : decode cX5_bitsOfDouble 52 = .ok (.goto 15, 3) := by decide +kernel
theorem dX5_bitsOfDouble_55 : decode cX5_bitsOfDouble 55 = .ok (.lload 4, 2) := by decide +kernel
theorem dX5_bitsOfDouble_57 : decode cX5_bitsOfDouble 57 = .ok (.bipush 52, 2) := by decide +kernel
theorem dX5_bitsOfDouble_59 : decode cX5_bitsOfDouble 59 = .ok (.lshl, 1) := by decide +kernel
theorem dX5_bitsOfDouble_60 : decode cX5_bitsOfDouble 60 = .ok (.lload 6, 2) := by decide +kernel
theorem dX5_bitsOfDouble_62 : decode cX5_bitsOfDouble 62 = .ok (.ldc2_w 272, 3) := by decide +kernel
theorem dX5_bitsOfDouble_65 : decode cX5_bitsOfDouble 65 = .ok (.lsub, 1) := by decide +kernel
theorem dX5_bitsOfDouble_66 : decode cX5_bitsOfDouble 66 = .ok (.ladd, 1) := by decide +kernel
theorem dX5_bitsOfDouble_67 : decode cX5_bitsOfDouble 67 = .ok (.lreturn, 1) := by decide +kernel
theorem dX6_init_0 : decode cX6_init 0 = .ok (.aload_n 0, 1) := by decide +kernel
theorem dX6_init_1 : decode cX6_init 1 = .ok (.invokespecial 1, 3) := by decide +kernel
theorem dX6_init_4 : decode cX6_init 4 = .ok (.aload_n 0, 1) := by decide +kernel
theorem dX6_init_5 : decode cX6_init 5 = .ok (.bipush 109, 2) := by decide +kernel
theorem dX6_init_7 : decode cX6_init 7 = .ok (.newarray .int, 2) := by decide +kernel
theorem dX6_init_9 : decode cX6_init 9 = .ok (.putfield 7, 3) := by decide +kernel
theorem dX6_init_12 : decode cX6_init 12 = .ok (.aload_n 0, 1) := by decide +kernel
theorem dX6_init_13 : decode cX6_init 13 = .ok (.bipush 64, 2) := by decide +kernel
theorem dX6_init_15 : decode cX6_init 15 = .ok (.newarray .float, 2) := by decide +kernel
theorem dX6_init_17 : decode cX6_init 17 = .ok (.putfield 13, 3) := by decide +kernel
theorem dX6_init_20 : decode cX6_init 20 = .ok (.aload_n 0, 1) := by decide +kernel
theorem dX6_init_21 : decode cX6_init 21 = .ok (.sipush 654, 3) := by decide +kernel
theorem dX6_init_24 : decode cX6_init 24 = .ok (.newarray .int, 2) := by decide +kernel
theorem dX6_init_26 : decode cX6_init 26 = .ok (.putfield 17, 3) := by decide +kernel
theorem dX6_init_29 : decode cX6_init 29 = .ok (.aload_n 0, 1) := by decide +kernel
theorem dX6_init_30 : decode cX6_init 30 = .ok (.sipush 384, 3) := by decide +kernel
theorem dX6_init_33 : decode cX6_init 33 = .ok (.newarray .float, 2) := by decide +kernel
theorem dX6_init_35 : decode cX6_init 35 = .ok (.putfield 20, 3) := by decide +kernel
theorem dX6_init_38 : decode cX6_init 38 = .ok (.aload_n 0, 1) := by decide +kernel
theorem dX6_init_39 : decode cX6_init 39 = .ok (.sipush 218, 3) := by decide +kernel
theorem dX6_init_42 : decode cX6_init 42 = .ok (.newarray .int, 2) := by decide +kernel
theorem dX6_init_44 : decode cX6_init 44 = .ok (.putfield 23, 3) := by decide +kernel
theorem dX6_init_47 : decode cX6_init 47 = .ok (.aload_n 0, 1) := by decide +kernel
theorem dX6_init_48 : decode cX6_init 48 = .ok (.sipush 128, 3) := by decide +kernel
theorem dX6_init_51 : decode cX6_init 51 = .ok (.newarray .float, 2) := by decide +kernel
theorem dX6_init_53 : decode cX6_init 53 = .ok (.putfield 26, 3) := by decide +kernel
theorem dX6_init_56 : decode cX6_init 56 = .ok (.aload_n 0, 1) := by decide +kernel
theorem dX6_init_57 : decode cX6_init 57 = .ok (.iconst 2, 1) := by decide +kernel
theorem dX6_init_58 : decode cX6_init 58 = .ok (.newarray .int, 2) := by decide +kernel
theorem dX6_init_60 : decode cX6_init 60 = .ok (.putfield 29, 3) := by decide +kernel
theorem dX6_init_63 : decode cX6_init 63 = .ok (.aload_n 0, 1) := by decide +kernel
theorem dX6_init_64 : decode cX6_init 64 = .ok (.bipush 80, 2) := by decide +kernel
theorem dX6_init_66 : decode cX6_init 66 = .ok (.newarray .int, 2) := by decide +kernel
theorem dX6_init_68 : decode cX6_init 68 = .ok (.putfield 32, 3) := by decide +kernel
theorem dX6_init_71 : decode cX6_init 71 = .ok (.aload_n 0, 1) := by decide +kernel
theorem dX6_init_72 : decode cX6_init 72 = .ok (.bipush 64, 2) := by decide +kernel
theorem dX6_init_74 : decode cX6_init 74 = .ok (.newarray .float, 2) := by decide +kernel
theorem dX6_init_76 : decode cX6_init 76 = .ok (.putfield 35, 3) := by decide +kernel
theorem dX6_init_79 : decode cX6_init 79 = .ok (.aload_n 0, 1) := by decide +kernel
theorem dX6_init_80 : decode cX6_init 80 = .ok (.bipush 64, 2) := by decide +kernel
theorem dX6_init_82 : decode cX6_init 82 = .ok (.newarray .float, 2) := by decide +kernel
theorem dX6_init_84 : decode cX6_init 84 = .ok (.putfield 38, 3) := by decide +kernel
theorem dX6_init_87 : decode cX6_init 87 = .ok (.aload_n 0, 1) := by decide +kernel
theorem dX6_init_88 : decode cX6_init 88 = .ok (.sipush 512, 3) := by decide +kernel
theorem dX6_init_91 : decode cX6_init 91 = .ok (.newarray .float, 2) := by decide +kernel
theorem dX6_init_93 : decode cX6_init 93 = .ok (.putfield 41, 3) := by decide +kernel
theorem dX6_init_96 : decode cX6_init 96 = .ok (.aload_n 0, 1) := by decide +kernel
theorem dX6_init_97 : decode cX6_init 97 = .ok (.bipush 64, 2) := by decide +kernel
theorem dX6_init_99 : decode cX6_init 99 = .ok (.newarray .int, 2) := by decide +kernel
theorem dX6_init_101 : decode cX6_init 101 = .ok (.putfield 44, 3) := by decide +kernel
theorem dX6_init_104 : decode cX6_init 104 = .ok (.aload_n 0, 1) := by decide +kernel
theorem dX6_init_105 : decode cX6_init 105 = .ok (.bipush 64, 2) := by decide +kernel
theorem dX6_init_107 : decode cX6_init 107 = .ok (.newarray .int, 2) := by decide +kernel
theorem dX6_init_109 : decode cX6_init 109 = .ok (.putfield 47, 3) := by decide +kernel
theorem dX6_init_112 : decode cX6_init 112 = .ok (.aload_n 0, 1) := by decide +kernel
theorem dX6_init_113 : decode cX6_init 113 = .ok (.bipush 64, 2) := by decide +kernel
theorem dX6_init_115 : decode cX6_init 115 = .ok (.newarray .int, 2) := by decide +kernel
theorem dX6_init_117 : decode cX6_init 117 = .ok (.putfield 50, 3) := by decide +kernel
theorem dX6_init_120 : decode cX6_init 120 = .ok (.aload_n 0, 1) := by decide +kernel
theorem dX6_init_121 : decode cX6_init 121 = .ok (.sipush 4096, 3) := by decide +kernel
theorem dX6_init_124 : decode cX6_init 124 = .ok (.newarray .int, 2) := by decide +kernel
theorem dX6_init_126 : decode cX6_init 126 = .ok (.putfield 53, 3) := by decide +kernel
theorem dX6_init_129 : decode cX6_init 129 = .ok (.aload_n 0, 1) := by decide +kernel
theorem dX6_init_130 : decode cX6_init 130 = .ok (.getfield 7, 3) := by decide +kernel
theorem dX6_init_133 : decode cX6_init 133 = .ok (.iconst 0, 1) := by decide +kernel
theorem dX6_init_134 : decode cX6_init 134 = .ok (.bipush 15, 2) := by decide +kernel
theorem dX6_init_136 : decode cX6_init 136 = .ok (.iastore, 1) := by decide +kernel
theorem dX6_init_137 : decode cX6_init 137 = .ok (.aload_n 0, 1) := by decide +kernel
theorem dX6_init_138 : decode cX6_init 138 = .ok (.getfield 7, 3) := by decide +kernel
theorem dX6_init_141 : decode cX6_init 141 = .ok (.iconst 1, 1) := by decide +kernel
theorem dX6_init_142 : decode cX6_init 142 = .ok (.iconst 5, 1) := by decide +kernel
theorem dX6_init_143 : decode cX6_init 143 = .ok (.iastore, 1) := by decide +kernel
theorem dX6_init_144 : decode cX6_init 144 = .ok (.aload_n 0, 1) := by decide +kernel
theorem dX6_init_145 : decode cX6_init 145 = .ok (.getfield 7, 3) := by decide +kernel
theorem dX6_init_148 : decode cX6_init 148 = .ok (.iconst 2, 1) := by decide +kernel
theorem dX6_init_149 : decode cX6_init 149 = .ok (.bipush 20, 2) := by decide +kernel
theorem dX6_init_151 : decode cX6_init 151 = .ok (.iastore, 1) := by decide +kernel
theorem dX6_init_152 : decode cX6_init 152 = .ok (.aload_n 0, 1) := by decide +kernel
theorem dX6_init_153 : decode cX6_init 153 = .ok (.getfield 7, 3) := by decide +kernel
theorem dX6_init_156 : decode cX6_init 156 = .ok (.iconst 3, 1) := by decide +kernel
theorem dX6_init_157 : decode cX6_init 157 = .ok (.iconst 3, 1) := by decide +kernel
theorem dX6_init_158 : decode cX6_init 158 = .ok (.iastore, 1) := by decide +kernel
theorem dX6_init_159 : decode cX6_init 159 = .ok (.return_, 1) := by decide +kernel
theorem dX6_within_0 : decode cX6_within 0 = .ok (.iload_n 0, 1) := by decide +kernel
theorem dX6_within_1 : decode cX6_within 1 = .ok (.iload_n 1, 1) := by decide +kernel
theorem dX6_within_2 : decode cX6_within 2 = .ok (.if_icmp .lt 12, 3) := by decide +kernel
theorem dX6_within_5 : decode cX6_within 5 = .ok (.iload_n 0, 1) := by decide +kernel
theorem dX6_within_6 : decode cX6_within 6 = .ok (.iload_n 2, 1) := by decide +kernel
theorem dX6_within_7 : decode cX6_within 7 = .ok (.if_icmp .gt 7, 3) := by decide +kernel
theorem dX6_within_10 : decode cX6_within 10 = .ok (.iconst 1, 1) := by decide +kernel
theorem dX6_within_11 : decode cX6_within 11 = .ok (.goto 4, 3) := by decide +kernel
theorem dX6_within_14 : decode cX6_within 14 = .ok (.iconst 0, 1) := by decide +kernel
theorem dX6_within_15 : decode cX6_within 15 = .ok (.ireturn, 1) := by decide +kernel
theorem dX6_moves_0 : decode cX6_moves 0 = .ok (.iconst 0, 1) := by decide +kernel
theorem dX6_moves_1 : decode cX6_moves 1 = .ok (.istore 4, 2) := by decide +kernel
theorem dX6_moves_3 : decode cX6_moves 3 = .ok (.iload 4, 2) := by decide +kernel
theorem dX6_moves_5 : decode cX6_moves 5 = .ok (.bipush 109, 2) := by decide +kernel
theorem dX6_moves_7 : decode cX6_moves 7 = .ok (.if_icmp .ge 21, 3) := by decide +kernel
theorem dX6_moves_10 : decode cX6_moves 10 = .ok (.aload_n 2, 1) := by decide +kernel
theorem dX6_moves_11 : decode cX6_moves 11 = .ok (.iload_n 3, 1) := by decide +kernel
theorem dX6_moves_12 : decode cX6_moves 12 = .ok (.iload 4, 2) := by decide +kernel
theorem dX6_moves_14 : decode cX6_moves 14 = .ok (.iadd, 1) := by decide +kernel
theorem dX6_moves_15 : decode cX6_moves 15 = .ok (.aload_n 0, 1) := by decide +kernel
theorem dX6_moves_16 : decode cX6_moves 16 = .ok (.iload_n 1, 1) := by decide +kernel
theorem dX6_moves_17 : decode cX6_moves 17 = .ok (.iload 4, 2) := by decide +kernel
theorem dX6_moves_19 : decode cX6_moves 19 = .ok (.iadd, 1) := by decide +kernel
theorem dX6_moves_20 : decode cX6_moves 20 = .ok (.iaload, 1) := by decide +kernel
theorem dX6_moves_21 : decode cX6_moves 21 = .ok (.iastore, 1) := by decide +kernel
theorem dX6_moves_22 : decode cX6_moves 22 = .ok (.iinc 4 1, 3) := by decide +kernel
theorem dX6_moves_25 : decode cX6_moves 25 = .ok (.goto (-22), 3) := by decide +kernel
theorem dX6_moves_28 : decode cX6_moves 28 = .ok (.return_, 1) := by decide +kernel
theorem dX6_movesWarmth_0 : decode cX6_movesWarmth 0 = .ok (.iconst 0, 1) := by decide +kernel
theorem dX6_movesWarmth_1 : decode cX6_movesWarmth 1 = .ok (.istore 4, 2) := by decide +kernel
theorem dX6_movesWarmth_3 : decode cX6_movesWarmth 3 = .ok (.iload 4, 2) := by decide +kernel
theorem dX6_movesWarmth_5 : decode cX6_movesWarmth 5 = .ok (.bipush 64, 2) := by decide +kernel
theorem dX6_movesWarmth_7 : decode cX6_movesWarmth 7 = .ok (.if_icmp .ge 21, 3) := by decide +kernel
theorem dX6_movesWarmth_10 : decode cX6_movesWarmth 10 = .ok (.aload_n 2, 1) := by decide +kernel
theorem dX6_movesWarmth_11 : decode cX6_movesWarmth 11 = .ok (.iload_n 3, 1) := by decide +kernel
theorem dX6_movesWarmth_12 : decode cX6_movesWarmth 12 = .ok (.iload 4, 2) := by decide +kernel
theorem dX6_movesWarmth_14 : decode cX6_movesWarmth 14 = .ok (.iadd, 1) := by decide +kernel
theorem dX6_movesWarmth_15 : decode cX6_movesWarmth 15 = .ok (.aload_n 0, 1) := by decide +kernel
theorem dX6_movesWarmth_16 : decode cX6_movesWarmth 16 = .ok (.iload_n 1, 1) := by decide +kernel
theorem dX6_movesWarmth_17 : decode cX6_movesWarmth 17 = .ok (.iload 4, 2) := by decide +kernel
theorem dX6_movesWarmth_19 : decode cX6_movesWarmth 19 = .ok (.iadd, 1) := by decide +kernel
theorem dX6_movesWarmth_20 : decode cX6_movesWarmth 20 = .ok (.faload, 1) := by decide +kernel
theorem dX6_movesWarmth_21 : decode cX6_movesWarmth 21 = .ok (.fastore, 1) := by decide +kernel
theorem dX6_movesWarmth_22 : decode cX6_movesWarmth 22 = .ok (.iinc 4 1, 3) := by decide +kernel
theorem dX6_movesWarmth_25 : decode cX6_movesWarmth 25 = .ok (.goto (-22), 3) := by decide +kernel
theorem dX6_movesWarmth_28 : decode cX6_movesWarmth 28 = .ok (.return_, 1) := by decide +kernel
set_option maxRecDepth 20000 in
theorem ggX6_record_X6_moves : GoodIn wsX6_record wsX6_moves := goodIn_r _ [9] (by decide +kernel) (by decide +kernel)
set_option maxRecDepth 20000 in
theorem gX6_record_X6_moves : GoodIn wsX6_record (va_wsS RX6 60 yX6_moves wsX6_moves) := goodIn_app (goodIn_of _ (by decide +kernel)) ggX6_record_X6_moves
set_option maxRecDepth 20000 in
theorem ggX6_record_X6_movesWarmth : GoodIn wsX6_record wsX6_movesWarmth := goodIn_r _ [12] (by decide +kernel) (by decide +kernel)
set_option maxRecDepth 20000 in
theorem gX6_record_X6_movesWarmth : GoodIn wsX6_record (va_wsS RX6 64 yX6_movesWarmth wsX6_movesWarmth) := goodIn_app (goodIn_of _ (by decide +kernel)) ggX6_record_X6_movesWarmth
theorem dX6_record_0 : decode cX6_record 0 = .ok (.aload_n 0, 1) := by decide +kernel
theorem dX6_record_1 : decode cX6_record 1 = .ok (.getfield 56, 3) := by decide +kernel
theorem dX6_record_4 : decode cX6_record 4 = .ok (.bipush 6, 2) := by decide +kernel
theorem dX6_record_6 : decode cX6_record 6 = .ok (.if_icmp .ne 73, 3) := by decide +kernel
theorem dX6_record_9 : decode cX6_record 9 = .ok (.iconst 0, 1) := by decide +kernel
theorem dX6_record_10 : decode cX6_record 10 = .ok (.istore_n 1, 1) := by decide +kernel
theorem dX6_record_11 : decode cX6_record 11 = .ok (.iload_n 1, 1) := by decide +kernel
theorem dX6_record_12 : decode cX6_record 12 = .ok (.sipush 545, 3) := by decide +kernel
theorem dX6_record_15 : decode cX6_record 15 = .ok (.if_icmp .ge 24, 3) := by decide +kernel
theorem dX6_record_18 : decode cX6_record 18 = .ok (.aload_n 0, 1) := by decide +kernel
theorem dX6_record_19 : decode cX6_record 19 = .ok (.getfield 17, 3) := by decide +kernel
theorem dX6_record_22 : decode cX6_record 22 = .ok (.iload_n 1, 1) := by decide +kernel
theorem dX6_record_23 : decode cX6_record 23 = .ok (.aload_n 0, 1) := by decide +kernel
theorem dX6_record_24 : decode cX6_record 24 = .ok (.getfield 17, 3) := by decide +kernel
theorem dX6_record_27 : decode cX6_record 27 = .ok (.iload_n 1, 1) := by decide +kernel
theorem dX6_record_28 : decode cX6_record 28 = .ok (.bipush 109, 2) := by decide +kernel
theorem dX6_record_30 : decode cX6_record 30 = .ok (.iadd, 1) := by decide +kernel
theorem dX6_record_31 : decode cX6_record 31 = .ok (.iaload, 1) := by decide +kernel
theorem dX6_record_32 : decode cX6_record 32 = .ok (.iastore, 1) := by decide +kernel
theorem dX6_record_33 : decode cX6_record 33 = .ok (.iinc 1 1, 3) := by decide +kernel
theorem dX6_record_36 : decode cX6_record 36 = .ok (.goto (-25), 3) := by decide +kernel
theorem dX6_record_39 : decode cX6_record 39 = .ok (.iconst 0, 1) := by decide +kernel
theorem dX6_record_40 : decode cX6_record 40 = .ok (.istore_n 1, 1) := by decide +kernel
theorem dX6_record_41 : decode cX6_record 41 = .ok (.iload_n 1, 1) := by decide +kernel
theorem dX6_record_42 : decode cX6_record 42 = .ok (.sipush 320, 3) := by decide +kernel
theorem dX6_record_45 : decode cX6_record 45 = .ok (.if_icmp .ge 24, 3) := by decide +kernel
theorem dX6_record_48 : decode cX6_record 48 = .ok (.aload_n 0, 1) := by decide +kernel
theorem dX6_record_49 : decode cX6_record 49 = .ok (.getfield 20, 3) := by decide +kernel
theorem dX6_record_52 : decode cX6_record 52 = .ok (.iload_n 1, 1) := by decide +kernel
theorem dX6_record_53 : decode cX6_record 53 = .ok (.aload_n 0, 1) := by decide +kernel
theorem dX6_record_54 : decode cX6_record 54 = .ok (.getfield 20, 3) := by decide +kernel
theorem dX6_record_57 : decode cX6_record 57 = .ok (.iload_n 1, 1) := by decide +kernel
theorem dX6_record_58 : decode cX6_record 58 = .ok (.bipush 64, 2) := by decide +kernel
theorem dX6_record_60 : decode cX6_record 60 = .ok (.iadd, 1) := by decide +kernel
theorem dX6_record_61 : decode cX6_record 61 = .ok (.faload, 1) := by decide +kernel
theorem dX6_record_62 : decode cX6_record 62 = .ok (.fastore, 1) := by decide +kernel
theorem dX6_record_63 : decode cX6_record 63 = .ok (.iinc 1 1, 3) := by decide +kernel
theorem dX6_record_66 : decode cX6_record 66 = .ok (.goto (-25), 3) := by decide +kernel
theorem dX6_record_69 : decode cX6_record 69 = .ok (.aload_n 0, 1) := by decide +kernel
theorem dX6_record_70 : decode cX6_record 70 = .ok (.dup, 1) := by decide +kernel
theorem dX6_record_71 : decode cX6_record 71 = .ok (.getfield 56, 3) := by decide +kernel
theorem dX6_record_74 : decode cX6_record 74 = .ok (.iconst 1, 1) := by decide +kernel
theorem dX6_record_75 : decode cX6_record 75 = .ok (.isub, 1) := by decide +kernel
theorem dX6_record_76 : decode cX6_record 76 = .ok (.putfield 56, 3) := by decide +kernel
theorem dX6_record_79 : decode cX6_record 79 = .ok (.aload_n 0, 1) := by decide +kernel
theorem dX6_record_80 : decode cX6_record 80 = .ok (.getfield 7, 3) := by decide +kernel
theorem dX6_record_83 : decode cX6_record 83 = .ok (.iconst 0, 1) := by decide +kernel
theorem dX6_record_84 : decode cX6_record 84 = .ok (.aload_n 0, 1) := by decide +kernel
theorem dX6_record_85 : decode cX6_record 85 = .ok (.getfield 17, 3) := by decide +kernel
theorem dX6_record_88 : decode cX6_record 88 = .ok (.aload_n 0, 1) := by decide +kernel
theorem dX6_record_89 : decode cX6_record 89 = .ok (.getfield 56, 3) := by decide +kernel
theorem dX6_record_92 : decode cX6_record 92 = .ok (.bipush 109, 2) := by decide +kernel
theorem dX6_record_94 : decode cX6_record 94 = .ok (.imul, 1) := by decide +kernel
theorem dX6_record_95 : decode cX6_record 95 = .ok (.invokestatic 60, 3) := by decide +kernel
theorem dX6_record_98 : decode cX6_record 98 = .ok (.aload_n 0, 1) := by decide +kernel
theorem dX6_record_99 : decode cX6_record 99 = .ok (.getfield 13, 3) := by decide +kernel
theorem dX6_record_102 : decode cX6_record 102 = .ok (.iconst 0, 1) := by decide +kernel
theorem dX6_record_103 : decode cX6_record 103 = .ok (.aload_n 0, 1) := by decide +kernel
theorem dX6_record_104 : decode cX6_record 104 = .ok (.getfield 20, 3) := by decide +kernel
theorem dX6_record_107 : decode cX6_record 107 = .ok (.aload_n 0, 1) := by decide +kernel
theorem dX6_record_108 : decode cX6_record 108 = .ok (.getfield 56, 3) := by decide +kernel
theorem dX6_record_111 : decode cX6_record 111 = .ok (.bipush 64, 2) := by decide +kernel
theorem dX6_record_113 : decode cX6_record 113 = .ok (.imul, 1) := by decide +kernel
theorem dX6_record_114 : decode cX6_record 114 = .ok (.invokestatic 64, 3) := by decide +kernel
theorem dX6_record_117 : decode cX6_record 117 = .ok (.aload_n 0, 1) := by decide +kernel
theorem dX6_record_118 : decode cX6_record 118 = .ok (.dup, 1) := by decide +kernel
theorem dX6_record_119 : decode cX6_record 119 = .ok (.getfield 56, 3) := by decide +kernel
theorem dX6_record_122 : decode cX6_record 122 = .ok (.iconst 1, 1) := by decide +kernel
theorem dX6_record_123 : decode cX6_record 123 = .ok (.iadd, 1) := by decide +kernel
theorem dX6_record_124 : decode cX6_record 124 = .ok (.putfield 56, 3) := by decide +kernel
theorem dX6_record_127 : decode cX6_record 127 = .ok (.return_, 1) := by decide +kernel
set_option maxRecDepth 20000 in
theorem ggX6_isOnSide_X6_within : GoodIn wsX6_isOnSide wsX6_within := goodIn_r _ [4] (by decide +kernel) (by decide +kernel)
set_option maxRecDepth 20000 in
theorem gX6_isOnSide_X6_within : GoodIn wsX6_isOnSide (va_wsS RX6 68 yX6_within wsX6_within) := goodIn_app (goodIn_of _ (by decide +kernel)) ggX6_isOnSide_X6_within
theorem dX6_isOnSide_0 : decode cX6_isOnSide 0 = .ok (.iload_n 0, 1) := by decide +kernel
theorem dX6_isOnSide_1 : decode cX6_isOnSide 1 = .ok (.iconst 0, 1) := by decide +kernel
theorem dX6_isOnSide_2 : decode cX6_isOnSide 2 = .ok (.bipush 7, 2) := by decide +kernel
theorem dX6_isOnSide_4 : decode cX6_isOnSide 4 = .ok (.invokestatic 68, 3) := by decide +kernel
theorem dX6_isOnSide_7 : decode cX6_isOnSide 7 = .ok (.ireturn, 1) := by decide +kernel
set_option maxRecDepth 20000 in
theorem ggX6_isPlace_X6_isOnSide : GoodIn wsX6_isPlace wsX6_isOnSide := goodIn_r _ [4, 5, 6, 3, 7] (by decide +kernel) (by decide +kernel)
set_option maxRecDepth 20000 in
theorem gX6_isPlace_X6_isOnSide : GoodIn wsX6_isPlace (va_wsS RX6 72 yX6_isOnSide wsX6_isOnSide) := goodIn_app (goodIn_of _ (by decide +kernel)) ggX6_isPlace_X6_isOnSide
theorem dX6_isPlace_0 : decode cX6_isPlace 0 = .ok (.iload_n 0, 1) := by decide +kernel
theorem dX6_isPlace_1 : decode cX6_isPlace 1 = .ok (.invokestatic 72, 3) := by decide +kernel
theorem dX6_isPlace_4 : decode cX6_isPlace 4 = .ok (.ifCond .eq 14, 3) := by decide +kernel
theorem dX6_isPlace_7 : decode cX6_isPlace 7 = .ok (.iload_n 1, 1) := by decide +kernel
theorem dX6_isPlace_8 : decode cX6_isPlace 8 = .ok (.invokestatic 72, 3) := by decide +kernel
theorem dX6_isPlace_11 : decode cX6_isPlace 11 = .ok (.ifCond .eq 7, 3) := by decide +kernel
theorem dX6_isPlace_14 : decode cX6_isPlace 14 = .ok (.iconst 1, 1) := by decide +kernel
theorem dX6_isPlace_15 : decode cX6_isPlace 15 = .ok (.goto 4, 3) := by decide +kernel
theorem dX6_isPlace_18 : decode cX6_isPlace 18 = .ok (.iconst 0, 1) := by decide +kernel
theorem dX6_isPlace_19 : decode cX6_isPlace 19 = .ok (.ireturn, 1) := by decide +kernel
set_option maxRecDepth 20000 in
theorem ggX6_isNet_X6_within : GoodIn wsX6_isNet wsX6_within := goodIn_r _ [4] (by decide +kernel) (by decide +kernel)
set_option maxRecDepth 20000 in
theorem gX6_isNet_X6_within : GoodIn wsX6_isNet (va_wsS RX6 68 yX6_within wsX6_within) := goodIn_app (goodIn_of _ (by decide +kernel)) ggX6_isNet_X6_within
theorem dX6_isNet_0 : decode cX6_isNet 0 = .ok (.iload_n 0, 1) := by decide +kernel
theorem dX6_isNet_1 : decode cX6_isNet 1 = .ok (.iconst 1, 1) := by decide +kernel
theorem dX6_isNet_2 : decode cX6_isNet 2 = .ok (.bipush 7, 2) := by decide +kernel
theorem dX6_isNet_4 : decode cX6_isNet 4 = .ok (.invokestatic 68, 3) := by decide +kernel
theorem dX6_isNet_7 : decode cX6_isNet 7 = .ok (.ireturn, 1) := by decide +kernel
theorem dX6_placeOf_0 : decode cX6_placeOf 0 = .ok (.bipush 8, 2) := by decide +kernel
theorem dX6_placeOf_2 : decode cX6_placeOf 2 = .ok (.iload_n 0, 1) := by decide +kernel
theorem dX6_placeOf_3 : decode cX6_placeOf 3 = .ok (.imul, 1) := by decide +kernel
theorem dX6_placeOf_4 : decode cX6_placeOf 4 = .ok (.iload_n 1, 1) := by decide +kernel
theorem dX6_placeOf_5 : decode cX6_placeOf 5 = .ok (.iadd, 1) := by decide +kernel
theorem dX6_placeOf_6 : decode cX6_placeOf 6 = .ok (.ireturn, 1) := by decide +kernel
set_option maxRecDepth 20000 in
theorem ggX6_neighbour_X6_isPlace : GoodIn wsX6_neighbour wsX6_isPlace := goodIn_r _ [4, 5, 6, 3, 7, 8, 9, 10] (by decide +kernel) (by decide +kernel)
set_option maxRecDepth 20000 in
theorem gX6_neighbour_X6_isPlace : GoodIn wsX6_neighbour (va_wsS RX6 76 yX6_isPlace wsX6_isPlace) := goodIn_app (goodIn_of _ (by decide +kernel)) ggX6_neighbour_X6_isPlace
set_option maxRecDepth 20000 in
theorem ggX6_neighbour_X6_placeOf : GoodIn wsX6_neighbour wsX6_placeOf := goodIn_r _ [13] (by decide +kernel) (by decide +kernel)
set_option maxRecDepth 20000 in
theorem gX6_neighbour_X6_placeOf : GoodIn wsX6_neighbour (va_wsS RX6 80 yX6_placeOf wsX6_placeOf) := goodIn_app (goodIn_of _ (by decide +kernel)) ggX6_neighbour_X6_placeOf
theorem dX6_neighbour_0 : decode cX6_neighbour 0 = .ok (.iload_n 0, 1) := by decide +kernel
theorem dX6_neighbour_1 : decode cX6_neighbour 1 = .ok (.bipush 8, 2) := by decide +kernel
theorem dX6_neighbour_3 : decode cX6_neighbour 3 = .ok (.idiv, 1) := by decide +kernel
theorem dX6_neighbour_4 : decode cX6_neighbour 4 = .ok (.iload_n 1, 1) := by decide +kernel
theorem dX6_neighbour_5 : decode cX6_neighbour 5 = .ok (.ifCond .ne 7, 3) := by decide +kernel
theorem dX6_neighbour_8 : decode cX6_neighbour 8 = .ok (.iconst (-1), 1) := by decide +kernel
theorem dX6_neighbour_9 : decode cX6_neighbour 9 = .ok (.goto 13, 3) := by decide +kernel
theorem dX6_neighbour_12 : decode cX6_neighbour 12 = .ok (.iload_n 1, 1) := by decide +kernel
theorem dX6_neighbour_13 : decode cX6_neighbour 13 = .ok (.iconst 1, 1) := by decide +kernel
theorem dX6_neighbour_14 : decode cX6_neighbour 14 = .ok (.if_icmp .ne 7, 3) := by decide +kernel
theorem dX6_neighbour_17 : decode cX6_neighbour 17 = .ok (.iconst 1, 1) := by decide +kernel
theorem dX6_neighbour_18 : decode cX6_neighbour 18 = .ok (.goto 4, 3) := by decide +kernel
theorem dX6_neighbour_21 : decode cX6_neighbour 21 = .ok (.iconst 0, 1) := by decide +kernel
theorem dX6_neighbour_22 : decode cX6_neighbour 22 = .ok (.iadd, 1) := by decide +kernel
theorem dX6_neighbour_23 : decode cX6_neighbour 23 = .ok (.istore_n 2, 1) := by decide +kernel
theorem dX6_neighbour_24 : decode cX6_neighbour 24 = .ok (.iload_n 0, 1) := by decide +kernel
theorem dX6_neighbour_25 : decode cX6_neighbour 25 = .ok (.bipush 8, 2) := by decide +kernel
theorem dX6_neighbour_27 : decode cX6_neighbour 27 = .ok (.irem, 1) := by decide +kernel
theorem dX6_neighbour_28 : decode cX6_neighbour 28 = .ok (.iload_n 1, 1) := by decide +kernel
theorem dX6_neighbour_29 : decode cX6_neighbour 29 = .ok (.iconst 2, 1) := by decide +kernel
theorem dX6_neighbour_30 : decode cX6_neighbour 30 = .ok (.if_icmp .ne 7, 3) := by decide +kernel
theorem dX6_neighbour_33 : decode cX6_neighbour 33 = .ok (.iconst (-1), 1) := by decide +kernel
theorem dX6_neighbour_34 : decode cX6_neighbour 34 = .ok (.goto 13, 3) := by decide +kernel
theorem dX6_neighbour_37 : decode cX6_neighbour 37 = .ok (.iload_n 1, 1) := by decide +kernel
theorem dX6_neighbour_38 : decode cX6_neighbour 38 = .ok (.iconst 3, 1) := by decide +kernel
theorem dX6_neighbour_39 : decode cX6_neighbour 39 = .ok (.if_icmp .ne 7, 3) := by decide +kernel
theorem dX6_neighbour_42 : decode cX6_neighbour 42 = .ok (.iconst 1, 1) := by decide +kernel
theorem dX6_neighbour_43 : decode cX6_neighbour 43 = .ok (.goto 4, 3) := by decide +kernel
theorem dX6_neighbour_46 : decode cX6_neighbour 46 = .ok (.iconst 0, 1) := by decide +kernel
theorem dX6_neighbour_47 : decode cX6_neighbour 47 = .ok (.iadd, 1) := by decide +kernel
theorem dX6_neighbour_48 : decode cX6_neighbour 48 = .ok (.istore_n 3, 1) := by decide +kernel
theorem dX6_neighbour_49 : decode cX6_neighbour 49 = .ok (.iload_n 2, 1) := by decide +kernel
theorem dX6_neighbour_50 : decode cX6_neighbour 50 = .ok (.iload_n 3, 1) := by decide +kernel
theorem dX6_neighbour_51 : decode cX6_neighbour 51 = .ok (.invokestatic 76, 3) := by decide +kernel
theorem dX6_neighbour_54 : decode cX6_neighbour 54 = .ok (.ifCond .eq 11, 3) := by decide +kernel
theorem dX6_neighbour_57 : decode cX6_neighbour 57 = .ok (.iload_n 2, 1) := by decide +kernel
theorem dX6_neighbour_58 : decode cX6_neighbour 58 = .ok (.iload_n 3, 1) := by decide +kernel
theorem dX6_neighbour_59 : decode cX6_neighbour 59 = .ok (.invokestatic 80, 3) := by decide +kernel
theorem dX6_neighbour_62 : decode cX6_neighbour 62 = .ok (.goto 5, 3) := by decide +kernel
theorem dX6_neighbour_65 : decode cX6_neighbour 65 = .ok (.bipush (-6), 2) := by decide +kernel
theorem dX6_neighbour_67 : decode cX6_neighbour 67 = .ok (.ireturn, 1) := by decide +kernel
theorem dX6_netAt_0 : decode cX6_netAt 0 = .ok (.aload_n 0, 1) := by decide +kernel
theorem dX6_netAt_1 : decode cX6_netAt 1 = .ok (.getfield 7, 3) := by decide +kernel
theorem dX6_netAt_4 : decode cX6_netAt 4 = .ok (.bipush 7, 2) := by decide +kernel
theorem dX6_netAt_6 : decode cX6_netAt 6 = .ok (.iload_n 1, 1) := by decide +kernel
theorem dX6_netAt_7 : decode cX6_netAt 7 = .ok (.iadd, 1) := by decide +kernel
theorem dX6_netAt_8 : decode cX6_netAt 8 = .ok (.iaload, 1) := by decide +kernel
theorem dX6_netAt_9 : decode cX6_netAt 9 = .ok (.ireturn, 1) := by decide +kernel
theorem dX6_isFed_0 : decode cX6_isFed 0 = .ok (.aload_n 0, 1) := by decide +kernel
theorem dX6_isFed_1 : decode cX6_isFed 1 = .ok (.getfield 7, 3) := by decide +kernel
theorem dX6_isFed_4 : decode cX6_isFed 4 = .ok (.bipush 71, 2) := by decide +kernel
theorem dX6_isFed_6 : decode cX6_isFed 6 = .ok (.iload_n 1, 1) := by decide +kernel
theorem dX6_isFed_7 : decode cX6_isFed 7 = .ok (.iadd, 1) := by decide +kernel
theorem dX6_isFed_8 : decode cX6_isFed 8 = .ok (.iaload, 1) := by decide +kernel
theorem dX6_isFed_9 : decode cX6_isFed 9 = .ok (.iload_n 2, 1) := by decide +kernel
theorem dX6_isFed_10 : decode cX6_isFed 10 = .ok (.ishr, 1) := by decide +kernel
theorem dX6_isFed_11 : decode cX6_isFed 11 = .ok (.iconst 1, 1) := by decide +kernel
theorem dX6_isFed_12 : decode cX6_isFed 12 = .ok (.iand, 1) := by decide +kernel
theorem dX6_isFed_13 : decode cX6_isFed 13 = .ok (.iconst 1, 1) := by decide +kernel
theorem dX6_isFed_14 : decode cX6_isFed 14 = .ok (.if_icmp .ne 7, 3) := by decide +kernel
theorem dX6_isFed_17 : decode cX6_isFed 17 = .ok (.iconst 1, 1) := by decide +kernel
theorem dX6_isFed_18 : decode cX6_isFed 18 = .ok (.goto 4, 3) := by decide +kernel
theorem dX6_isFed_21 : decode cX6_isFed 21 = .ok (.iconst 0, 1) := by decide +kernel
theorem dX6_isFed_22 : decode cX6_isFed 22 = .ok (.ireturn, 1) := by decide +kernel
theorem dX6_touchPart_0 : decode cX6_touchPart 0 = .ok (.aload_n 0, 1) := by decide +kernel
theorem dX6_touchPart_1 : decode cX6_touchPart 1 = .ok (.getfield 7, 3) := by decide +kernel
theorem dX6_touchPart_4 : decode cX6_touchPart 4 = .ok (.bipush 79, 2) := by decide +kernel
theorem dX6_touchPart_6 : decode cX6_touchPart 6 = .ok (.iconst 2, 1) := by decide +kernel
theorem dX6_touchPart_7 : decode cX6_touchPart 7 = .ok (.iload_n 1, 1) := by decide +kernel
theorem dX6_touchPart_8 : decode cX6_touchPart 8 = .ok (.imul, 1) := by decide +kernel
theorem dX6_touchPart_9 : decode cX6_touchPart 9 = .ok (.iadd, 1) := by decide +kernel
theorem dX6_touchPart_10 : decode cX6_touchPart 10 = .ok (.iload_n 2, 1) := by decide +kernel
theorem dX6_touchPart_11 : decode cX6_touchPart 11 = .ok (.iadd, 1) := by decide +kernel
theorem dX6_touchPart_12 : decode cX6_touchPart 12 = .ok (.iaload, 1) := by decide +kernel
theorem dX6_touchPart_13 : decode cX6_touchPart 13 = .ok (.ireturn, 1) := by decide +kernel
set_option maxRecDepth 20000 in
theorem ggX6_touchAt_X6_touchPart : GoodIn wsX6_touchAt wsX6_touchPart := goodIn_r _ [6, 1, 7, 8, 9, 10, 11, 12, 13, 14, 15, 16, 17, 18, 19, 20, 21, 22, 23, 24, 25, 26, 27, 28, 29, 30, 31] (by decide +kernel) (by decide +kernel)
set_option maxRecDepth 20000 in
theorem gX6_touchAt_X6_touchPart : GoodIn wsX6_touchAt (wsV RX6 84 RX6 yX6_touchPart wsX6_touchPart) := goodIn_app (goodIn_of _ (by decide +kernel)) ggX6_touchAt_X6_touchPart
theorem dX6_touchAt_0 : decode cX6_touchAt 0 = .ok (.bipush (-6), 2) := by decide +kernel
theorem dX6_touchAt_2 : decode cX6_touchAt 2 = .ok (.istore_n 2, 1) := by decide +kernel
theorem dX6_touchAt_3 : decode cX6_touchAt 3 = .ok (.iconst 0, 1) := by decide +kernel
theorem dX6_touchAt_4 : decode cX6_touchAt 4 = .ok (.istore_n 3, 1) := by decide +kernel
theorem dX6_touchAt_5 : decode cX6_touchAt 5 = .ok (.iload_n 3, 1) := by decide +kernel
theorem dX6_touchAt_6 : decode cX6_touchAt 6 = .ok (.aload_n 0, 1) := by decide +kernel
theorem dX6_touchAt_7 : decode cX6_touchAt 7 = .ok (.getfield 7, 3) := by decide +kernel
theorem dX6_touchAt_10 : decode cX6_touchAt 10 = .ok (.iconst 5, 1) := by decide +kernel
theorem dX6_touchAt_11 : decode cX6_touchAt 11 = .ok (.iaload, 1) := by decide +kernel
theorem dX6_touchAt_12 : decode cX6_touchAt 12 = .ok (.if_icmp .ge 25, 3) := by decide +kernel
theorem dX6_touchAt_15 : decode cX6_touchAt 15 = .ok (.aload_n 0, 1) := by decide +kernel
theorem dX6_touchAt_16 : decode cX6_touchAt 16 = .ok (.iload_n 3, 1) := by decide +kernel
theorem dX6_touchAt_17 : decode cX6_touchAt 17 = .ok (.iconst 0, 1) := by decide +kernel
theorem dX6_touchAt_18 : decode cX6_touchAt 18 = .ok (.invokevirtual 84, 3) := by decide +kernel
theorem dX6_touchAt_21 : decode cX6_touchAt 21 = .ok (.iload_n 1, 1) := by decide +kernel
theorem dX6_touchAt_22 : decode cX6_touchAt 22 = .ok (.if_icmp .ne 7, 3) := by decide +kernel
theorem dX6_touchAt_25 : decode cX6_touchAt 25 = .ok (.iload_n 3, 1) := by decide +kernel
theorem dX6_touchAt_26 : decode cX6_touchAt 26 = .ok (.goto 4, 3) := by decide +kernel
theorem dX6_touchAt_29 : decode cX6_touchAt 29 = .ok (.iload_n 2, 1) := by decide +kernel
theorem dX6_touchAt_30 : decode cX6_touchAt 30 = .ok (.istore_n 2, 1) := by decide +kernel
theorem dX6_touchAt_31 : decode cX6_touchAt 31 = .ok (.iinc 3 1, 3) := by decide +kernel
theorem dX6_touchAt_34 : decode cX6_touchAt 34 = .ok (.goto (-29), 3) := by decide +kernel
theorem dX6_touchAt_37 : decode cX6_touchAt 37 = .ok (.iload_n 2, 1) := by decide +kernel
theorem dX6_touchAt_38 : decode cX6_touchAt 38 = .ok (.ireturn, 1) := by decide +kernel
set_option maxRecDepth 20000 in
theorem ggX6_isLive_X6_touchPart : GoodIn wsX6_isLive wsX6_touchPart := goodIn_r _ [5, 6, 15, 16, 17, 18, 19, 20, 21, 22, 23, 24, 25, 26, 27, 28, 29, 30, 31, 32, 33, 34, 35, 36, 37, 38, 39] (by decide +kernel) (by decide +kernel)
set_option maxRecDepth 20000 in
theorem gX6_isLive_X6_touchPart : GoodIn wsX6_isLive (wsV RX6 84 RX6 yX6_touchPart wsX6_touchPart) := goodIn_app (goodIn_of _ (by decide +kernel)) ggX6_isLive_X6_touchPart
set_option maxRecDepth 20000 in
theorem ggX6_isLive_X6_netAt : GoodIn wsX6_isLive wsX6_netAt := goodIn_r _ [10, 6, 15, 16, 17, 18, 19, 20, 21, 22, 23, 24, 25, 26, 27, 28, 29, 30, 31, 32, 33, 34, 35, 36, 37, 38, 39] (by decide +kernel) (by decide +kernel)
set_option maxRecDepth 20000 in
theorem gX6_isLive_X6_netAt : GoodIn wsX6_isLive (wsV RX6 87 RX6 yX6_netAt wsX6_netAt) := goodIn_app (goodIn_of _ (by decide +kernel)) ggX6_isLive_X6_netAt
set_option maxRecDepth 20000 in
theorem ggX6_isLive_X6_isFed : GoodIn wsX6_isLive wsX6_isFed := goodIn_r _ [14, 6, 15, 16, 17, 18, 19, 20, 21, 22, 23, 24, 25, 26, 27, 28, 29, 30, 31, 32, 33, 34, 35, 36, 37, 38, 39] (by decide +kernel) (by decide +kernel)
set_option maxRecDepth 20000 in
theorem gX6_isLive_X6_isFed : GoodIn wsX6_isLive (wsV RX6 91 RX6 yX6_isFed wsX6_isFed) := goodIn_app (goodIn_of _ (by decide +kernel)) ggX6_isLive_X6_isFed
theorem dX6_isLive_0 : decode cX6_isLive 0 = .ok (.aload_n 0, 1) := by decide +kernel
theorem dX6_isLive_1 : decode cX6_isLive 1 = .ok (.aload_n 0, 1) := by decide +kernel
theorem dX6_isLive_2 : decode cX6_isLive 2 = .ok (.aload_n 0, 1) := by decide +kernel
theorem dX6_isLive_3 : decode cX6_isLive 3 = .ok (.iload_n 1, 1) := by decide +kernel
theorem dX6_isLive_4 : decode cX6_isLive 4 = .ok (.iconst 0, 1) := by decide +kernel
theorem dX6_isLive_5 : decode cX6_isLive 5 = .ok (.invokevirtual 84, 3) := by decide +kernel
theorem dX6_isLive_8 : decode cX6_isLive 8 = .ok (.invokevirtual 87, 3) := by decide +kernel
theorem dX6_isLive_11 : decode cX6_isLive 11 = .ok (.aload_n 0, 1) := by decide +kernel
theorem dX6_isLive_12 : decode cX6_isLive 12 = .ok (.iload_n 1, 1) := by decide +kernel
theorem dX6_isLive_13 : decode cX6_isLive 13 = .ok (.iconst 1, 1) := by decide +kernel
theorem dX6_isLive_14 : decode cX6_isLive 14 = .ok (.invokevirtual 84, 3) := by decide +kernel
theorem dX6_isLive_17 : decode cX6_isLive 17 = .ok (.invokevirtual 91, 3) := by decide +kernel
theorem dX6_isLive_20 : decode cX6_isLive 20 = .ok (.ireturn, 1) := by decide +kernel
set_option maxRecDepth 20000 in
theorem ggX6_hasNeighbourOf_X6_neighbour : GoodIn wsX6_hasNeighbourOf wsX6_neighbour := goodIn_r _ [4, 5, 6, 3, 7, 8, 9, 10, 11, 12, 13, 14, 15, 16] (by decide +kernel) (by decide +kernel)
set_option maxRecDepth 20000 in
theorem gX6_hasNeighbourOf_X6_neighbour : GoodIn wsX6_hasNeighbourOf (va_wsS RX6 94 yX6_neighbour wsX6_neighbour) := goodIn_app (goodIn_of _ (by decide +kernel)) ggX6_hasNeighbourOf_X6_neighbour
set_option maxRecDepth 20000 in
theorem ggX6_hasNeighbourOf_X6_netAt : GoodIn wsX6_hasNeighbourOf wsX6_netAt := goodIn_r _ [20, 21, 22, 23, 24, 25, 26, 27, 28, 29, 30, 31, 32, 33, 34, 35, 36, 37, 38, 39, 40, 41, 42, 43, 44, 45, 46] (by decide +kernel) (by decide +kernel)
set_option maxRecDepth 20000 in
theorem gX6_hasNeighbourOf_X6_netAt : GoodIn wsX6_hasNeighbourOf (wsV RX6 87 RX6 yX6_netAt wsX6_netAt) := goodIn_app (goodIn_of _ (by decide +kernel)) ggX6_hasNeighbourOf_X6_netAt
theorem dX6_hasNeighbourOf_0 : decode cX6_hasNeighbourOf 0 = .ok (.iconst 0, 1) := by decide +kernel
theorem dX6_hasNeighbourOf_1 : decode cX6_hasNeighbourOf 1 = .ok (.istore_n 3, 1) := by decide +kernel
theorem dX6_hasNeighbourOf_2 : decode cX6_hasNeighbourOf 2 = .ok (.iconst 0, 1) := by decide +kernel
theorem dX6_hasNeighbourOf_3 : decode cX6_hasNeighbourOf 3 = .ok (.istore 4, 2) := by decide +kernel
theorem dX6_hasNeighbourOf_5 : decode cX6_hasNeighbourOf 5 = .ok (.iload 4, 2) := by decide +kernel
theorem dX6_hasNeighbourOf_7 : decode cX6_hasNeighbourOf 7 = .ok (.iconst 4, 1) := by decide +kernel
theorem dX6_hasNeighbourOf_8 : decode cX6_hasNeighbourOf 8 = .ok (.if_icmp .ge 44, 3) := by decide +kernel
theorem dX6_hasNeighbourOf_11 : decode cX6_hasNeighbourOf 11 = .ok (.iload_n 1, 1) := by decide +kernel
theorem dX6_hasNeighbourOf_12 : decode cX6_hasNeighbourOf 12 = .ok (.iload 4, 2) := by decide +kernel
theorem dX6_hasNeighbourOf_14 : decode cX6_hasNeighbourOf 14 = .ok (.invokestatic 94, 3) := by decide +kernel
theorem dX6_hasNeighbourOf_17 : decode cX6_hasNeighbourOf 17 = .ok (.istore 5, 2) := by decide +kernel
theorem dX6_hasNeighbourOf_19 : decode cX6_hasNeighbourOf 19 = .ok (.iload_n 3, 1) := by decide +kernel
theorem dX6_hasNeighbourOf_20 : decode cX6_hasNeighbourOf 20 = .ok (.ifCond .ne 20, 3) := by decide +kernel
theorem dX6_hasNeighbourOf_23 : decode cX6_hasNeighbourOf 23 = .ok (.iload 5, 2) := by decide +kernel
theorem dX6_hasNeighbourOf_25 : decode cX6_hasNeighbourOf 25 = .ok (.bipush (-6), 2) := by decide +kernel
theorem dX6_hasNeighbourOf_27 : decode cX6_hasNeighbourOf 27 = .ok (.if_icmp .eq 17, 3) := by decide +kernel
theorem dX6_hasNeighbourOf_30 : decode cX6_hasNeighbourOf 30 = .ok (.aload_n 0, 1) := by decide +kernel
theorem dX6_hasNeighbourOf_31 : decode cX6_hasNeighbourOf 31 = .ok (.iload 5, 2) := by decide +kernel
theorem dX6_hasNeighbourOf_33 : decode cX6_hasNeighbourOf 33 = .ok (.invokevirtual 87, 3) := by decide +kernel
theorem dX6_hasNeighbourOf_36 : decode cX6_hasNeighbourOf 36 = .ok (.iload_n 2, 1) := by decide +kernel
theorem dX6_hasNeighbourOf_37 : decode cX6_hasNeighbourOf 37 = .ok (.if_icmp .ne 7, 3) := by decide +kernel
theorem dX6_hasNeighbourOf_40 : decode cX6_hasNeighbourOf 40 = .ok (.iconst 1, 1) := by decide +kernel
theorem dX6_hasNeighbourOf_41 : decode cX6_hasNeighbourOf 41 = .ok (.goto 4, 3) := by decide +kernel
theorem dX6_hasNeighbourOf_44 : decode cX6_hasNeighbourOf 44 = .ok (.iconst 0, 1) := by decide +kernel
theorem dX6_hasNeighbourOf_45 : decode cX6_hasNeighbourOf 45 = .ok (.istore_n 3, 1) := by decide +kernel
theorem dX6_hasNeighbourOf_46 : decode cX6_hasNeighbourOf 46 = .ok (.iinc 4 1, 3) := by decide +kernel
theorem dX6_hasNeighbourOf_49 : decode cX6_hasNeighbourOf 49 = .ok (.goto (-44), 3) := by decide +kernel
theorem dX6_hasNeighbourOf_52 : decode cX6_hasNeighbourOf 52 = .ok (.iload_n 3, 1) := by decide +kernel
theorem dX6_hasNeighbourOf_53 : decode cX6_hasNeighbourOf 53 = .ok (.ireturn, 1) := by decide +kernel
set_option maxRecDepth 20000 in
theorem ggX6_isSuspect_X6_neighbour : GoodIn wsX6_isSuspect wsX6_neighbour := goodIn_r _ [4, 5, 6, 3, 7, 8, 9, 10, 11, 12, 13, 14, 15, 16] (by decide +kernel) (by decide +kernel)
set_option maxRecDepth 20000 in
theorem gX6_isSuspect_X6_neighbour : GoodIn wsX6_isSuspect (va_wsS RX6 94 yX6_neighbour wsX6_neighbour) := goodIn_app (goodIn_of _ (by decide +kernel)) ggX6_isSuspect_X6_neighbour
set_option maxRecDepth 20000 in
theorem ggX6_isSuspect_X6_netAt : GoodIn wsX6_isSuspect wsX6_netAt := goodIn_r _ [20, 21, 26, 27, 28, 29, 30, 31, 32, 33, 34, 35, 36, 37, 38, 39, 40, 41, 42, 43, 44, 45, 46, 47, 48, 49, 50] (by decide +kernel) (by decide +kernel)
set_option maxRecDepth 20000 in
theorem gX6_isSuspect_X6_netAt : GoodIn wsX6_isSuspect (wsV RX6 87 RX6 yX6_netAt wsX6_netAt) := goodIn_app (goodIn_of _ (by decide +kernel)) ggX6_isSuspect_X6_netAt
set_option maxRecDepth 20000 in
theorem ggX6_isSuspect_X6_isFed : GoodIn wsX6_isSuspect wsX6_isFed := goodIn_r _ [25, 21, 26, 27, 28, 29, 30, 31, 32, 33, 34, 35, 36, 37, 38, 39, 40, 41, 42, 43, 44, 45, 46, 47, 48, 49, 50] (by decide +kernel) (by decide +kernel)
set_option maxRecDepth 20000 in
theorem gX6_isSuspect_X6_isFed : GoodIn wsX6_isSuspect (wsV RX6 91 RX6 yX6_isFed wsX6_isFed) := goodIn_app (goodIn_of _ (by decide +kernel)) ggX6_isSuspect_X6_isFed
theorem dX6_isSuspect_0 : decode cX6_isSuspect 0 = .ok (.iconst 0, 1) := by decide +kernel
theorem dX6_isSuspect_1 : decode cX6_isSuspect 1 = .ok (.istore_n 2, 1) := by decide +kernel
theorem dX6_isSuspect_2 : decode cX6_isSuspect 2 = .ok (.iconst 0, 1) := by decide +kernel
theorem dX6_isSuspect_3 : decode cX6_isSuspect 3 = .ok (.istore_n 3, 1) := by decide +kernel
theorem dX6_isSuspect_4 : decode cX6_isSuspect 4 = .ok (.iload_n 3, 1) := by decide +kernel
theorem dX6_isSuspect_5 : decode cX6_isSuspect 5 = .ok (.iconst 4, 1) := by decide +kernel
theorem dX6_isSuspect_6 : decode cX6_isSuspect 6 = .ok (.if_icmp .ge 82, 3) := by decide +kernel
theorem dX6_isSuspect_9 : decode cX6_isSuspect 9 = .ok (.iload_n 1, 1) := by decide +kernel
theorem dX6_isSuspect_10 : decode cX6_isSuspect 10 = .ok (.iload_n 3, 1) := by decide +kernel
theorem dX6_isSuspect_11 : decode cX6_isSuspect 11 = .ok (.invokestatic 94, 3) := by decide +kernel
theorem dX6_isSuspect_14 : decode cX6_isSuspect 14 = .ok (.istore 4, 2) := by decide +kernel
theorem dX6_isSuspect_16 : decode cX6_isSuspect 16 = .ok (.iload_n 2, 1) := by decide +kernel
theorem dX6_isSuspect_17 : decode cX6_isSuspect 17 = .ok (.ifCond .ne 59, 3) := by decide +kernel
theorem dX6_isSuspect_20 : decode cX6_isSuspect 20 = .ok (.iload 4, 2) := by decide +kernel
theorem dX6_isSuspect_22 : decode cX6_isSuspect 22 = .ok (.bipush (-6), 2) := by decide +kernel
theorem dX6_isSuspect_24 : decode cX6_isSuspect 24 = .ok (.if_icmp .eq 56, 3) := by decide +kernel
theorem dX6_isSuspect_27 : decode cX6_isSuspect 27 = .ok (.aload_n 0, 1) := by decide +kernel
theorem dX6_isSuspect_28 : decode cX6_isSuspect 28 = .ok (.iload_n 1, 1) := by decide +kernel
theorem dX6_isSuspect_29 : decode cX6_isSuspect 29 = .ok (.invokevirtual 87, 3) := by decide +kernel
theorem dX6_isSuspect_32 : decode cX6_isSuspect 32 = .ok (.ifCond .le 48, 3) := by decide +kernel
theorem dX6_isSuspect_35 : decode cX6_isSuspect 35 = .ok (.aload_n 0, 1) := by decide +kernel
theorem dX6_isSuspect_36 : decode cX6_isSuspect 36 = .ok (.iload 4, 2) := by decide +kernel
theorem dX6_isSuspect_38 : decode cX6_isSuspect 38 = .ok (.invokevirtual 87, 3) := by decide +kernel
theorem dX6_isSuspect_41 : decode cX6_isSuspect 41 = .ok (.ifCond .le 39, 3) := by decide +kernel
theorem dX6_isSuspect_44 : decode cX6_isSuspect 44 = .ok (.aload_n 0, 1) := by decide +kernel
theorem dX6_isSuspect_45 : decode cX6_isSuspect 45 = .ok (.iload 4, 2) := by decide +kernel
theorem dX6_isSuspect_47 : decode cX6_isSuspect 47 = .ok (.invokevirtual 87, 3) := by decide +kernel
theorem dX6_isSuspect_50 : decode cX6_isSuspect 50 = .ok (.aload_n 0, 1) := by decide +kernel
theorem dX6_isSuspect_51 : decode cX6_isSuspect 51 = .ok (.iload_n 1, 1) := by decide +kernel
theorem dX6_isSuspect_52 : decode cX6_isSuspect 52 = .ok (.invokevirtual 87, 3) := by decide +kernel
theorem dX6_isSuspect_55 : decode cX6_isSuspect 55 = .ok (.if_icmp .eq 25, 3) := by decide +kernel
theorem dX6_isSuspect_58 : decode cX6_isSuspect 58 = .ok (.aload_n 0, 1) := by decide +kernel
theorem dX6_isSuspect_59 : decode cX6_isSuspect 59 = .ok (.aload_n 0, 1) := by decide +kernel
theorem dX6_isSuspect_60 : decode cX6_isSuspect 60 = .ok (.iload_n 1, 1) := by decide +kernel
theorem dX6_isSuspect_61 : decode cX6_isSuspect 61 = .ok (.invokevirtual 87, 3) := by decide +kernel
theorem dX6_isSuspect_64 : decode cX6_isSuspect 64 = .ok (.aload_n 0, 1) := by decide +kernel
theorem dX6_isSuspect_65 : decode cX6_isSuspect 65 = .ok (.iload 4, 2) := by decide +kernel
theorem dX6_isSuspect_67 : decode cX6_isSuspect 67 = .ok (.invokevirtual 87, 3) := by decide +kernel
theorem dX6_isSuspect_70 : decode cX6_isSuspect 70 = .ok (.invokevirtual 91, 3) := by decide +kernel
theorem dX6_isSuspect_73 : decode cX6_isSuspect 73 = .ok (.ifCond .eq 7, 3) := by decide +kernel
theorem dX6_isSuspect_76 : decode cX6_isSuspect 76 = .ok (.iconst 1, 1) := by decide +kernel
theorem dX6_isSuspect_77 : decode cX6_isSuspect 77 = .ok (.goto 4, 3) := by decide +kernel
theorem dX6_isSuspect_80 : decode cX6_isSuspect 80 = .ok (.iconst 0, 1) := by decide +kernel
theorem dX6_isSuspect_81 : decode cX6_isSuspect 81 = .ok (.istore_n 2, 1) := by decide +kernel
theorem dX6_isSuspect_82 : decode cX6_isSuspect 82 = .ok (.iinc 3 1, 3) := by decide +kernel
theorem dX6_isSuspect_85 : decode cX6_isSuspect 85 = .ok (.goto (-81), 3) := by decide +kernel
theorem dX6_isSuspect_88 : decode cX6_isSuspect 88 = .ok (.iload_n 2, 1) := by decide +kernel
theorem dX6_isSuspect_89 : decode cX6_isSuspect 89 = .ok (.ireturn, 1) := by decide +kernel
set_option maxRecDepth 20000 in
theorem ggX6_isWarmed_X6_touchAt : GoodIn wsX6_isWarmed wsX6_touchAt := goodIn_r _ [5, 6, 7, 8, 9, 4, 10, 23, 24, 25, 26, 27, 28, 29, 30, 31, 32, 33, 34, 35, 36, 37, 38, 39, 40, 41, 42, 43, 44, 45, 46, 47] (by decide +kernel) (by decide +kernel)
set_option maxRecDepth 20000 in
theorem gX6_isWarmed_X6_touchAt : GoodIn wsX6_isWarmed (wsV RX6 97 RX6 yX6_touchAt wsX6_touchAt) := goodIn_app (goodIn_of _ (by decide +kernel)) ggX6_isWarmed_X6_touchAt
set_option maxRecDepth 20000 in
theorem ggX6_isWarmed_X6_isLive : GoodIn wsX6_isWarmed wsX6_isLive := goodIn_r _ [14, 7, 8, 9, 4, 10, 6, 15, 16, 17, 18, 19, 20, 21, 22, 23, 24, 25, 26, 27, 28, 29, 30, 31, 32, 33, 34, 35, 36, 37, 38, 39, 40, 41, 42, 43, 44, 45, 46, 47] (by decide +kernel) (by decide +kernel)
set_option maxRecDepth 20000 in
theorem gX6_isWarmed_X6_isLive : GoodIn wsX6_isWarmed (wsV RX6 100 RX6 yX6_isLive wsX6_isLive) := goodIn_app (goodIn_of _ (by decide +kernel)) ggX6_isWarmed_X6_isLive
