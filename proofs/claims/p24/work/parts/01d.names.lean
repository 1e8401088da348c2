theorem dX5_rule_20 : decode cX5_rule 20 = .ok (.getfield 19, 3) := by decide +kernel
theorem dX5_rule_23 : decode cX5_rule 23 = .ok (.aload_n 0, 1) := by decide +kernel
theorem dX5_rule_24 : decode cX5_rule 24 = .ok (.getfield 12, 3) := by decide +kernel
theorem dX5_rule_27 : decode cX5_rule 27 = .ok (.invokevirtual 61, 3) := by decide +kernel
theorem dX5_rule_30 : decode cX5_rule 30 = .ok (.aload_n 0, 1) := by decide +kernel
theorem dX5_rule_31 : decode cX5_rule 31 = .ok (.getfield 12, 3) := by decide +kernel
theorem dX5_rule_34 : decode cX5_rule 34 = .ok (.getfield 107, 3) := by decide +kernel
theorem dX5_rule_37 : decode cX5_rule 37 = .ok (.istore_n 2, 1) := by decide +kernel
theorem dX5_rule_38 : decode cX5_rule 38 = .ok (.aload_n 0, 1) := by decide +kernel
theorem dX5_rule_39 : decode cX5_rule 39 = .ok (.getfield 12, 3) := by decide +kernel
theorem dX5_rule_42 : decode cX5_rule 42 = .ok (.iload_n 1, 1) := by decide +kernel
theorem dX5_rule_43 : decode cX5_rule 43 = .ok (.putfield 107, 3) := by decide +kernel
theorem dX5_rule_46 : decode cX5_rule 46 = .ok (.iload_n 2, 1) := by decide +kernel
theorem dX5_rule_47 : decode cX5_rule 47 = .ok (.ireturn, 1) := by decide +kernel
set_option maxRecDepth 20000 in
theorem ggX5_feed_X5_isLetter : GoodIn wsX5_feed wsX5_isLetter := goodIn_r _ [11] (by decide +kernel) (by decide +kernel)
set_option maxRecDepth 20000 in
theorem gX5_feed_X5_isLetter : GoodIn wsX5_feed (va_wsS RX5 111 yX5_isLetter wsX5_isLetter) := goodIn_app (goodIn_of _ (by decide +kernel)) ggX5_feed_X5_isLetter
set_option maxRecDepth 20000 in
theorem ggX5_feed_X4_keep : GoodIn wsX5_feed wsX4_keep := goodIn_r _ [16, 17, 18, 19, 20, 21, 15, 22, 23, 24, 25, 26, 27, 28, 29, 30, 31, 32, 33, 34, 35, 36, 37, 38, 39, 10, 40, 41, 42, 143, 144, 145, 133, 134, 135, 136, 137, 138, 139, 140, 141, 142] (by decide +kernel) (by decide +kernel)
set_option maxRecDepth 20000 in
theorem gX5_feed_X4_keep : GoodIn wsX5_feed (wsV RX5 61 RX4 yX4_keep wsX4_keep) := goodIn_app (goodIn_of _ (by decide +kernel)) ggX5_feed_X4_keep
set_option maxRecDepth 20000 in
theorem ggX5_feed_X5_readLetter : GoodIn wsX5_feed wsX5_readLetter := goodIn_r _ [46, 47, 5, 6, 48, 49, 50, 51, 52, 10, 53, 54, 55, 56, 57, 58, 59, 60, 61, 62, 63, 64, 65, 66, 67, 68, 69, 70, 71, 72, 73, 74, 39, 40, 75, 76, 77, 78, 79, 80, 81, 82, 83, 84, 85, 86, 87, 88, 89, 90, 91, 92, 93, 94, 95, 96, 97, 98, 99, 100, 101, 102, 103, 104, 27, 105, 37, 38, 106, 107, 108, 109, 110, 111, 112, 113, 30, 31, 34, 35, 36, 41, 42, 114, 115, 116, 117, 118, 119, 120, 121, 122, 123, 124, 125, 126, 127, 128, 129, 130, 131, 132, 133, 134, 135, 136, 137, 138, 139, 140, 141, 142, 146, 147, 148, 149, 150] (by decide +kernel) (by decide +kernel)
set_option maxRecDepth 20000 in
theorem gX5_feed_X5_readLetter : GoodIn wsX5_feed (wsV RX5 121 RX5 yX5_readLetter wsX5_readLetter) := goodIn_app (goodIn_of _ (by decide +kernel)) ggX5_feed_X5_readLetter
theorem dX5_feed_0 : decode cX5_feed 0 = .ok (.iload_n 1, 1) := by decide +kernel
theorem dX5_feed_1 : decode cX5_feed 1 = .ok (.invokestatic 111, 3) := by decide +kernel
theorem dX5_feed_4 : decode cX5_feed 4 = .ok (.ifCond .ne 13, 3) := by decide +kernel
theorem dX5_feed_7 : decode cX5_feed 7 = .ok (.new 45, 3) := by decide +kernel
theorem dX5_feed_10 : decode cX5_feed 10 = .ok (.dup, 1) := by decide +kernel
theorem dX5_feed_11 : decode cX5_feed 11 = .ok (.ldc 114, 2) := by decide +kernel
theorem dX5_feed_13 : decode cX5_feed 13 = .ok (.invokespecial 49, 3) := by decide +kernel
theorem dX5_feed_16 : decode cX5_feed 16 = .ok (.athrow, 1) := by decide +kernel
theorem dX5_feed_17 : decode cX5_feed 17 = .ok (.aload_n 0, 1) := by decide +kernel
theorem dX5_feed_18 : decode cX5_feed 18 = .ok (.getfield 12, 3) := by decide +kernel
theorem dX5_feed_21 : decode cX5_feed 21 = .ok (.getfield 116, 3) := by decide +kernel
theorem dX5_feed_24 : decode cX5_feed 24 = .ok (.sipush 9999, 3) := by decide +kernel
theorem dX5_feed_27 : decode cX5_feed 27 = .ok (.if_icmp .lt 13, 3) := by decide +kernel
theorem dX5_feed_30 : decode cX5_feed 30 = .ok (.new 56, 3) := by decide +kernel
theorem dX5_feed_33 : decode cX5_feed 33 = .ok (.dup, 1) := by decide +kernel
theorem dX5_feed_34 : decode cX5_feed 34 = .ok (.ldc 119, 2) := by decide +kernel
theorem dX5_feed_36 : decode cX5_feed 36 = .ok (.invokespecial 60, 3) := by decide +kernel
theorem dX5_feed_39 : decode cX5_feed 39 = .ok (.athrow, 1) := by decide +kernel
theorem dX5_feed_40 : decode cX5_feed 40 = .ok (.aload_n 0, 1) := by decide +kernel
theorem dX5_feed_41 : decode cX5_feed 41 = .ok (.getfield 19, 3) := by decide +kernel
theorem dX5_feed_44 : decode cX5_feed 44 = .ok (.aload_n 0, 1) := by decide +kernel
theorem dX5_feed_45 : decode cX5_feed 45 = .ok (.getfield 12, 3) := by decide +kernel
theorem dX5_feed_48 : decode cX5_feed 48 = .ok (.invokevirtual 61, 3) := by decide +kernel
theorem dX5_feed_51 : decode cX5_feed 51 = .ok (.aload_n 0, 1) := by decide +kernel
theorem dX5_feed_52 : decode cX5_feed 52 = .ok (.iload_n 1, 1) := by decide +kernel
theorem dX5_feed_53 : decode cX5_feed 53 = .ok (.invokevirtual 121, 3) := by decide +kernel
theorem dX5_feed_56 : decode cX5_feed 56 = .ok (.ireturn, 1) := by decide +kernel
set_option maxRecDepth 20000 in
theorem ggX5_begin_X4_keep : GoodIn wsX5_begin wsX4_keep := goodIn_r _ [8, 9, 10, 11, 12, 13, 7, 14, 15, 16, 17, 18, 19, 20, 21, 22, 23, 24, 25, 26, 27, 28, 29, 30, 31, 32, 33, 34, 35, 59, 60, 61, 49, 50, 51, 52, 53, 54, 55, 56, 57, 58] (by decide +kernel) (by decide +kernel)
set_option maxRecDepth 20000 in
theorem gX5_begin_X4_keep : GoodIn wsX5_begin (wsV RX5 61 RX4 yX4_keep wsX4_keep) := goodIn_app (goodIn_of _ (by decide +kernel)) ggX5_begin_X4_keep
set_option maxRecDepth 20000 in
theorem ggX5_begin_X2_forgetText : GoodIn wsX5_begin wsX2_forgetText := goodIn_r _ [39, 25, 26, 27, 28, 29, 30, 40, 41, 42, 19, 43, 22, 23, 34, 32, 35, 49, 50, 51, 52, 53, 54, 55, 56, 57, 58] (by decide +kernel) (by decide +kernel)
set_option maxRecDepth 20000 in
theorem gX5_begin_X2_forgetText : GoodIn wsX5_begin (wsV RX5 137 RX2 yX2_forgetText wsX2_forgetText) := goodIn_app (goodIn_of _ (by decide +kernel)) ggX5_begin_X2_forgetText
theorem dX5_begin_0 : decode cX5_begin 0 = .ok (.aload_n 0, 1) := by decide +kernel
theorem dX5_begin_1 : decode cX5_begin 1 = .ok (.getfield 19, 3) := by decide +kernel
theorem dX5_begin_4 : decode cX5_begin 4 = .ok (.aload_n 0, 1) := by decide +kernel
theorem dX5_begin_5 : decode cX5_begin 5 = .ok (.getfield 12, 3) := by decide +kernel
theorem dX5_begin_8 : decode cX5_begin 8 = .ok (.invokevirtual 61, 3) := by decide +kernel
theorem dX5_begin_11 : decode cX5_begin 11 = .ok (.aload_n 0, 1) := by decide +kernel
theorem dX5_begin_12 : decode cX5_begin 12 = .ok (.getfield 12, 3) := by decide +kernel
theorem dX5_begin_15 : decode cX5_begin 15 = .ok (.getfield 116, 3) := by decide +kernel
theorem dX5_begin_18 : decode cX5_begin 18 = .ok (.istore_n 1, 1) := by decide +kernel
theorem dX5_begin_19 : decode cX5_begin 19 = .ok (.aload_n 0, 1) := by decide +kernel
theorem dX5_begin_20 : decode cX5_begin 20 = .ok (.getfield 12, 3) := by decide +kernel
theorem dX5_begin_23 : decode cX5_begin 23 = .ok (.invokevirtual 137, 3) := by decide +kernel
theorem dX5_begin_26 : decode cX5_begin 26 = .ok (.iload_n 1, 1) := by decide +kernel
theorem dX5_begin_27 : decode cX5_begin 27 = .ok (.ireturn, 1) := by decide +kernel
set_option maxRecDepth 20000 in
theorem ggX5_append_X0_take : GoodIn wsX5_append wsX0_take := goodIn_r _ [11, 12, 13, 14, 15, 16, 22, 23] (by decide +kernel) (by decide +kernel)
set_option maxRecDepth 20000 in
theorem gX5_append_X0_take : GoodIn wsX5_append (wsV RX5 147 RX0 yX0_take wsX0_take) := goodIn_app (goodIn_of _ (by decide +kernel)) ggX5_append_X0_take
theorem dX5_append_0 : decode cX5_append 0 = .ok (.iload_n 1, 1) := by decide +kernel
theorem dX5_append_1 : decode cX5_append 1 = .ok (.bipush 33, 2) := by decide +kernel
theorem dX5_append_3 : decode cX5_append 3 = .ok (.if_icmp .lt 9, 3) := by decide +kernel
theorem dX5_append_6 : decode cX5_append 6 = .ok (.iload_n 1, 1) := by decide +kernel
theorem dX5_append_7 : decode cX5_append 7 = .ok (.bipush 126, 2) := by decide +kernel
theorem dX5_append_9 : decode cX5_append 9 = .ok (.if_icmp .le 13, 3) := by decide +kernel
theorem dX5_append_12 : decode cX5_append 12 = .ok (.new 45, 3) := by decide +kernel
theorem dX5_append_15 : decode cX5_append 15 = .ok (.dup, 1) := by decide +kernel
theorem dX5_append_16 : decode cX5_append 16 = .ok (.ldc 140, 2) := by decide +kernel
theorem dX5_append_18 : decode cX5_append 18 = .ok (.invokespecial 49, 3) := by decide +kernel
theorem dX5_append_21 : decode cX5_append 21 = .ok (.athrow, 1) := by decide +kernel
theorem dX5_append_22 : decode cX5_append 22 = .ok (.aload_n 0, 1) := by decide +kernel
theorem dX5_append_23 : decode cX5_append 23 = .ok (.getfield 33, 3) := by decide +kernel
theorem dX5_append_26 : decode cX5_append 26 = .ok (.getfield 142, 3) := by decide +kernel
theorem dX5_append_29 : decode cX5_append 29 = .ok (.bipush 60, 2) := by decide +kernel
theorem dX5_append_31 : decode cX5_append 31 = .ok (.if_icmp .lt 13, 3) := by decide +kernel
theorem dX5_append_34 : decode cX5_append 34 = .ok (.new 56, 3) := by decide +kernel
theorem dX5_append_37 : decode cX5_append 37 = .ok (.dup, 1) := by decide +kernel
theorem dX5_append_38 : decode cX5_append 38 = .ok (.ldc 145, 2) := by decide +kernel
theorem dX5_append_40 : decode cX5_append 40 = .ok (.invokespecial 60, 3) := by decide +kernel
theorem dX5_append_43 : decode cX5_append 43 = .ok (.athrow, 1) := by decide +kernel
theorem dX5_append_44 : decode cX5_append 44 = .ok (.aload_n 0, 1) := by decide +kernel
theorem dX5_append_45 : decode cX5_append 45 = .ok (.getfield 33, 3) := by decide +kernel
theorem dX5_append_48 : decode cX5_append 48 = .ok (.iload_n 1, 1) := by decide +kernel
theorem dX5_append_49 : decode cX5_append 49 = .ok (.invokevirtual 147, 3) := by decide +kernel
theorem dX5_append_52 : decode cX5_append 52 = .ok (.aload_n 0, 1) := by decide +kernel
theorem dX5_append_53 : decode cX5_append 53 = .ok (.getfield 33, 3) := by decide +kernel
theorem dX5_append_56 : decode cX5_append 56 = .ok (.getfield 142, 3) := by decide +kernel
theorem dX5_append_59 : decode cX5_append 59 = .ok (.ireturn, 1) := by decide +kernel
set_option maxRecDepth 20000 in
theorem ggX5_clearBuffer_X0_empty : GoodIn wsX5_clearBuffer wsX0_empty := goodIn_r _ [7, 8, 14, 15] (by decide +kernel) (by decide +kernel)
set_option maxRecDepth 20000 in
theorem gX5_clearBuffer_X0_empty : GoodIn wsX5_clearBuffer (wsV RX5 76 RX0 yX0_empty wsX0_empty) := goodIn_app (goodIn_of _ (by decide +kernel)) ggX5_clearBuffer_X0_empty
theorem dX5_clearBuffer_0 : decode cX5_clearBuffer 0 = .ok (.aload_n 0, 1) := by decide +kernel
theorem dX5_clearBuffer_1 : decode cX5_clearBuffer 1 = .ok (.getfield 33, 3) := by decide +kernel
theorem dX5_clearBuffer_4 : decode cX5_clearBuffer 4 = .ok (.getfield 142, 3) := by decide +kernel
theorem dX5_clearBuffer_7 : decode cX5_clearBuffer 7 = .ok (.istore_n 1, 1) := by decide +kernel
theorem dX5_clearBuffer_8 : decode cX5_clearBuffer 8 = .ok (.aload_n 0, 1) := by decide +kernel
theorem dX5_clearBuffer_9 : decode cX5_clearBuffer 9 = .ok (.getfield 33, 3) := by decide +kernel
theorem dX5_clearBuffer_12 : decode cX5_clearBuffer 12 = .ok (.invokevirtual 76, 3) := by decide +kernel
theorem dX5_clearBuffer_15 : decode cX5_clearBuffer 15 = .ok (.iload_n 1, 1) := by decide +kernel
theorem dX5_clearBuffer_16 : decode cX5_clearBuffer 16 = .ok (.ireturn, 1) := by decide +kernel
set_option maxRecDepth 20000 in
theorem ggX5_undo_X4_giveBack : GoodIn wsX5_undo wsX4_giveBack := goodIn_r _ [12, 13, 14, 15, 16, 11, 17, 18, 19, 20, 21, 22, 23, 24, 25, 26, 27, 28, 29, 30, 31, 32, 33, 34, 35, 36, 37, 38, 39, 86, 87, 88, 89, 90, 91, 92, 93, 94, 95, 96, 97, 98] (by decide +kernel) (by decide +kernel)
set_option maxRecDepth 20000 in
theorem gX5_undo_X4_giveBack : GoodIn wsX5_undo (wsV RX5 161 RX4 yX4_giveBack wsX4_giveBack) := goodIn_app (goodIn_of _ (by decide +kernel)) ggX5_undo_X4_giveBack
set_option maxRecDepth 20000 in
theorem ggX5_undo_X1_rebuild : GoodIn wsX5_undo wsX1_rebuild := goodIn_r _ [44, 45, 46, 47, 48, 49, 43, 50, 51, 35, 36, 37, 38, 39, 52, 53, 54, 55, 56, 57, 58, 59, 60, 61, 62, 63, 64, 65, 66, 67, 68, 69, 70, 71, 72, 73, 74, 75, 76, 77, 78, 79, 80, 99, 100, 101, 102, 103] (by decide +kernel) (by decide +kernel)
set_option maxRecDepth 20000 in
theorem gX5_undo_X1_rebuild : GoodIn wsX5_undo (wsV RX5 79 RX1 yX1_rebuild wsX1_rebuild) := goodIn_app (goodIn_of _ (by decide +kernel)) ggX5_undo_X1_rebuild
theorem dX5_undo_0 : decode cX5_undo 0 = .ok (.aload_n 0, 1) := by decide +kernel
theorem dX5_undo_1 : decode cX5_undo 1 = .ok (.getfield 19, 3) := by decide +kernel
theorem dX5_undo_4 : decode cX5_undo 4 = .ok (.getfield 156, 3) := by decide +kernel
theorem dX5_undo_7 : decode cX5_undo 7 = .ok (.ifCond .ne 13, 3) := by decide +kernel
theorem dX5_undo_10 : decode cX5_undo 10 = .ok (.new 56, 3) := by decide +kernel
theorem dX5_undo_13 : decode cX5_undo 13 = .ok (.dup, 1) := by decide +kernel
theorem dX5_undo_14 : decode cX5_undo 14 = .ok (.ldc 159, 2) := by decide +kernel
theorem dX5_undo_16 : decode cX5_undo 16 = .ok (.invokespecial 60, 3) := by decide +kernel
theorem dX5_undo_19 : decode cX5_undo 19 = .ok (.athrow, 1) := by decide +kernel
theorem dX5_undo_20 : decode cX5_undo 20 = .ok (.aload_n 0, 1) := by decide +kernel
theorem dX5_undo_21 : decode cX5_undo 21 = .ok (.getfield 19, 3) := by decide +kernel
theorem dX5_undo_24 : decode cX5_undo 24 = .ok (.aload_n 0, 1) := by decide +kernel
theorem dX5_undo_25 : decode cX5_undo 25 = .ok (.getfield 12, 3) := by decide +kernel
theorem dX5_undo_28 : decode cX5_undo 28 = .ok (.invokevirtual 161, 3) := by decide +kernel
theorem dX5_undo_31 : decode cX5_undo 31 = .ok (.aload_n 0, 1) := by decide +kernel
theorem dX5_undo_32 : decode cX5_undo 32 = .ok (.getfield 26, 3) := by decide +kernel
theorem dX5_undo_35 : decode cX5_undo 35 = .ok (.aload_n 0, 1) := by decide +kernel
theorem dX5_undo_36 : decode cX5_undo 36 = .ok (.getfield 12, 3) := by decide +kernel
theorem dX5_undo_39 : decode cX5_undo 39 = .ok (.getfield 65, 3) := by decide +kernel
theorem dX5_undo_42 : decode cX5_undo 42 = .ok (.invokevirtual 79, 3) := by decide +kernel
theorem dX5_undo_45 : decode cX5_undo 45 = .ok (.aload_n 0, 1) := by decide +kernel
theorem dX5_undo_46 : decode cX5_undo 46 = .ok (.getfield 19, 3) := by decide +kernel
theorem dX5_undo_49 : decode cX5_undo 49 = .ok (.getfield 156, 3) := by decide +kernel
theorem dX5_undo_52 : decode cX5_undo 52 = .ok (.ireturn, 1) := by decide +kernel
set_option maxRecDepth 20000 in
theorem ggX5_pattern_X5_isSlot : GoodIn wsX5_pattern wsX5_isSlot := goodIn_r _ [8] (by decide +kernel) (by decide +kernel)
set_option maxRecDepth 20000 in
theorem gX5_pattern_X5_isSlot : GoodIn wsX5_pattern (va_wsS RX5 83 yX5_isSlot wsX5_isSlot) := goodIn_app (goodIn_of _ (by decide +kernel)) ggX5_pattern_X5_isSlot
set_option maxRecDepth 20000 in
theorem ggX5_pattern_X5_patternProperty : GoodIn wsX5_pattern wsX5_patternProperty := goodIn_r _ [12, 13, 14, 15, 16, 17, 18, 19, 7, 20, 21, 22, 23, 24, 25, 26, 27, 28, 29, 30, 31, 32, 33, 34, 35, 36, 37, 38, 39, 40, 41, 42, 43, 44, 45, 46, 47, 48, 49, 50, 51, 52, 53, 54, 55, 56, 57, 58, 59, 60, 61, 62, 63, 64, 65, 66, 67, 68, 69, 70, 71, 72, 73, 74, 75, 76, 77, 78, 79, 80, 81, 82, 83, 84, 85, 86] (by decide +kernel) (by decide +kernel)
set_option maxRecDepth 20000 in
theorem gX5_pattern_X5_patternProperty : GoodIn wsX5_pattern (wsV RX5 166 RX5 yX5_patternProperty wsX5_patternProperty) := goodIn_app (goodIn_of _ (by decide +kernel)) ggX5_pattern_X5_patternProperty
theorem dX5_pattern_0 : decode cX5_pattern 0 = .ok (.iload_n 1, 1) := by decide +kernel
theorem dX5_pattern_1 : decode cX5_pattern 1 = .ok (.invokestatic 83, 3) := by decide +kernel
theorem dX5_pattern_4 : decode cX5_pattern 4 = .ok (.ifCond .ne 13, 3) := by decide +kernel
theorem dX5_pattern_7 : decode cX5_pattern 7 = .ok (.new 87, 3) := by decide +kernel
theorem dX5_pattern_10 : decode cX5_pattern 10 = .ok (.dup, 1) := by decide +kernel
theorem dX5_pattern_11 : decode cX5_pattern 11 = .ok (.ldc 89, 2) := by decide +kernel
theorem dX5_pattern_13 : decode cX5_pattern 13 = .ok (.invokespecial 91, 3) := by decide +kernel
theorem dX5_pattern_16 : decode cX5_pattern 16 = .ok (.athrow, 1) := by decide +kernel
theorem dX5_pattern_17 : decode cX5_pattern 17 = .ok (.iload_n 2, 1) := by decide +kernel
theorem dX5_pattern_18 : decode cX5_pattern 18 = .ok (.ifCond .lt 9, 3) := by decide +kernel
theorem dX5_pattern_21 : decode cX5_pattern 21 = .ok (.iload_n 2, 1) := by decide +kernel
theorem dX5_pattern_22 : decode cX5_pattern 22 = .ok (.bipush 6, 2) := by decide +kernel
theorem dX5_pattern_24 : decode cX5_pattern 24 = .ok (.if_icmp .lt 13, 3) := by decide +kernel
theorem dX5_pattern_27 : decode cX5_pattern 27 = .ok (.new 45, 3) := by decide +kernel
theorem dX5_pattern_30 : decode cX5_pattern 30 = .ok (.dup, 1) := by decide +kernel
theorem dX5_pattern_31 : decode cX5_pattern 31 = .ok (.ldc 164, 2) := by decide +kernel
theorem dX5_pattern_33 : decode cX5_pattern 33 = .ok (.invokespecial 49, 3) := by decide +kernel
theorem dX5_pattern_36 : decode cX5_pattern 36 = .ok (.athrow, 1) := by decide +kernel
theorem dX5_pattern_37 : decode cX5_pattern 37 = .ok (.aload_n 0, 1) := by decide +kernel
theorem dX5_pattern_38 : decode cX5_pattern 38 = .ok (.iload_n 1, 1) := by decide +kernel
theorem dX5_pattern_39 : decode cX5_pattern 39 = .ok (.iload_n 2, 1) := by decide +kernel
theorem dX5_pattern_40 : decode cX5_pattern 40 = .ok (.invokevirtual 166, 3) := by decide +kernel
theorem dX5_pattern_43 : decode cX5_pattern 43 = .ok (.ireturn, 1) := by decide +kernel
set_option maxRecDepth 20000 in
theorem ggX5_letter_X5_isSlot : GoodIn wsX5_letter wsX5_isSlot := goodIn_r _ [8] (by decide +kernel) (by decide +kernel)
set_option maxRecDepth 20000 in
theorem gX5_letter_X5_isSlot : GoodIn wsX5_letter (va_wsS RX5 83 yX5_isSlot wsX5_isSlot) := goodIn_app (goodIn_of _ (by decide +kernel)) ggX5_letter_X5_isSlot
set_option maxRecDepth 20000 in
theorem ggX5_letter_X5_patternIn : GoodIn wsX5_letter wsX5_patternIn := goodIn_r _ [12, 13, 14, 15, 16, 7, 17, 28, 29, 30, 31, 32, 33, 34, 35, 36, 37, 38, 39, 40, 41, 42] (by decide +kernel) (by decide +kernel)
set_option maxRecDepth 20000 in
theorem gX5_letter_X5_patternIn : GoodIn wsX5_letter (wsV RX5 92 RX5 yX5_patternIn wsX5_patternIn) := goodIn_app (goodIn_of _ (by decide +kernel)) ggX5_letter_X5_patternIn
set_option maxRecDepth 20000 in
theorem ggX5_letter_X3_letterAt : GoodIn wsX5_letter wsX3_letterAt := goodIn_r _ [21, 22, 23, 20, 24, 25, 26, 27] (by decide +kernel) (by decide +kernel)
set_option maxRecDepth 20000 in
theorem gX5_letter_X3_letterAt : GoodIn wsX5_letter (va_wsS RX5 172 yX3_letterAt wsX3_letterAt) := goodIn_app (goodIn_of _ (by decide +kernel)) ggX5_letter_X3_letterAt
theorem dX5_letter_0 : decode cX5_letter 0 = .ok (.iload_n 1, 1) := by decide +kernel
theorem dX5_letter_1 : decode cX5_letter 1 = .ok (.invokestatic 83, 3) := by decide +kernel
theorem dX5_letter_4 : decode cX5_letter 4 = .ok (.ifCond .ne 13, 3) := by decide +kernel
theorem dX5_letter_7 : decode cX5_letter 7 = .ok (.new 87, 3) := by decide +kernel
theorem dX5_letter_10 : decode cX5_letter 10 = .ok (.dup, 1) := by decide +kernel
theorem dX5_letter_11 : decode cX5_letter 11 = .ok (.ldc 89, 2) := by decide +kernel
theorem dX5_letter_13 : decode cX5_letter 13 = .ok (.invokespecial 91, 3) := by decide +kernel
theorem dX5_letter_16 : decode cX5_letter 16 = .ok (.athrow, 1) := by decide +kernel
theorem dX5_letter_17 : decode cX5_letter 17 = .ok (.iload_n 2, 1) := by decide +kernel
theorem dX5_letter_18 : decode cX5_letter 18 = .ok (.ifCond .lt 9, 3) := by decide +kernel
theorem dX5_letter_21 : decode cX5_letter 21 = .ok (.iload_n 2, 1) := by decide +kernel
theorem dX5_letter_22 : decode cX5_letter 22 = .ok (.bipush 8, 2) := by decide +kernel
theorem dX5_letter_24 : decode cX5_letter 24 = .ok (.if_icmp .lt 13, 3) := by decide +kernel
theorem dX5_letter_27 : decode cX5_letter 27 = .ok (.new 45, 3) := by decide +kernel
theorem dX5_letter_30 : decode cX5_letter 30 = .ok (.dup, 1) := by decide +kernel
theorem dX5_letter_31 : decode cX5_letter 31 = .ok (.ldc 170, 2) := by decide +kernel
theorem dX5_letter_33 : decode cX5_letter 33 = .ok (.invokespecial 49, 3) := by decide +kernel
theorem dX5_letter_36 : decode cX5_letter 36 = .ok (.athrow, 1) := by decide +kernel
theorem dX5_letter_37 : decode cX5_letter 37 = .ok (.aload_n 0, 1) := by decide +kernel
theorem dX5_letter_38 : decode cX5_letter 38 = .ok (.iload_n 1, 1) := by decide +kernel
theorem dX5_letter_39 : decode cX5_letter 39 = .ok (.invokevirtual 92, 3) := by decide +kernel
theorem dX5_letter_42 : decode cX5_letter 42 = .ok (.iload_n 2, 1) := by decide +kernel
theorem dX5_letter_43 : decode cX5_letter 43 = .ok (.invokestatic 172, 3) := by decide +kernel
theorem dX5_letter_46 : decode cX5_letter 46 = .ok (.ireturn, 1) := by decide +kernel
set_option maxRecDepth 20000 in
theorem ggX5_state_X5_stateProperty : GoodIn wsX5_state wsX5_stateProperty := goodIn_r _ [11, 5, 12, 13, 14, 15, 16, 10, 17, 18, 19, 20, 21, 22, 23, 24, 25, 26, 27, 28, 29, 30, 31, 32, 33, 34, 35, 36, 37, 38, 39, 40, 41, 42, 43, 44, 45, 46, 47, 48, 49, 50, 51, 52, 53, 54, 55, 56, 57, 58, 59, 60, 61, 62, 63, 64] (by decide +kernel) (by decide +kernel)
set_option maxRecDepth 20000 in
theorem gX5_state_X5_stateProperty : GoodIn wsX5_state (wsV RX5 182 RX5 yX5_stateProperty wsX5_stateProperty) := goodIn_app (goodIn_of _ (by decide +kernel)) ggX5_state_X5_stateProperty
theorem dX5_state_0 : decode cX5_state 0 = .ok (.iload_n 1, 1) := by decide +kernel
theorem dX5_state_1 : decode cX5_state 1 = .ok (.ifCond .lt 14, 3) := by decide +kernel
theorem dX5_state_4 : decode cX5_state 4 = .ok (.iload_n 1, 1) := by decide +kernel
theorem dX5_state_5 : decode cX5_state 5 = .ok (.aload_n 0, 1) := by decide +kernel
theorem dX5_state_6 : decode cX5_state 6 = .ok (.getfield 26, 3) := by decide +kernel
theorem dX5_state_9 : decode cX5_state 9 = .ok (.getfield 177, 3) := by decide +kernel
theorem dX5_state_12 : decode cX5_state 12 = .ok (.if_icmp .lt 13, 3) := by decide +kernel
theorem dX5_state_15 : decode cX5_state 15 = .ok (.new 87, 3) := by decide +kernel
theorem dX5_state_18 : decode cX5_state 18 = .ok (.dup, 1) := by decide +kernel
theorem dX5_state_19 : decode cX5_state 19 = .ok (.ldc 178, 2) := by decide +kernel
theorem dX5_state_21 : decode cX5_state 21 = .ok (.invokespecial 91, 3) := by decide +kernel
theorem dX5_state_24 : decode cX5_state 24 = .ok (.athrow, 1) := by decide +kernel
theorem dX5_state_25 : decode cX5_state 25 = .ok (.iload_n 2, 1) := by decide +kernel
theorem dX5_state_26 : decode cX5_state 26 = .ok (.ifCond .lt 9, 3) := by decide +kernel
theorem dX5_state_29 : decode cX5_state 29 = .ok (.iload_n 2, 1) := by decide +kernel
theorem dX5_state_30 : decode cX5_state 30 = .ok (.bipush 9, 2) := by decide +kernel
theorem dX5_state_32 : decode cX5_state 32 = .ok (.if_icmp .lt 13, 3) := by decide +kernel
theorem dX5_state_35 : decode cX5_state 35 = .ok (.new 45, 3) := by decide +kernel
theorem dX5_state_38 : decode cX5_state 38 = .ok (.dup, 1) := by decide +kernel
theorem dX5_state_39 : decode cX5_state 39 = .ok (.ldc 180, 2) := by decide +kernel
theorem dX5_state_41 : decode cX5_state 41 = .ok (.invokespecial 49, 3) := by decide +kernel
theorem dX5_state_44 : decode cX5_state 44 = .ok (.athrow, 1) := by decide +kernel
theorem dX5_state_45 : decode cX5_state 45 = .ok (.aload_n 0, 1) := by decide +kernel
theorem dX5_state_46 : decode cX5_state 46 = .ok (.iload_n 1, 1) := by decide +kernel
theorem dX5_state_47 : decode cX5_state 47 = .ok (.iload_n 2, 1) := by decide +kernel
theorem dX5_state_48 : decode cX5_state 48 = .ok (.invokevirtual 182, 3) := by decide +kernel
theorem dX5_state_51 : decode cX5_state 51 = .ok (.ireturn, 1) := by decide +kernel
set_option maxRecDepth 20000 in
theorem ggX5_count_X5_numberTold : GoodIn wsX5_count wsX5_numberTold := goodIn_r _ [7, 8, 9, 10, 11, 12, 13, 14, 15, 16, 17, 18, 19, 20, 6, 21, 22, 23, 24, 25, 26, 27, 28, 29, 30, 31, 32, 33, 34, 35, 36, 37, 38, 39, 40, 41, 42, 43, 44, 45, 46, 47, 48, 49, 50, 51, 52, 53, 54, 55, 56, 57, 58, 59, 60, 61, 62, 63, 64, 65, 66, 67, 68, 69, 70, 71, 72, 73, 74, 75, 76, 77, 78, 79, 80, 81, 82, 83] (by decide +kernel) (by decide +kernel)
set_option maxRecDepth 20000 in
theorem gX5_count_X5_numberTold : GoodIn wsX5_count (wsV RX5 187 RX5 yX5_numberTold wsX5_numberTold) := goodIn_app (goodIn_of _ (by decide +kernel)) ggX5_count_X5_numberTold
theorem dX5_count_0 : decode cX5_count 0 = .ok (.iload_n 1, 1) := by decide +kernel
theorem dX5_count_1 : decode cX5_count 1 = .ok (.ifCond .lt 9, 3) := by decide +kernel
theorem dX5_count_4 : decode cX5_count 4 = .ok (.iload_n 1, 1) := by decide +kernel
theorem dX5_count_5 : decode cX5_count 5 = .ok (.bipush 10, 2) := by decide +kernel
theorem dX5_count_7 : decode cX5_count 7 = .ok (.if_icmp .lt 13, 3) := by decide +kernel
theorem dX5_count_10 : decode cX5_count 10 = .ok (.new 45, 3) := by decide +kernel
theorem dX5_count_13 : decode cX5_count 13 = .ok (.dup, 1) := by decide +kernel
theorem dX5_count_14 : decode cX5_count 14 = .ok (.ldc 185, 2) := by decide +kernel
theorem dX5_count_16 : decode cX5_count 16 = .ok (.invokespecial 49, 3) := by decide +kernel
theorem dX5_count_19 : decode cX5_count 19 = .ok (.athrow, 1) := by decide +kernel
theorem dX5_count_20 : decode cX5_count 20 = .ok (.aload_n 0, 1) := by decide +kernel
theorem dX5_count_21 : decode cX5_count 21 = .ok (.iload_n 1, 1) := by decide +kernel
theorem dX5_count_22 : decode cX5_count 22 = .ok (.invokevirtual 187, 3) := by decide +kernel
theorem dX5_count_25 : decode cX5_count 25 = .ok (.ireturn, 1) := by decide +kernel
theorem dX5_setting_0 : decode cX5_setting 0 = .ok (.aload_n 0, 1) := by decide +kernel
theorem dX5_setting_1 : decode cX5_setting 1 = .ok (.getfield 12, 3) := by decide +kernel
theorem dX5_setting_4 : decode cX5_setting 4 = .ok (.getfield 107, 3) := by decide +kernel
theorem dX5_setting_7 : decode cX5_setting 7 = .ok (.ireturn, 1) := by decide +kernel
set_option maxRecDepth 20000 in
theorem ggX5_ifFed_X5_isLetter : GoodIn wsX5_ifFed wsX5_isLetter := goodIn_r _ [6] (by decide +kernel) (by decide +kernel)
set_option maxRecDepth 20000 in
theorem gX5_ifFed_X5_isLetter : GoodIn wsX5_ifFed (va_wsS RX5 111 yX5_isLetter wsX5_isLetter) := goodIn_app (goodIn_of _ (by decide +kernel)) ggX5_ifFed_X5_isLetter
set_option maxRecDepth 20000 in
theorem ggX5_ifFed_X5_fedNumber : GoodIn wsX5_ifFed wsX5_fedNumber := goodIn_r _ [10, 11, 12, 13, 14, 15, 16, 17, 5, 18, 19, 20, 21, 22, 23, 24, 25, 26, 27, 28, 29, 30, 31, 32, 33, 34, 35, 36, 37, 38, 39, 40, 41, 42, 43, 44, 45, 46, 47, 48, 49, 50, 51, 52, 53, 54, 55, 56, 57, 58, 59, 60, 61, 62, 63, 64, 65, 66, 67, 68, 69, 70, 71, 72, 73, 74, 75, 76, 77, 78, 79, 80, 81, 82, 83, 84, 85, 86, 87, 88, 89, 90, 91, 92, 93, 94, 95, 96, 97, 98, 99] (by decide +kernel) (by decide +kernel)
set_option maxRecDepth 20000 in
theorem gX5_ifFed_X5_fedNumber : GoodIn wsX5_ifFed (wsV RX5 192 RX5 yX5_fedNumber wsX5_fedNumber) := goodIn_app (goodIn_of _ (by decide +kernel)) ggX5_ifFed_X5_fedNumber
theorem dX5_ifFed_0 : decode cX5_ifFed 0 = .ok (.iload_n 1, 1) := by decide +kernel
theorem dX5_ifFed_1 : decode cX5_ifFed 1 = .ok (.invokestatic 111, 3) := by decide +kernel
theorem dX5_ifFed_4 : decode cX5_ifFed 4 = .ok (.ifCond .ne 13, 3) := by decide +kernel
theorem dX5_ifFed_7 : decode cX5_ifFed 7 = .ok (.new 45, 3) := by decide +kernel
theorem dX5_ifFed_10 : decode cX5_ifFed 10 = .ok (.dup, 1) := by decide +kernel
theorem dX5_ifFed_11 : decode cX5_ifFed 11 = .ok (.ldc 114, 2) := by decide +kernel
theorem dX5_ifFed_13 : decode cX5_ifFed 13 = .ok (.invokespecial 49, 3) := by decide +kernel
theorem dX5_ifFed_16 : decode cX5_ifFed 16 = .ok (.athrow, 1) := by decide +kernel
theorem dX5_ifFed_17 : decode cX5_ifFed 17 = .ok (.iload_n 2, 1) := by decide +kernel
theorem dX5_ifFed_18 : decode cX5_ifFed 18 = .ok (.ifCond .lt 8, 3) := by decide +kernel
theorem dX5_ifFed_21 : decode cX5_ifFed 21 = .ok (.iload_n 2, 1) := by decide +kernel
theorem dX5_ifFed_22 : decode cX5_ifFed 22 = .ok (.iconst 4, 1) := by decide +kernel
theorem dX5_ifFed_23 : decode cX5_ifFed 23 = .ok (.if_icmp .lt 13, 3) := by decide +kernel
theorem dX5_ifFed_26 : decode cX5_ifFed 26 = .ok (.new 45, 3) := by decide +kernel
theorem dX5_ifFed_29 : decode cX5_ifFed 29 = .ok (.dup, 1) := by decide +kernel
theorem dX5_ifFed_30 : decode cX5_ifFed 30 = .ok (.ldc 190, 2) := by decide +kernel
theorem dX5_ifFed_32 : decode cX5_ifFed 32 = .ok (.invokespecial 49, 3) := by decide +kernel
theorem dX5_ifFed_35 : decode cX5_ifFed 35 = .ok (.athrow, 1) := by decide +kernel
theorem dX5_ifFed_36 : decode cX5_ifFed 36 = .ok (.aload_n 0, 1) := by decide +kernel
theorem dX5_ifFed_37 : decode cX5_ifFed 37 = .ok (.iload_n 1, 1) := by decide +kernel
theorem dX5_ifFed_38 : decode cX5_ifFed 38 = .ok (.iload_n 2, 1) := by decide +kernel
theorem dX5_ifFed_39 : decode cX5_ifFed 39 = .ok (.invokevirtual 192, 3) := by decide +kernel
theorem dX5_ifFed_42 : decode cX5_ifFed 42 = .ok (.ireturn, 1) := by decide +kernel
set_option maxRecDepth 20000 in
theorem ggX5_lettersTo_X5_isSlot : GoodIn wsX5_lettersTo wsX5_isSlot := goodIn_r _ [6] (by decide +kernel) (by decide +kernel)
set_option maxRecDepth 20000 in
theorem gX5_lettersTo_X5_isSlot : GoodIn wsX5_lettersTo (va_wsS RX5 83 yX5_isSlot wsX5_isSlot) := goodIn_app (goodIn_of _ (by decide +kernel)) ggX5_lettersTo_X5_isSlot
set_option maxRecDepth 20000 in
theorem ggX5_lettersTo_X5_patternIn : GoodIn wsX5_lettersTo wsX5_patternIn := goodIn_r _ [10, 11, 12, 13, 14, 5, 15, 58, 59, 60, 61, 62, 63, 64, 65, 66, 67, 68, 69, 70, 71, 72] (by decide +kernel) (by decide +kernel)
set_option maxRecDepth 20000 in
theorem gX5_lettersTo_X5_patternIn : GoodIn wsX5_lettersTo (wsV RX5 92 RX5 yX5_patternIn wsX5_patternIn) := goodIn_app (goodIn_of _ (by decide +kernel)) ggX5_lettersTo_X5_patternIn
set_option maxRecDepth 20000 in
theorem ggX5_lettersTo_X5_fewestLettersTo : GoodIn wsX5_lettersTo wsX5_fewestLettersTo := goodIn_r _ [19, 20, 21, 22, 23, 24, 5, 25, 11, 26, 27, 28, 29, 30, 31, 32, 33, 34, 35, 36, 37, 38, 39, 40, 41, 42, 43, 44, 45, 46, 47, 14, 15, 13, 48, 49, 50, 51, 52, 53, 54, 55, 56, 57, 58, 59, 60, 61, 62, 73, 74, 75, 76, 77, 63, 64, 65, 66, 67, 68, 69, 70, 71, 72] (by decide +kernel) (by decide +kernel)
set_option maxRecDepth 20000 in
theorem gX5_lettersTo_X5_fewestLettersTo : GoodIn wsX5_lettersTo (wsV RX5 195 RX5 yX5_fewestLettersTo wsX5_fewestLettersTo) := goodIn_app (goodIn_of _ (by decide +kernel)) ggX5_lettersTo_X5_fewestLettersTo
theorem dX5_lettersTo_0 : decode cX5_lettersTo 0 = .ok (.iload_n 1, 1) := by decide +kernel
theorem dX5_lettersTo_1 : decode cX5_lettersTo 1 = .ok (.invokestatic 83, 3) := by decide +kernel
theorem dX5_lettersTo_4 : decode cX5_lettersTo 4 = .ok (.ifCond .ne 13, 3) := by decide +kernel
theorem dX5_lettersTo_7 : decode cX5_lettersTo 7 = .ok (.new 87, 3) := by decide +kernel
theorem dX5_lettersTo_10 : decode cX5_lettersTo 10 = .ok (.dup, 1) := by decide +kernel
theorem dX5_lettersTo_11 : decode cX5_lettersTo 11 = .ok (.ldc 89, 2) := by decide +kernel
theorem dX5_lettersTo_13 : decode cX5_lettersTo 13 = .ok (.invokespecial 91, 3) := by decide +kernel
theorem dX5_lettersTo_16 : decode cX5_lettersTo 16 = .ok (.athrow, 1) := by decide +kernel
theorem dX5_lettersTo_17 : decode cX5_lettersTo 17 = .ok (.aload_n 0, 1) := by decide +kernel
theorem dX5_lettersTo_18 : decode cX5_lettersTo 18 = .ok (.aload_n 0, 1) := by decide +kernel
theorem dX5_lettersTo_19 : decode cX5_lettersTo 19 = .ok (.iload_n 1, 1) := by decide +kernel
theorem dX5_lettersTo_20 : decode cX5_lettersTo 20 = .ok (.invokevirtual 92, 3) := by decide +kernel
theorem dX5_lettersTo_23 : decode cX5_lettersTo 23 = .ok (.invokevirtual 195, 3) := by decide +kernel
theorem dX5_lettersTo_26 : decode cX5_lettersTo 26 = .ok (.ireturn, 1) := by decide +kernel
set_option maxRecDepth 20000 in
theorem ggX5_ifRepeated_X5_isLetter : GoodIn wsX5_ifRepeated wsX5_isLetter := goodIn_r _ [6] (by decide +kernel) (by decide +kernel)
set_option maxRecDepth 20000 in
theorem gX5_ifRepeated_X5_isLetter : GoodIn wsX5_ifRepeated (va_wsS RX5 111 yX5_isLetter wsX5_isLetter) := goodIn_app (goodIn_of _ (by decide +kernel)) ggX5_ifRepeated_X5_isLetter
set_option maxRecDepth 20000 in
theorem ggX5_ifRepeated_X5_matchesIfRepeated : GoodIn wsX5_ifRepeated wsX5_matchesIfRepeated := goodIn_r _ [10, 11, 12, 13, 14, 15, 16, 17, 5, 18, 19, 20, 21, 22, 23, 24, 25, 26, 27, 28, 29, 30, 31, 32, 33, 34, 35, 36, 37, 38, 39, 40, 41, 42, 43, 44, 45, 46, 47, 48, 49, 50, 51, 52, 53, 54, 55, 56, 57, 58, 59, 60, 61, 62, 63, 64, 65, 66, 67, 68, 69, 70, 71, 72, 73, 74, 75, 76, 77, 78, 79, 80, 81, 82, 83] (by decide +kernel) (by decide +kernel)
set_option maxRecDepth 20000 in
theorem gX5_ifRepeated_X5_matchesIfRepeated : GoodIn wsX5_ifRepeated (wsV RX5 200 RX5 yX5_matchesIfRepeated wsX5_matchesIfRepeated) := goodIn_app (goodIn_of _ (by decide +kernel)) ggX5_ifRepeated_X5_matchesIfRepeated
theorem dX5_ifRepeated_0 : decode cX5_ifRepeated 0 = .ok (.iload_n 1, 1) := by decide +kernel
theorem dX5_ifRepeated_1 : decode cX5_ifRepeated 1 = .ok (.invokestatic 111, 3) := by decide +kernel
theorem dX5_ifRepeated_4 : decode cX5_ifRepeated 4 = .ok (.ifCond .ne 13, 3) := by decide +kernel
theorem dX5_ifRepeated_7 : decode cX5_ifRepeated 7 = .ok (.new 45, 3) := by decide +kernel
theorem dX5_ifRepeated_10 : decode cX5_ifRepeated 10 = .ok (.dup, 1) := by decide +kernel
theorem dX5_ifRepeated_11 : decode cX5_ifRepeated 11 = .ok (.ldc 114, 2) := by decide +kernel
theorem dX5_ifRepeated_13 : decode cX5_ifRepeated 13 = .ok (.invokespecial 49, 3) := by decide +kernel
theorem dX5_ifRepeated_16 : decode cX5_ifRepeated 16 = .ok (.athrow, 1) := by decide +kernel
theorem dX5_ifRepeated_17 : decode cX5_ifRepeated 17 = .ok (.iload_n 2, 1) := by decide +kernel
theorem dX5_ifRepeated_18 : decode cX5_ifRepeated 18 = .ok (.iconst 1, 1) := by decide +kernel
theorem dX5_ifRepeated_19 : decode cX5_ifRepeated 19 = .ok (.if_icmp .lt 10, 3) := by decide +kernel
theorem dX5_ifRepeated_22 : decode cX5_ifRepeated 22 = .ok (.iload_n 2, 1) := by decide +kernel
theorem dX5_ifRepeated_23 : decode cX5_ifRepeated 23 = .ok (.sipush 200, 3) := by decide +kernel
theorem dX5_ifRepeated_26 : decode cX5_ifRepeated 26 = .ok (.if_icmp .le 13, 3) := by decide +kernel
theorem dX5_ifRepeated_29 : decode cX5_ifRepeated 29 = .ok (.new 45, 3) := by decide +kernel
theorem dX5_ifRepeated_32 : decode cX5_ifRepeated 32 = .ok (.dup, 1) := by decide +kernel
theorem dX5_ifRepeated_33 : decode cX5_ifRepeated 33 = .ok (.ldc 198, 2) := by decide +kernel
theorem dX5_ifRepeated_35 : decode cX5_ifRepeated 35 = .ok (.invokespecial 49, 3) := by decide +kernel
theorem dX5_ifRepeated_38 : decode cX5_ifRepeated 38 = .ok (.athrow, 1) := by decide +kernel
theorem dX5_ifRepeated_39 : decode cX5_ifRepeated 39 = .ok (.aload_n 0, 1) := by decide +kernel
theorem dX5_ifRepeated_40 : decode cX5_ifRepeated 40 = .ok (.iload_n 1, 1) := by decide +kernel
theorem dX5_ifRepeated_41 : decode cX5_ifRepeated 41 = .ok (.iload_n 2, 1) := by decide +kernel
theorem dX5_ifRepeated_42 : decode cX5_ifRepeated 42 = .ok (.invokevirtual 200, 3) := by decide +kernel
theorem dX5_ifRepeated_45 : decode cX5_ifRepeated 45 = .ok (.ireturn, 1) := by decide +kernel
theorem dX5_at_0 : decode cX5_at 0 = .ok (.aload_n 0, 1) := by decide +kernel
theorem dX5_at_1 : decode cX5_at 1 = .ok (.ifnull 19, 3) := by decide +kernel
theorem dX5_at_4 : decode cX5_at 4 = .ok (.iload_n 1, 1) := by decide +kernel
theorem dX5_at_5 : decode cX5_at 5 = .ok (.ifCond .lt 15, 3) := by decide +kernel
theorem dX5_at_8 : decode cX5_at 8 = .ok (.iload_n 1, 1) := by decide +kernel
theorem dX5_at_9 : decode cX5_at 9 = .ok (.aload_n 0, 1) := by decide +kernel
theorem dX5_at_10 : decode cX5_at 10 = .ok (.arraylength, 1) := by decide +kernel
theorem dX5_at_11 : decode cX5_at 11 = .ok (.if_icmp .ge 9, 3) := by decide +kernel
theorem dX5_at_14 : decode cX5_at 14 = .ok (.aload_n 0, 1) := by decide +kernel
theorem dX5_at_15 : decode cX5_at 15 = .ok (.iload_n 1, 1) := by decide +kernel
theorem dX5_at_16 : decode cX5_at 16 = .ok (.iaload, 1) := by decide +kernel
theorem dX5_at_17 : decode cX5_at 17 = .ok (.goto 4, 3) := by decide +kernel
theorem dX5_at_20 : decode cX5_at 20 = .ok (.iconst 0, 1) := by decide +kernel
theorem dX5_at_21 : decode cX5_at 21 = .ok (.ireturn, 1) := by decide +kernel
theorem dX5_put_0 : decode cX5_put 0 = .ok (.aload_n 0, 1) := by decide +kernel
theorem dX5_put_1 : decode cX5_put 1 = .ok (.ifnull 17, 3) := by decide +kernel
theorem dX5_put_4 : decode cX5_put 4 = .ok (.iload_n 1, 1) := by decide +kernel
theorem dX5_put_5 : decode cX5_put 5 = .ok (.ifCond .lt 13, 3) := by decide +kernel
theorem dX5_put_8 : decode cX5_put 8 = .ok (.iload_n 1, 1) := by decide +kernel
theorem dX5_put_9 : decode cX5_put 9 = .ok (.aload_n 0, 1) := by decide +kernel
theorem dX5_put_10 : decode cX5_put 10 = .ok (.arraylength, 1) := by decide +kernel
theorem dX5_put_11 : decode cX5_put 11 = .ok (.if_icmp .ge 7, 3) := by decide +kernel
theorem dX5_put_14 : decode cX5_put 14 = .ok (.aload_n 0, 1) := by decide +kernel
theorem dX5_put_15 : decode cX5_put 15 = .ok (.iload_n 1, 1) := by decide +kernel
theorem dX5_put_16 : decode cX5_put 16 = .ok (.iload_n 2, 1) := by decide +kernel
theorem dX5_put_17 : decode cX5_put 17 = .ok (.iastore, 1) := by decide +kernel
theorem dX5_put_18 : decode cX5_put 18 = .ok (.return_, 1) := by decide +kernel
theorem dX5_isSlot_0 : decode cX5_isSlot 0 = .ok (.iload_n 0, 1) := by decide +kernel
theorem dX5_isSlot_1 : decode cX5_isSlot 1 = .ok (.ifCond .lt 13, 3) := by decide +kernel
theorem dX5_isSlot_4 : decode cX5_isSlot 4 = .ok (.iload_n 0, 1) := by decide +kernel
theorem dX5_isSlot_5 : decode cX5_isSlot 5 = .ok (.bipush 8, 2) := by decide +kernel
theorem dX5_isSlot_7 : decode cX5_isSlot 7 = .ok (.if_icmp .ge 7, 3) := by decide +kernel
theorem dX5_isSlot_10 : decode cX5_isSlot 10 = .ok (.iconst 1, 1) := by decide +kernel
theorem dX5_isSlot_11 : decode cX5_isSlot 11 = .ok (.goto 4, 3) := by decide +kernel
theorem dX5_isSlot_14 : decode cX5_isSlot 14 = .ok (.iconst 0, 1) := by decide +kernel
theorem dX5_isSlot_15 : decode cX5_isSlot 15 = .ok (.ireturn, 1) := by decide +kernel
theorem dX5_isLetter_0 : decode cX5_isLetter 0 = .ok (.iload_n 0, 1) := by decide +kernel
theorem dX5_isLetter_1 : decode cX5_isLetter 1 = .ok (.ifCond .lt 12, 3) := by decide +kernel
theorem dX5_isLetter_4 : decode cX5_isLetter 4 = .ok (.iload_n 0, 1) := by decide +kernel
theorem dX5_isLetter_5 : decode cX5_isLetter 5 = .ok (.iconst 4, 1) := by decide +kernel
theorem dX5_isLetter_6 : decode cX5_isLetter 6 = .ok (.if_icmp .ge 7, 3) := by decide +kernel
theorem dX5_isLetter_9 : decode cX5_isLetter 9 = .ok (.iconst 1, 1) := by decide +kernel
theorem dX5_isLetter_10 : decode cX5_isLetter 10 = .ok (.goto 4, 3) := by decide +kernel
theorem dX5_isLetter_13 : decode cX5_isLetter 13 = .ok (.iconst 0, 1) := by decide +kernel
theorem dX5_isLetter_14 : decode cX5_isLetter 14 = .ok (.ireturn, 1) := by decide +kernel
set_option maxRecDepth 20000 in
theorem ggX5_patternIn_X5_at : GoodIn wsX5_patternIn wsX5_at := goodIn_r _ [6] (by decide +kernel) (by decide +kernel)
set_option maxRecDepth 20000 in
theorem gX5_patternIn_X5_at : GoodIn wsX5_patternIn (va_wsS RX5 68 yX5_at wsX5_at) := goodIn_app (goodIn_of _ (by decide +kernel)) ggX5_patternIn_X5_at
theorem dX5_patternIn_0 : decode cX5_patternIn 0 = .ok (.aload_n 0, 1) := by decide +kernel
theorem dX5_patternIn_1 : decode cX5_patternIn 1 = .ok (.getfield 12, 3) := by decide +kernel
theorem dX5_patternIn_4 : decode cX5_patternIn 4 = .ok (.getfield 65, 3) := by decide +kernel
theorem dX5_patternIn_7 : decode cX5_patternIn 7 = .ok (.iload_n 1, 1) := by decide +kernel
theorem dX5_patternIn_8 : decode cX5_patternIn 8 = .ok (.invokestatic 68, 3) := by decide +kernel
theorem dX5_patternIn_11 : decode cX5_patternIn 11 = .ok (.ireturn, 1) := by decide +kernel
set_option maxRecDepth 20000 in
theorem ggX5_draftPatterns_X5_patternIn : GoodIn wsX5_draftPatterns wsX5_patternIn := goodIn_r _ [9, 10, 11, 12, 13, 8, 14, 33, 34, 35, 36, 37, 40, 41, 42, 43, 44, 45, 46, 47, 48, 49] (by decide +kernel) (by decide +kernel)
set_option maxRecDepth 20000 in
theorem gX5_draftPatterns_X5_patternIn : GoodIn wsX5_draftPatterns (wsV RX5 92 RX5 yX5_patternIn wsX5_patternIn) := goodIn_app (goodIn_of _ (by decide +kernel)) ggX5_draftPatterns_X5_patternIn
set_option maxRecDepth 20000 in
theorem ggX5_draftPatterns_X5_put : GoodIn wsX5_draftPatterns wsX5_put := goodIn_r _ [17] (by decide +kernel) (by decide +kernel)
set_option maxRecDepth 20000 in
theorem gX5_draftPatterns_X5_put : GoodIn wsX5_draftPatterns (va_wsS RX5 72 yX5_put wsX5_put) := goodIn_app (goodIn_of _ (by decide +kernel)) ggX5_draftPatterns_X5_put
set_option maxRecDepth 20000 in
theorem ggX5_draftPatterns_X5_at : GoodIn wsX5_draftPatterns wsX5_at := goodIn_r _ [14] (by decide +kernel) (by decide +kernel)
set_option maxRecDepth 20000 in
theorem gX5_draftPatterns_X5_at : GoodIn wsX5_draftPatterns (va_wsS RX5 68 yX5_at wsX5_at) := goodIn_app (goodIn_of _ (by decide +kernel)) ggX5_draftPatterns_X5_at
set_option maxRecDepth 20000 in
theorem ggX5_draftPatterns_X3_behind : GoodIn wsX5_draftPatterns wsX3_behind := goodIn_r _ [21] (by decide +kernel) (by decide +kernel)
set_option maxRecDepth 20000 in
theorem gX5_draftPatterns_X3_behind : GoodIn wsX5_draftPatterns (va_wsS RX5 243 yX3_behind wsX3_behind) := goodIn_app (goodIn_of _ (by decide +kernel)) ggX5_draftPatterns_X3_behind
set_option maxRecDepth 20000 in
theorem ggX5_draftPatterns_X0_endsPart : GoodIn wsX5_draftPatterns wsX0_endsPart := goodIn_r _ [26, 27, 28, 13, 8, 14, 38, 39] (by decide +kernel) (by decide +kernel)
set_option maxRecDepth 20000 in
theorem gX5_draftPatterns_X0_endsPart : GoodIn wsX5_draftPatterns (wsV RX5 246 RX0 yX0_endsPart wsX0_endsPart) := goodIn_app (goodIn_of _ (by decide +kernel)) ggX5_draftPatterns_X0_endsPart
set_option maxRecDepth 20000 in
theorem ggX5_draftPatterns_X5_draftSlotOf : GoodIn wsX5_draftPatterns wsX5_draftSlotOf := goodIn_r _ [32, 1, 12, 13, 8, 14, 33, 34, 35, 36, 37] (by decide +kernel) (by decide +kernel)
set_option maxRecDepth 20000 in
theorem gX5_draftPatterns_X5_draftSlotOf : GoodIn wsX5_draftPatterns (wsV RX5 249 RX5 yX5_draftSlotOf wsX5_draftSlotOf) := goodIn_app (goodIn_of _ (by decide +kernel)) ggX5_draftPatterns_X5_draftSlotOf
theorem dX5_draftPatterns_0 : decode cX5_draftPatterns 0 = .ok (.iconst 0, 1) := by decide +kernel
theorem dX5_draftPatterns_1 : decode cX5_draftPatterns 1 = .ok (.istore_n 1, 1) := by decide +kernel
theorem dX5_draftPatterns_2 : decode cX5_draftPatterns 2 = .ok (.iload_n 1, 1) := by decide +kernel
theorem dX5_draftPatterns_3 : decode cX5_draftPatterns 3 = .ok (.bipush 8, 2) := by decide +kernel
theorem dX5_draftPatterns_5 : decode cX5_draftPatterns 5 = .ok (.if_icmp .ge 22, 3) := by decide +kernel
theorem dX5_draftPatterns_8 : decode cX5_draftPatterns 8 = .ok (.aload_n 0, 1) := by decide +kernel
theorem dX5_draftPatterns_9 : decode cX5_draftPatterns 9 = .ok (.getfield 37, 3) := by decide +kernel
theorem dX5_draftPatterns_12 : decode cX5_draftPatterns 12 = .ok (.iload_n 1, 1) := by decide +kernel
theorem dX5_draftPatterns_13 : decode cX5_draftPatterns 13 = .ok (.aload_n 0, 1) := by decide +kernel
theorem dX5_draftPatterns_14 : decode cX5_draftPatterns 14 = .ok (.iload_n 1, 1) := by decide +kernel
theorem dX5_draftPatterns_15 : decode cX5_draftPatterns 15 = .ok (.invokevirtual 92, 3) := by decide +kernel
theorem dX5_draftPatterns_18 : decode cX5_draftPatterns 18 = .ok (.invokestatic 72, 3) := by decide +kernel
theorem dX5_draftPatterns_21 : decode cX5_draftPatterns 21 = .ok (.iinc 1 1, 3) := by decide +kernel
theorem dX5_draftPatterns_24 : decode cX5_draftPatterns 24 = .ok (.goto (-22), 3) := by decide +kernel
theorem dX5_draftPatterns_27 : decode cX5_draftPatterns 27 = .ok (.iconst 0, 1) := by decide +kernel
theorem dX5_draftPatterns_28 : decode cX5_draftPatterns 28 = .ok (.istore_n 1, 1) := by decide +kernel
theorem dX5_draftPatterns_29 : decode cX5_draftPatterns 29 = .ok (.iconst 1, 1) := by decide +kernel
theorem dX5_draftPatterns_30 : decode cX5_draftPatterns 30 = .ok (.istore_n 2, 1) := by decide +kernel
theorem dX5_draftPatterns_31 : decode cX5_draftPatterns 31 = .ok (.iconst 0, 1) := by decide +kernel
theorem dX5_draftPatterns_32 : decode cX5_draftPatterns 32 = .ok (.istore_n 3, 1) := by decide +kernel
theorem dX5_draftPatterns_33 : decode cX5_draftPatterns 33 = .ok (.iload_n 3, 1) := by decide +kernel
theorem dX5_draftPatterns_34 : decode cX5_draftPatterns 34 = .ok (.aload_n 0, 1) := by decide +kernel
theorem dX5_draftPatterns_35 : decode cX5_draftPatterns 35 = .ok (.getfield 33, 3) := by decide +kernel
theorem dX5_draftPatterns_38 : decode cX5_draftPatterns 38 = .ok (.getfield 142, 3) := by decide +kernel
theorem dX5_draftPatterns_41 : decode cX5_draftPatterns 41 = .ok (.if_icmp .ge 91, 3) := by decide +kernel
theorem dX5_draftPatterns_44 : decode cX5_draftPatterns 44 = .ok (.aload_n 0, 1) := by decide +kernel
theorem dX5_draftPatterns_45 : decode cX5_draftPatterns 45 = .ok (.getfield 33, 3) := by decide +kernel
theorem dX5_draftPatterns_48 : decode cX5_draftPatterns 48 = .ok (.getfield 240, 3) := by decide +kernel
theorem dX5_draftPatterns_51 : decode cX5_draftPatterns 51 = .ok (.iload_n 3, 1) := by decide +kernel
theorem dX5_draftPatterns_52 : decode cX5_draftPatterns 52 = .ok (.invokestatic 68, 3) := by decide +kernel
theorem dX5_draftPatterns_55 : decode cX5_draftPatterns 55 = .ok (.istore 4, 2) := by decide +kernel
theorem dX5_draftPatterns_57 : decode cX5_draftPatterns 57 = .ok (.iload 4, 2) := by decide +kernel
theorem dX5_draftPatterns_59 : decode cX5_draftPatterns 59 = .ok (.bipush 59, 2) := by decide +kernel
theorem dX5_draftPatterns_61 : decode cX5_draftPatterns 61 = .ok (.if_icmp .ne 7, 3) := by decide +kernel
theorem dX5_draftPatterns_64 : decode cX5_draftPatterns 64 = .ok (.iconst 1, 1) := by decide +kernel
theorem dX5_draftPatterns_65 : decode cX5_draftPatterns 65 = .ok (.goto 12, 3) := by decide +kernel
theorem dX5_draftPatterns_68 : decode cX5_draftPatterns 68 = .ok (.iload_n 2, 1) := by decide +kernel
theorem dX5_draftPatterns_69 : decode cX5_draftPatterns 69 = .ok (.iload 4, 2) := by decide +kernel
theorem dX5_draftPatterns_71 : decode cX5_draftPatterns 71 = .ok (.bipush 97, 2) := by decide +kernel
theorem dX5_draftPatterns_73 : decode cX5_draftPatterns 73 = .ok (.isub, 1) := by decide +kernel
theorem dX5_draftPatterns_74 : decode cX5_draftPatterns 74 = .ok (.invokestatic 243, 3) := by decide +kernel
theorem dX5_draftPatterns_77 : decode cX5_draftPatterns 77 = .ok (.istore_n 2, 1) := by decide +kernel
theorem dX5_draftPatterns_78 : decode cX5_draftPatterns 78 = .ok (.aload_n 0, 1) := by decide +kernel
theorem dX5_draftPatterns_79 : decode cX5_draftPatterns 79 = .ok (.getfield 33, 3) := by decide +kernel
theorem dX5_draftPatterns_82 : decode cX5_draftPatterns 82 = .ok (.iload_n 3, 1) := by decide +kernel
theorem dX5_draftPatterns_83 : decode cX5_draftPatterns 83 = .ok (.invokevirtual 246, 3) := by decide +kernel
theorem dX5_draftPatterns_86 : decode cX5_draftPatterns 86 = .ok (.ifCond .eq 40, 3) := by decide +kernel
theorem dX5_draftPatterns_89 : decode cX5_draftPatterns 89 = .ok (.aload_n 0, 1) := by decide +kernel
theorem dX5_draftPatterns_90 : decode cX5_draftPatterns 90 = .ok (.iload_n 2, 1) := by decide +kernel
theorem dX5_draftPatterns_91 : decode cX5_draftPatterns 91 = .ok (.invokevirtual 249, 3) := by decide +kernel
theorem dX5_draftPatterns_94 : decode cX5_draftPatterns 94 = .ok (.iconst (-1), 1) := by decide +kernel
theorem dX5_draftPatterns_95 : decode cX5_draftPatterns 95 = .ok (.if_icmp .ne 31, 3) := by decide +kernel
theorem dX5_draftPatterns_98 : decode cX5_draftPatterns 98 = .ok (.aload_n 0, 1) := by decide +kernel
theorem dX5_draftPatterns_99 : decode cX5_draftPatterns 99 = .ok (.iconst 0, 1) := by decide +kernel
theorem dX5_draftPatterns_100 : decode cX5_draftPatterns 100 = .ok (.invokevirtual 249, 3) := by decide +kernel
theorem dX5_draftPatterns_103 : decode cX5_draftPatterns 103 = .ok (.istore 5, 2) := by decide +kernel
theorem dX5_draftPatterns_105 : decode cX5_draftPatterns 105 = .ok (.iload 5, 2) := by decide +kernel
theorem dX5_draftPatterns_107 : decode cX5_draftPatterns 107 = .ok (.iconst (-1), 1) := by decide +kernel
theorem dX5_draftPatterns_108 : decode cX5_draftPatterns 108 = .ok (.if_icmp .ne 5, 3) := by decide +kernel
theorem dX5_draftPatterns_111 : decode cX5_draftPatterns 111 = .ok (.iconst (-1), 1) := by decide +kernel
theorem dX5_draftPatterns_112 : decode cX5_draftPatterns 112 = .ok (.ireturn, 1) := by decide +kernel
theorem dX5_draftPatterns_113 : decode cX5_draftPatterns 113 = .ok (.aload_n 0, 1) := by decide +kernel
theorem dX5_draftPatterns_114 : decode cX5_draftPatterns 114 = .ok (.getfield 37, 3) := by decide +kernel
theorem dX5_draftPatterns_117 : decode cX5_draftPatterns 117 = .ok (.iload 5, 2) := by decide +kernel
theorem dX5_draftPatterns_119 : decode cX5_draftPatterns 119 = .ok (.iload_n 2, 1) := by decide +kernel
theorem dX5_draftPatterns_120 : decode cX5_draftPatterns 120 = .ok (.invokestatic 72, 3) := by decide +kernel
theorem dX5_draftPatterns_123 : decode cX5_draftPatterns 123 = .ok (.iinc 1 1, 3) := by decide +kernel
theorem dX5_draftPatterns_126 : decode cX5_draftPatterns 126 = .ok (.iinc 3 1, 3) := by decide +kernel
theorem dX5_draftPatterns_129 : decode cX5_draftPatterns 129 = .ok (.goto (-96), 3) := by decide +kernel
theorem dX5_draftPatterns_132 : decode cX5_draftPatterns 132 = .ok (.iload_n 1, 1) := by decide +kernel
theorem dX5_draftPatterns_133 : decode cX5_draftPatterns 133 = .ok (.ireturn, 1) := by decide +kernel
set_option maxRecDepth 20000 in
theorem ggX5_draftSlotOf_X5_at : GoodIn wsX5_draftSlotOf wsX5_at := goodIn_r _ [5] (by decide +kernel) (by decide +kernel)
set_option maxRecDepth 20000 in
theorem gX5_draftSlotOf_X5_at : GoodIn wsX5_draftSlotOf (va_wsS RX5 68 yX5_at wsX5_at) := goodIn_app (goodIn_of _ (by decide +kernel)) ggX5_draftSlotOf_X5_at
theorem dX5_draftSlotOf_0 : decode cX5_draftSlotOf 0 = .ok (.iconst 0, 1) := by decide +kernel
theorem dX5_draftSlotOf_1 : decode cX5_draftSlotOf 1 = .ok (.istore_n 2, 1) := by decide +kernel
theorem dX5_draftSlotOf_2 : decode cX5_draftSlotOf 2 = .ok (.iload_n 2, 1) := by decide +kernel
theorem dX5_draftSlotOf_3 : decode cX5_draftSlotOf 3 = .ok (.bipush 8, 2) := by decide +kernel
theorem dX5_draftSlotOf_5 : decode cX5_draftSlotOf 5 = .ok (.if_icmp .ge 23, 3) := by decide +kernel
theorem dX5_draftSlotOf_8 : decode cX5_draftSlotOf 8 = .ok (.aload_n 0, 1) := by decide +kernel
theorem dX5_draftSlotOf_9 : decode cX5_draftSlotOf 9 = .ok (.getfield 37, 3) := by decide +kernel
theorem dX5_draftSlotOf_12 : decode cX5_draftSlotOf 12 = .ok (.iload_n 2, 1) := by decide +kernel
theorem dX5_draftSlotOf_13 : decode cX5_draftSlotOf 13 = .ok (.invokestatic 68, 3) := by decide +kernel
theorem dX5_draftSlotOf_16 : decode cX5_draftSlotOf 16 = .ok (.iload_n 1, 1) := by decide +kernel
theorem dX5_draftSlotOf_17 : decode cX5_draftSlotOf 17 = .ok (.if_icmp .ne 5, 3) := by decide +kernel
theorem dX5_draftSlotOf_20 : decode cX5_draftSlotOf 20 = .ok (.iload_n 2, 1) := by decide +kernel
theorem dX5_draftSlotOf_21 : decode cX5_draftSlotOf 21 = .ok (.ireturn, 1) := by decide +kernel
theorem dX5_draftSlotOf_22 : decode cX5_draftSlotOf 22 = .ok (.iinc 2 1, 3) := by decide +kernel
theorem dX5_draftSlotOf_25 : decode cX5_draftSlotOf 25 = .ok (.goto (-23), 3) := by decide +kernel
theorem dX5_draftSlotOf_28 : decode cX5_draftSlotOf 28 = .ok (.iconst (-1), 1) := by decide +kernel
theorem dX5_draftSlotOf_29 : decode cX5_draftSlotOf 29 = .ok (.ireturn, 1) := by decide +kernel
set_option maxRecDepth 20000 in
theorem ggX5_patternProperty_X5_patternIn : GoodIn wsX5_patternProperty wsX5_patternIn := goodIn_r _ [9, 1, 10, 11, 12, 8, 13, 56, 57, 58, 59, 60, 61, 62, 63, 64, 65, 66, 67, 68, 69, 70] (by decide +kernel) (by decide +kernel)
set_option maxRecDepth 20000 in
theorem gX5_patternProperty_X5_patternIn : GoodIn wsX5_patternProperty (wsV RX5 92 RX5 yX5_patternIn wsX5_patternIn) := goodIn_app (goodIn_of _ (by decide +kernel)) ggX5_patternProperty_X5_patternIn
set_option maxRecDepth 20000 in
theorem ggX5_patternProperty_X3_lengthOf : GoodIn wsX5_patternProperty wsX3_lengthOf := goodIn_r _ [17] (by decide +kernel) (by decide +kernel)
set_option maxRecDepth 20000 in
theorem gX5_patternProperty_X3_lengthOf : GoodIn wsX5_patternProperty (va_wsS RX5 252 yX3_lengthOf wsX3_lengthOf) := goodIn_app (goodIn_of _ (by decide +kernel)) ggX5_patternProperty_X3_lengthOf
set_option maxRecDepth 20000 in
theorem ggX5_patternProperty_X5_at : GoodIn wsX5_patternProperty wsX5_at := goodIn_r _ [13] (by decide +kernel) (by decide +kernel)
set_option maxRecDepth 20000 in
theorem gX5_patternProperty_X5_at : GoodIn wsX5_patternProperty (va_wsS RX5 68 yX5_at wsX5_at) := goodIn_app (goodIn_of _ (by decide +kernel)) ggX5_patternProperty_X5_at
set_option maxRecDepth 20000 in
theorem ggX5_patternProperty_X1_stateBehind : GoodIn wsX5_patternProperty wsX1_stateBehind := goodIn_r _ [22, 23, 15, 16, 17, 24, 25, 26, 27, 28, 29, 30, 31, 32, 33, 21, 34, 35, 12, 8, 13, 71, 72, 73, 74, 75] (by decide +kernel) (by decide +kernel)
set_option maxRecDepth 20000 in
theorem gX5_patternProperty_X1_stateBehind : GoodIn wsX5_patternProperty (wsV RX5 258 RX1 yX1_stateBehind wsX1_stateBehind) := goodIn_app (goodIn_of _ (by decide +kernel)) ggX5_patternProperty_X1_stateBehind
set_option maxRecDepth 20000 in
theorem ggX5_patternProperty_X5_othersInside : GoodIn wsX5_patternProperty wsX5_othersInside := goodIn_r _ [39, 5, 6, 7, 8, 9, 1, 10, 11, 12, 13, 40, 41, 16, 42, 27, 15, 17, 43, 44, 45, 46, 47, 48, 49, 50, 51, 56, 57, 58, 59, 60, 61, 62, 63, 64, 65, 66, 67, 68, 69, 70] (by decide +kernel) (by decide +kernel)
set_option maxRecDepth 20000 in
theorem gX5_patternProperty_X5_othersInside : GoodIn wsX5_patternProperty (wsV RX5 261 RX5 yX5_othersInside wsX5_othersInside) := goodIn_app (goodIn_of _ (by decide +kernel)) ggX5_patternProperty_X5_othersInside
set_option maxRecDepth 20000 in
theorem ggX5_patternProperty_X5_othersAround : GoodIn wsX5_patternProperty wsX5_othersAround := goodIn_r _ [55, 5, 6, 7, 8, 9, 1, 10, 11, 12, 13, 40, 41, 16, 42, 27, 15, 17, 43, 44, 45, 46, 47, 48, 49, 50, 51, 56, 57, 58, 59, 60, 61, 62, 63, 64, 65, 66, 67, 68, 69, 70] (by decide +kernel) (by decide +kernel)
set_option maxRecDepth 20000 in
theorem gX5_patternProperty_X5_othersAround : GoodIn wsX5_patternProperty (wsV RX5 264 RX5 yX5_othersAround wsX5_othersAround) := goodIn_app (goodIn_of _ (by decide +kernel)) ggX5_patternProperty_X5_othersAround
theorem dX5_patternProperty_0 : decode cX5_patternProperty 0 = .ok (.aload_n 0, 1) := by decide +kernel
theorem dX5_patternProperty_1 : decode cX5_patternProperty 1 = .ok (.iload_n 1, 1) := by decide +kernel
theorem dX5_patternProperty_2 : decode cX5_patternProperty 2 = .ok (.invokevirtual 92, 3) := by decide +kernel
theorem dX5_patternProperty_5 : decode cX5_patternProperty 5 = .ok (.istore_n 3, 1) := by decide +kernel
theorem dX5_patternProperty_6 : decode cX5_patternProperty 6 = .ok (.iload_n 2, 1) := by decide +kernel
theorem dX5_patternProperty_7 : decode cX5_patternProperty 7 = .ok (.tableswitch 85 0 4 #[33, 38, 50, 62, 79], 33) := by decide +kernel
theorem dX5_patternProperty_40 : decode cX5_patternProperty 40 = .ok (.iload_n 3, 1) := by decide +kernel
theorem dX5_patternProperty_41 : decode cX5_patternProperty 41 = .ok (.invokestatic 252, 3) := by decide +kernel
theorem dX5_patternProperty_44 : decode cX5_patternProperty 44 = .ok (.ireturn, 1) := by decide +kernel
theorem dX5_patternProperty_45 : decode cX5_patternProperty 45 = .ok (.aload_n 0, 1) := by decide +kernel
theorem dX5_patternProperty_46 : decode cX5_patternProperty 46 = .ok (.getfield 12, 3) := by decide +kernel
theorem dX5_patternProperty_49 : decode cX5_patternProperty 49 = .ok (.getfield 98, 3) := by decide +kernel
theorem dX5_patternProperty_52 : decode cX5_patternProperty 52 = .ok (.iload_n 1, 1) := by decide +kernel
theorem dX5_patternProperty_53 : decode cX5_patternProperty 53 = .ok (.invokestatic 68, 3) := by decide +kernel
theorem dX5_patternProperty_56 : decode cX5_patternProperty 56 = .ok (.ireturn, 1) := by decide +kernel
theorem dX5_patternProperty_57 : decode cX5_patternProperty 57 = .ok (.aload_n 0, 1) := by decide +kernel
theorem dX5_patternProperty_58 : decode cX5_patternProperty 58 = .ok (.getfield 12, 3) := by decide +kernel
theorem dX5_patternProperty_61 : decode cX5_patternProperty 61 = .ok (.getfield 255, 3) := by decide +kernel
theorem dX5_patternProperty_64 : decode cX5_patternProperty 64 = .ok (.iload_n 1, 1) := by decide +kernel
theorem dX5_patternProperty_65 : decode cX5_patternProperty 65 = .ok (.invokestatic 68, 3) := by decide +kernel
theorem dX5_patternProperty_68 : decode cX5_patternProperty 68 = .ok (.ireturn, 1) := by decide +kernel
theorem dX5_patternProperty_69 : decode cX5_patternProperty 69 = .ok (.iload_n 3, 1) := by decide +kernel
theorem dX5_patternProperty_70 : decode cX5_patternProperty 70 = .ok (.ifCond .ne 7, 3) := by decide +kernel
theorem dX5_patternProperty_73 : decode cX5_patternProperty 73 = .ok (.iconst (-1), 1) := by decide +kernel
theorem dX5_patternProperty_74 : decode cX5_patternProperty 74 = .ok (.goto 11, 3) := by decide +kernel
theorem dX5_patternProperty_77 : decode cX5_patternProperty 77 = .ok (.aload_n 0, 1) := by decide +kernel
theorem dX5_patternProperty_78 : decode cX5_patternProperty 78 = .ok (.getfield 26, 3) := by decide +kernel
theorem dX5_patternProperty_81 : decode cX5_patternProperty 81 = .ok (.iload_n 3, 1) := by decide +kernel
theorem dX5_patternProperty_82 : decode cX5_patternProperty 82 = .ok (.invokevirtual 258, 3) := by decide +kernel
theorem dX5_patternProperty_85 : decode cX5_patternProperty 85 = .ok (.ireturn, 1) := by decide +kernel
theorem dX5_patternProperty_86 : decode cX5_patternProperty 86 = .ok (.aload_n 0, 1) := by decide +kernel
theorem dX5_patternProperty_87 : decode cX5_patternProperty 87 = .ok (.iload_n 1, 1) := by decide +kernel
theorem dX5_patternProperty_88 : decode cX5_patternProperty 88 = .ok (.invokevirtual 261, 3) := by decide +kernel
theorem dX5_patternProperty_91 : decode cX5_patternProperty 91 = .ok (.ireturn, 1) := by decide +kernel
theorem dX5_patternProperty_92 : decode cX5_patternProperty 92 = .ok (.aload_n 0, 1) := by decide +kernel
theorem dX5_patternProperty_93 : decode cX5_patternProperty 93 = .ok (.iload_n 1, 1) := by decide +kernel
theorem dX5_patternProperty_94 : decode cX5_patternProperty 94 = .ok (.invokevirtual 264, 3) := by decide +kernel
theorem dX5_patternProperty_97 : decode cX5_patternProperty 97 = .ok (.ireturn, 1) := by decide +kernel
set_option maxRecDepth 20000 in
theorem ggX5_othersInside_X5_patternIn : GoodIn wsX5_othersInside wsX5_patternIn := goodIn_r _ [5, 6, 7, 8, 9, 4, 10, 27, 28, 29, 30, 31, 32, 33, 34, 35, 36, 37, 38, 39, 40, 41] (by decide +kernel) (by decide +kernel)
set_option maxRecDepth 20000 in
theorem gX5_othersInside_X5_patternIn : GoodIn wsX5_othersInside (wsV RX5 92 RX5 yX5_patternIn wsX5_patternIn) := goodIn_app (goodIn_of _ (by decide +kernel)) ggX5_othersInside_X5_patternIn
set_option maxRecDepth 20000 in
theorem ggX5_othersInside_X3_isPart : GoodIn wsX5_othersInside wsX3_isPart := goodIn_r _ [14, 15, 16, 13, 17, 18, 19, 20, 21, 22, 23, 24, 25, 26] (by decide +kernel) (by decide +kernel)
set_option maxRecDepth 20000 in
theorem gX5_othersInside_X3_isPart : GoodIn wsX5_othersInside (va_wsS RX5 267 yX3_isPart wsX3_isPart) := goodIn_app (goodIn_of _ (by decide +kernel)) ggX5_othersInside_X3_isPart
theorem dX5_othersInside_0 : decode cX5_othersInside 0 = .ok (.iconst 0, 1) := by decide +kernel
theorem dX5_othersInside_1 : decode cX5_othersInside 1 = .ok (.istore_n 2, 1) := by decide +kernel
theorem dX5_othersInside_2 : decode cX5_othersInside 2 = .ok (.iconst 0, 1) := by decide +kernel
theorem dX5_othersInside_3 : decode cX5_othersInside 3 = .ok (.istore_n 3, 1) := by decide +kernel
theorem dX5_othersInside_4 : decode cX5_othersInside 4 = .ok (.iload_n 3, 1) := by decide +kernel
theorem dX5_othersInside_5 : decode cX5_othersInside 5 = .ok (.bipush 8, 2) := by decide +kernel
theorem dX5_othersInside_7 : decode cX5_othersInside 7 = .ok (.if_icmp .ge 33, 3) := by decide +kernel
theorem dX5_othersInside_10 : decode cX5_othersInside 10 = .ok (.iload_n 3, 1) := by decide +kernel
theorem dX5_othersInside_11 : decode cX5_othersInside 11 = .ok (.iload_n 1, 1) := by decide +kernel
theorem dX5_othersInside_12 : decode cX5_othersInside 12 = .ok (.if_icmp .eq 22, 3) := by decide +kernel
theorem dX5_othersInside_15 : decode cX5_othersInside 15 = .ok (.aload_n 0, 1) := by decide +kernel
theorem dX5_othersInside_16 : decode cX5_othersInside 16 = .ok (.iload_n 3, 1) := by decide +kernel
theorem dX5_othersInside_17 : decode cX5_othersInside 17 = .ok (.invokevirtual 92, 3) := by decide +kernel
theorem dX5_othersInside_20 : decode cX5_othersInside 20 = .ok (.aload_n 0, 1) := by decide +kernel
theorem dX5_othersInside_21 : decode cX5_othersInside 21 = .ok (.iload_n 1, 1) := by decide +kernel
theorem dX5_othersInside_22 : decode cX5_othersInside 22 = .ok (.invokevirtual 92, 3) := by decide +kernel
theorem dX5_othersInside_25 : decode cX5_othersInside 25 = .ok (.invokestatic 267, 3) := by decide +kernel
theorem dX5_othersInside_28 : decode cX5_othersInside 28 = .ok (.ifCond .eq 6, 3) := by decide +kernel
theorem dX5_othersInside_31 : decode cX5_othersInside 31 = .ok (.iinc 2 1, 3) := by decide +kernel
theorem dX5_othersInside_34 : decode cX5_othersInside 34 = .ok (.iinc 3 1, 3) := by decide +kernel
theorem dX5_othersInside_37 : decode cX5_othersInside 37 = .ok (.goto (-33), 3) := by decide +kernel
theorem dX5_othersInside_40 : decode cX5_othersInside 40 = .ok (.iload_n 2, 1) := by decide +kernel
theorem dX5_othersInside_41 : decode cX5_othersInside 41 = .ok (.ireturn, 1) := by decide +kernel
set_option maxRecDepth 20000 in
theorem ggX5_othersAround_X5_patternIn : GoodIn wsX5_othersAround wsX5_patternIn := goodIn_r _ [5, 6, 7, 8, 9, 4, 10, 27, 28, 29, 30, 31, 32, 33, 34, 35, 36, 37, 38, 39, 40, 41] (by decide +kernel) (by decide +kernel)
set_option maxRecDepth 20000 in
theorem gX5_othersAround_X5_patternIn : GoodIn wsX5_othersAround (wsV RX5 92 RX5 yX5_patternIn wsX5_patternIn) := goodIn_app (goodIn_of _ (by decide +kernel)) ggX5_othersAround_X5_patternIn
set_option maxRecDepth 20000 in
theorem ggX5_othersAround_X3_isPart : GoodIn wsX5_othersAround wsX3_isPart := goodIn_r _ [14, 15, 16, 13, 17, 18, 19, 20, 21, 22, 23, 24, 25, 26] (by decide +kernel) (by decide +kernel)
set_option maxRecDepth 20000 in
theorem gX5_othersAround_X3_isPart : GoodIn wsX5_othersAround (va_wsS RX5 267 yX3_isPart wsX3_isPart) := goodIn_app (goodIn_of _ (by decide +kernel)) ggX5_othersAround_X3_isPart
theorem dX5_othersAround_0 : decode cX5_othersAround 0 = .ok (.iconst 0, 1) := by decide +kernel
theorem dX5_othersAround_1 : decode cX5_othersAround 1 = .ok (.istore_n 2, 1) := by decide +kernel
theorem dX5_othersAround_2 : decode cX5_othersAround 2 = .ok (.iconst 0, 1) := by decide +kernel
theorem dX5_othersAround_3 : decode cX5_othersAround 3 = .ok (.istore_n 3, 1) := by decide +kernel
theorem dX5_othersAround_4 : decode cX5_othersAround 4 = .ok (.iload_n 3, 1) := by decide +kernel
theorem dX5_othersAround_5 : decode cX5_othersAround 5 = .ok (.bipush 8, 2) := by decide +kernel
theorem dX5_othersAround_7 : decode cX5_othersAround 7 = .ok (.if_icmp .ge 33, 3) := by decide +kernel
theorem dX5_othersAround_10 : decode cX5_othersAround 10 = .ok (.iload_n 3, 1) := by decide +kernel
theorem dX5_othersAround_11 : decode cX5_othersAround 11 = .ok (.iload_n 1, 1) := by decide +kernel
theorem dX5_othersAround_12 : decode cX5_othersAround 12 = .ok (.if_icmp .eq 22, 3) := by decide +kernel
theorem dX5_othersAround_15 : decode cX5_othersAround 15 = .ok (.aload_n 0, 1) := by decide +kernel
theorem dX5_othersAround_16 : decode cX5_othersAround 16 = .ok (.iload_n 1, 1) := by decide +kernel
theorem dX5_othersAround_17 : decode cX5_othersAround 17 = .ok (.invokevirtual 92, 3) := by decide +kernel
theorem dX5_othersAround_20 : decode cX5_othersAround 20 = .ok (.aload_n 0, 1) := by decide +kernel
theorem dX5_othersAround_21 : decode cX5_othersAround 21 = .ok (.iload_n 3, 1) := by decide +kernel
theorem dX5_othersAround_22 : decode cX5_othersAround 22 = .ok (.invokevirtual 92, 3) := by decide +kernel
theorem dX5_othersAround_25 : decode cX5_othersAround 25 = .ok (.invokestatic 267, 3) := by decide +kernel
theorem dX5_othersAround_28 : decode cX5_othersAround 28 = .ok (.ifCond .eq 6, 3) := by decide +kernel
theorem dX5_othersAround_31 : decode cX5_othersAround 31 = .ok (.iinc 2 1, 3) := by decide +kernel
theorem dX5_othersAround_34 : decode cX5_othersAround 34 = .ok (.iinc 3 1, 3) := by decide +kernel
theorem dX5_othersAround_37 : decode cX5_othersAround 37 = .ok (.goto (-33), 3) := by decide +kernel
theorem dX5_othersAround_40 : decode cX5_othersAround 40 = .ok (.iload_n 2, 1) := by decide +kernel
theorem dX5_othersAround_41 : decode cX5_othersAround 41 = .ok (.ireturn, 1) := by decide +kernel
set_option maxRecDepth 20000 in
theorem ggX5_patternsThatBeginWith_X5_patternIn : GoodIn wsX5_patternsThatBeginWith wsX5_patternIn := goodIn_r _ [5, 6, 7, 8, 9, 4, 10, 18, 19, 20, 21, 22, 23, 24, 25, 26, 27, 28, 29, 30, 31, 32] (by decide +kernel) (by decide +kernel)
set_option maxRecDepth 20000 in
theorem gX5_patternsThatBeginWith_X5_patternIn : GoodIn wsX5_patternsThatBeginWith (wsV RX5 92 RX5 yX5_patternIn wsX5_patternIn) := goodIn_app (goodIn_of _ (by decide +kernel)) ggX5_patternsThatBeginWith_X5_patternIn
set_option maxRecDepth 20000 in
theorem ggX5_patternsThatBeginWith_X3_beginsWith : GoodIn wsX5_patternsThatBeginWith wsX3_beginsWith := goodIn_r _ [14, 15, 16, 13, 17] (by decide +kernel) (by decide +kernel)
set_option maxRecDepth 20000 in
theorem gX5_patternsThatBeginWith_X3_beginsWith : GoodIn wsX5_patternsThatBeginWith (va_wsS RX5 271 yX3_beginsWith wsX3_beginsWith) := goodIn_app (goodIn_of _ (by decide +kernel)) ggX5_patternsThatBeginWith_X3_beginsWith
theorem dX5_patternsThatBeginWith_0 : decode cX5_patternsThatBeginWith 0 = .ok (.iconst 0, 1) := by decide +kernel
theorem dX5_patternsThatBeginWith_1 : decode cX5_patternsThatBeginWith 1 = .ok (.istore_n 2, 1) := by decide +kernel
theorem dX5_patternsThatBeginWith_2 : decode cX5_patternsThatBeginWith 2 = .ok (.iconst 0, 1) := by decide +kernel
theorem dX5_patternsThatBeginWith_3 : decode cX5_patternsThatBeginWith 3 = .ok (.istore_n 3, 1) := by decide +kernel
theorem dX5_patternsThatBeginWith_4 : decode cX5_patternsThatBeginWith 4 = .ok (.iload_n 3, 1) := by decide +kernel
theorem dX5_patternsThatBeginWith_5 : decode cX5_patternsThatBeginWith 5 = .ok (.bipush 8, 2) := by decide +kernel
theorem dX5_patternsThatBeginWith_7 : decode cX5_patternsThatBeginWith 7 = .ok (.if_icmp .ge 33, 3) := by decide +kernel
theorem dX5_patternsThatBeginWith_10 : decode cX5_patternsThatBeginWith 10 = .ok (.aload_n 0, 1) := by decide +kernel
theorem dX5_patternsThatBeginWith_11 : decode cX5_patternsThatBeginWith 11 = .ok (.iload_n 3, 1) := by decide +kernel
theorem dX5_patternsThatBeginWith_12 : decode cX5_patternsThatBeginWith 12 = .ok (.invokevirtual 92, 3) := by decide +kernel
theorem dX5_patternsThatBeginWith_15 : decode cX5_patternsThatBeginWith 15 = .ok (.istore 4, 2) := by decide +kernel
theorem dX5_patternsThatBeginWith_17 : decode cX5_patternsThatBeginWith 17 = .ok (.iload 4, 2) := by decide +kernel
theorem dX5_patternsThatBeginWith_19 : decode cX5_patternsThatBeginWith 19 = .ok (.ifCond .eq 15, 3) := by decide +kernel
theorem dX5_patternsThatBeginWith_22 : decode cX5_patternsThatBeginWith 22 = .ok (.iload 4, 2) := by decide +kernel
theorem dX5_patternsThatBeginWith_24 : decode cX5_patternsThatBeginWith 24 = .ok (.iload_n 1, 1) := by decide +kernel
theorem dX5_patternsThatBeginWith_25 : decode cX5_patternsThatBeginWith 25 = .ok (.invokestatic 271, 3) := by decide +kernel
theorem dX5_patternsThatBeginWith_28 : decode cX5_patternsThatBeginWith 28 = .ok (.ifCond .eq 6, 3) := by decide +kernel
theorem dX5_patternsThatBeginWith_31 : decode cX5_patternsThatBeginWith 31 = .ok (.iinc 2 1, 3) := by decide +kernel
theorem dX5_patternsThatBeginWith_34 : decode cX5_patternsThatBeginWith 34 = .ok (.iinc 3 1, 3) := by decide +kernel
theorem dX5_patternsThatBeginWith_37 : decode cX5_patternsThatBeginWith 37 = .ok (.goto (-33), 3) := by decide +kernel
theorem dX5_patternsThatBeginWith_40 : decode cX5_patternsThatBeginWith 40 = .ok (.iload_n 2, 1) := by decide +kernel
theorem dX5_patternsThatBeginWith_41 : decode cX5_patternsThatBeginWith 41 = .ok (.ireturn, 1) := by decide +kernel
set_option maxRecDepth 20000 in
theorem ggX5_numberOfPatterns_X5_patternIn : GoodIn wsX5_numberOfPatterns wsX5_patternIn := goodIn_r _ [5, 6, 7, 8, 9, 4, 10, 11, 12, 13, 14, 15, 16, 17, 18, 19, 20, 21, 22, 23, 24, 25] (by decide +kernel) (by decide +kernel)
set_option maxRecDepth 20000 in
theorem gX5_numberOfPatterns_X5_patternIn : GoodIn wsX5_numberOfPatterns (wsV RX5 92 RX5 yX5_patternIn wsX5_patternIn) := goodIn_app (goodIn_of _ (by decide +kernel)) ggX5_numberOfPatterns_X5_patternIn
theorem dX5_numberOfPatterns_0 : decode cX5_numberOfPatterns 0 = .ok (.iconst 0, 1) := by decide +kernel
theorem dX5_numberOfPatterns_1 : decode cX5_numberOfPatterns 1 = .ok (.istore_n 1, 1) := by decide +kernel
theorem dX5_numberOfPatterns_2 : decode cX5_numberOfPatterns 2 = .ok (.iconst 0, 1) := by decide +kernel
theorem dX5_numberOfPatterns_3 : decode cX5_numberOfPatterns 3 = .ok (.istore_n 2, 1) := by decide +kernel
theorem dX5_numberOfPatterns_4 : decode cX5_numberOfPatterns 4 = .ok (.iload_n 2, 1) := by decide +kernel
theorem dX5_numberOfPatterns_5 : decode cX5_numberOfPatterns 5 = .ok (.bipush 8, 2) := by decide +kernel
theorem dX5_numberOfPatterns_7 : decode cX5_numberOfPatterns 7 = .ok (.if_icmp .ge 20, 3) := by decide +kernel
theorem dX5_numberOfPatterns_10 : decode cX5_numberOfPatterns 10 = .ok (.aload_n 0, 1) := by decide +kernel
theorem dX5_numberOfPatterns_11 : decode cX5_numberOfPatterns 11 = .ok (.iload_n 2, 1) := by decide +kernel
theorem dX5_numberOfPatterns_12 : decode cX5_numberOfPatterns 12 = .ok (.invokevirtual 92, 3) := by decide +kernel
theorem dX5_numberOfPatterns_15 : decode cX5_numberOfPatterns 15 = .ok (.ifCond .eq 6, 3) := by decide +kernel
theorem dX5_numberOfPatterns_18 : decode cX5_numberOfPatterns 18 = .ok (.iinc 1 1, 3) := by decide +kernel
theorem dX5_numberOfPatterns_21 : decode cX5_numberOfPatterns 21 = .ok (.iinc 2 1, 3) := by decide +kernel
theorem dX5_numberOfPatterns_24 : decode cX5_numberOfPatterns 24 = .ok (.goto (-20), 3) := by decide +kernel
theorem dX5_numberOfPatterns_27 : decode cX5_numberOfPatterns 27 = .ok (.iload_n 1, 1) := by decide +kernel
theorem dX5_numberOfPatterns_28 : decode cX5_numberOfPatterns 28 = .ok (.ireturn, 1) := by decide +kernel
set_option maxRecDepth 20000 in
theorem ggX5_sumOfLengths_X5_patternIn : GoodIn wsX5_sumOfLengths wsX5_patternIn := goodIn_r _ [5, 6, 7, 8, 9, 4, 10, 15, 16, 17, 18, 19, 20, 21, 22, 23, 24, 25, 26, 27, 28, 29] (by decide +kernel) (by decide +kernel)
set_option maxRecDepth 20000 in
theorem gX5_sumOfLengths_X5_patternIn : GoodIn wsX5_sumOfLengths (wsV RX5 92 RX5 yX5_patternIn wsX5_patternIn) := goodIn_app (goodIn_of _ (by decide +kernel)) ggX5_sumOfLengths_X5_patternIn
set_option maxRecDepth 20000 in
theorem ggX5_sumOfLengths_X3_lengthOf : GoodIn wsX5_sumOfLengths wsX3_lengthOf := goodIn_r _ [14] (by decide +kernel) (by decide +kernel)
set_option maxRecDepth 20000 in
theorem gX5_sumOfLengths_X3_lengthOf : GoodIn wsX5_sumOfLengths (va_wsS RX5 252 yX3_lengthOf wsX3_lengthOf) := goodIn_app (goodIn_of _ (by decide +kernel)) ggX5_sumOfLengths_X3_lengthOf
theorem dX5_sumOfLengths_0 : decode cX5_sumOfLengths 0 = .ok (.iconst 0, 1) := by decide +kernel
theorem dX5_sumOfLengths_1 : decode cX5_sumOfLengths 1 = .ok (.istore_n 1, 1) := by decide +kernel
theorem dX5_sumOfLengths_2 : decode cX5_sumOfLengths 2 = .ok (.iconst 0, 1) := by decide +kernel
theorem dX5_sumOfLengths_3 : decode cX5_sumOfLengths 3 = .ok (.istore_n 2, 1) := by decide +kernel
theorem dX5_sumOfLengths_4 : decode cX5_sumOfLengths 4 = .ok (.iload_n 2, 1) := by decide +kernel
theorem dX5_sumOfLengths_5 : decode cX5_sumOfLengths 5 = .ok (.bipush 8, 2) := by decide +kernel
theorem dX5_sumOfLengths_7 : decode cX5_sumOfLengths 7 = .ok (.if_icmp .ge 20, 3) := by decide +kernel
theorem dX5_sumOfLengths_10 : decode cX5_sumOfLengths 10 = .ok (.iload_n 1, 1) := by decide +kernel
theorem dX5_sumOfLengths_11 : decode cX5_sumOfLengths 11 = .ok (.aload_n 0, 1) := by decide +kernel
theorem dX5_sumOfLengths_12 : decode cX5_sumOfLengths 12 = .ok (.iload_n 2, 1) := by decide +kernel
theorem dX5_sumOfLengths_13 : decode cX5_sumOfLengths 13 = .ok (.invokevirtual 92, 3) := by decide +kernel
theorem dX5_sumOfLengths_16 : decode cX5_sumOfLengths 16 = .ok (.invokestatic 252, 3) := by decide +kernel
theorem dX5_sumOfLengths_19 : decode cX5_sumOfLengths 19 = .ok (.iadd, 1) := by decide +kernel
theorem dX5_sumOfLengths_20 : decode cX5_sumOfLengths 20 = .ok (.istore_n 1, 1) := by decide +kernel
theorem dX5_sumOfLengths_21 : decode cX5_sumOfLengths 21 = .ok (.iinc 2 1, 3) := by decide +kernel
theorem dX5_sumOfLengths_24 : decode cX5_sumOfLengths 24 = .ok (.goto (-20), 3) := by decide +kernel
theorem dX5_sumOfLengths_27 : decode cX5_sumOfLengths 27 = .ok (.iload_n 1, 1) := by decide +kernel
theorem dX5_sumOfLengths_28 : decode cX5_sumOfLengths 28 = .ok (.ireturn, 1) := by decide +kernel
set_option maxRecDepth 20000 in
theorem ggX5_currentState_X1_stateBehind : GoodIn wsX5_currentState wsX1_stateBehind := goodIn_r _ [8, 9, 10, 11, 12, 13, 14, 15, 16, 17, 18, 19, 20, 21, 22, 7, 23, 24, 25, 26, 27, 43, 44, 45, 46, 47] (by decide +kernel) (by decide +kernel)
set_option maxRecDepth 20000 in
theorem gX5_currentState_X1_stateBehind : GoodIn wsX5_currentState (wsV RX5 258 RX1 yX1_stateBehind wsX1_stateBehind) := goodIn_app (goodIn_of _ (by decide +kernel)) ggX5_currentState_X1_stateBehind
theorem dX5_currentState_0 : decode cX5_currentState 0 = .ok (.aload_n 0, 1) := by decide +kernel
theorem dX5_currentState_1 : decode cX5_currentState 1 = .ok (.getfield 26, 3) := by decide +kernel
theorem dX5_currentState_4 : decode cX5_currentState 4 = .ok (.aload_n 0, 1) := by decide +kernel
theorem dX5_currentState_5 : decode cX5_currentState 5 = .ok (.getfield 12, 3) := by decide +kernel
theorem dX5_currentState_8 : decode cX5_currentState 8 = .ok (.getfield 280, 3) := by decide +kernel
theorem dX5_currentState_11 : decode cX5_currentState 11 = .ok (.invokevirtual 258, 3) := by decide +kernel
theorem dX5_currentState_14 : decode cX5_currentState 14 = .ok (.ireturn, 1) := by decide +kernel
set_option maxRecDepth 20000 in
theorem ggX5_readLetter_X5_currentState : GoodIn wsX5_readLetter wsX5_currentState := goodIn_r _ [10, 1, 2, 5, 11, 12, 13, 14, 15, 16, 17, 18, 19, 20, 21, 22, 23, 24, 25, 26, 27, 28, 29, 30, 31, 32, 9, 33, 97, 98, 99, 100, 101, 102, 103, 104, 105, 106, 107, 108, 109, 110, 111, 112, 113, 114, 115, 116] (by decide +kernel) (by decide +kernel)
set_option maxRecDepth 20000 in
theorem gX5_readLetter_X5_currentState : GoodIn wsX5_readLetter (wsV RX5 283 RX5 yX5_currentState wsX5_currentState) := goodIn_app (goodIn_of _ (by decide +kernel)) ggX5_readLetter_X5_currentState
set_option maxRecDepth 20000 in
theorem ggX5_readLetter_X1_leadsTo : GoodIn wsX5_readLetter wsX1_leadsTo := goodIn_r _ [30, 31, 32, 9, 33, 112, 113, 114, 115, 116] (by decide +kernel) (by decide +kernel)
set_option maxRecDepth 20000 in
theorem gX5_readLetter_X1_leadsTo : GoodIn wsX5_readLetter (wsV RX5 286 RX1 yX1_leadsTo wsX1_leadsTo) := goodIn_app (goodIn_of _ (by decide +kernel)) ggX5_readLetter_X1_leadsTo
set_option maxRecDepth 20000 in
theorem ggX5_readLetter_X5_matchesThatCount : GoodIn wsX5_readLetter wsX5_matchesThatCount := goodIn_r _ [38, 1, 39, 2, 40, 41, 32, 9, 33, 42, 43, 44, 45, 46, 47, 17, 18, 19, 97, 98, 99, 100, 101, 112, 113, 114, 115, 116, 102, 103, 104, 105, 106, 107, 108, 109, 110, 111] (by decide +kernel) (by decide +kernel)
set_option maxRecDepth 20000 in
theorem gX5_readLetter_X5_matchesThatCount : GoodIn wsX5_readLetter (wsV RX5 292 RX5 yX5_matchesThatCount wsX5_matchesThatCount) := goodIn_app (goodIn_of _ (by decide +kernel)) ggX5_readLetter_X5_matchesThatCount
set_option maxRecDepth 20000 in
theorem ggX5_readLetter_X1_fallsBefore : GoodIn wsX5_readLetter wsX1_fallsBefore := goodIn_r _ [51, 52, 53, 54, 55, 14, 56, 57, 27, 28, 29, 30, 31, 32, 9, 33, 58, 59, 18, 60, 112, 113, 114, 115, 116] (by decide +kernel) (by decide +kernel)
set_option maxRecDepth 20000 in
theorem gX5_readLetter_X1_fallsBefore : GoodIn wsX5_readLetter (wsV RX5 296 RX1 yX1_fallsBefore wsX1_fallsBefore) := goodIn_app (goodIn_of _ (by decide +kernel)) ggX5_readLetter_X1_fallsBefore
set_option maxRecDepth 20000 in
theorem ggX5_readLetter_X2_takeFalls : GoodIn wsX5_readLetter wsX2_takeFalls := goodIn_r _ [65, 66, 67, 68, 69, 70, 71, 102, 103, 104, 105, 106, 107, 108, 109, 110, 111] (by decide +kernel) (by decide +kernel)
set_option maxRecDepth 20000 in
theorem gX5_readLetter_X2_takeFalls : GoodIn wsX5_readLetter (wsV RX5 299 RX2 yX2_takeFalls wsX2_takeFalls) := goodIn_app (goodIn_of _ (by decide +kernel)) ggX5_readLetter_X2_takeFalls
set_option maxRecDepth 20000 in
theorem ggX5_readLetter_X2_takeMatches : GoodIn wsX5_readLetter wsX2_takeMatches := goodIn_r _ [75, 76, 77, 78, 79, 80, 32, 9, 33, 81, 82, 102, 103, 104, 105, 106, 107, 108, 109, 110, 111] (by decide +kernel) (by decide +kernel)
set_option maxRecDepth 20000 in
theorem gX5_readLetter_X2_takeMatches : GoodIn wsX5_readLetter (wsV RX5 302 RX2 yX2_takeMatches wsX2_takeMatches) := goodIn_app (goodIn_of _ (by decide +kernel)) ggX5_readLetter_X2_takeMatches
set_option maxRecDepth 20000 in
theorem ggX5_readLetter_X3_behind : GoodIn wsX5_readLetter wsX3_behind := goodIn_r _ [60] (by decide +kernel) (by decide +kernel)
set_option maxRecDepth 20000 in
theorem gX5_readLetter_X3_behind : GoodIn wsX5_readLetter (va_wsS RX5 243 yX3_behind wsX3_behind) := goodIn_app (goodIn_of _ (by decide +kernel)) ggX5_readLetter_X3_behind
set_option maxRecDepth 20000 in
theorem ggX5_readLetter_X3_latest : GoodIn wsX5_readLetter wsX3_latest := goodIn_r _ [86, 23, 17, 18, 19, 87, 88, 89] (by decide +kernel) (by decide +kernel)
set_option maxRecDepth 20000 in
theorem gX5_readLetter_X3_latest : GoodIn wsX5_readLetter (va_wsS RX5 305 yX3_latest wsX3_latest) := goodIn_app (goodIn_of _ (by decide +kernel)) ggX5_readLetter_X3_latest
set_option maxRecDepth 20000 in
theorem ggX5_readLetter_J6_bitCount_0f7a4 : GoodIn wsX5_readLetter wsJ6_bitCount_0f7a4 := goodIn_r _ [93, 94, 95, 96] (by decide +kernel) (by decide +kernel)
set_option maxRecDepth 20000 in
theorem gX5_readLetter_J6_bitCount_0f7a4 : GoodIn wsX5_readLetter (va_wsS RX5 307 yJ6_bitCount_0f7a4 wsJ6_bitCount_0f7a4) := goodIn_app (goodIn_of _ (by decide +kernel)) ggX5_readLetter_J6_bitCount_0f7a4
theorem dX5_readLetter_0 : decode cX5_readLetter 0 = .ok (.aload_n 0, 1) := by decide +kernel
theorem dX5_readLetter_1 : decode cX5_readLetter 1 = .ok (.invokevirtual 283, 3) := by decide +kernel
theorem dX5_readLetter_4 : decode cX5_readLetter 4 = .ok (.istore_n 2, 1) := by decide +kernel
theorem dX5_readLetter_5 : decode cX5_readLetter 5 = .ok (.aload_n 0, 1) := by decide +kernel
theorem dX5_readLetter_6 : decode cX5_readLetter 6 = .ok (.aload_n 0, 1) := by decide +kernel
theorem dX5_readLetter_7 : decode cX5_readLetter 7 = .ok (.getfield 26, 3) := by decide +kernel
theorem dX5_readLetter_10 : decode cX5_readLetter 10 = .ok (.iload_n 2, 1) := by decide +kernel
theorem dX5_readLetter_11 : decode cX5_readLetter 11 = .ok (.iload_n 1, 1) := by decide +kernel
theorem dX5_readLetter_12 : decode cX5_readLetter 12 = .ok (.invokevirtual 286, 3) := by decide +kernel
theorem dX5_readLetter_15 : decode cX5_readLetter 15 = .ok (.aload_n 0, 1) := by decide +kernel
theorem dX5_readLetter_16 : decode cX5_readLetter 16 = .ok (.getfield 12, 3) := by decide +kernel
theorem dX5_readLetter_19 : decode cX5_readLetter 19 = .ok (.getfield 116, 3) := by decide +kernel
theorem dX5_readLetter_22 : decode cX5_readLetter 22 = .ok (.aload_n 0, 1) := by decide +kernel
theorem dX5_readLetter_23 : decode cX5_readLetter 23 = .ok (.getfield 12, 3) := by decide +kernel
theorem dX5_readLetter_26 : decode cX5_readLetter 26 = .ok (.getfield 289, 3) := by decide +kernel
theorem dX5_readLetter_29 : decode cX5_readLetter 29 = .ok (.invokevirtual 292, 3) := by decide +kernel
theorem dX5_readLetter_32 : decode cX5_readLetter 32 = .ok (.istore_n 3, 1) := by decide +kernel
theorem dX5_readLetter_33 : decode cX5_readLetter 33 = .ok (.aload_n 0, 1) := by decide +kernel
theorem dX5_readLetter_34 : decode cX5_readLetter 34 = .ok (.getfield 12, 3) := by decide +kernel
theorem dX5_readLetter_37 : decode cX5_readLetter 37 = .ok (.aload_n 0, 1) := by decide +kernel
theorem dX5_readLetter_38 : decode cX5_readLetter 38 = .ok (.getfield 26, 3) := by decide +kernel
theorem dX5_readLetter_41 : decode cX5_readLetter 41 = .ok (.iload_n 2, 1) := by decide +kernel
theorem dX5_readLetter_42 : decode cX5_readLetter 42 = .ok (.iload_n 1, 1) := by decide +kernel
theorem dX5_readLetter_43 : decode cX5_readLetter 43 = .ok (.invokevirtual 296, 3) := by decide +kernel
theorem dX5_readLetter_46 : decode cX5_readLetter 46 = .ok (.invokevirtual 299, 3) := by decide +kernel
theorem dX5_readLetter_49 : decode cX5_readLetter 49 = .ok (.aload_n 0, 1) := by decide +kernel
theorem dX5_readLetter_50 : decode cX5_readLetter 50 = .ok (.getfield 12, 3) := by decide +kernel
theorem dX5_readLetter_53 : decode cX5_readLetter 53 = .ok (.iload_n 3, 1) := by decide +kernel
theorem dX5_readLetter_54 : decode cX5_readLetter 54 = .ok (.invokevirtual 302, 3) := by decide +kernel
theorem dX5_readLetter_57 : decode cX5_readLetter 57 = .ok (.aload_n 0, 1) := by decide +kernel
theorem dX5_readLetter_58 : decode cX5_readLetter 58 = .ok (.getfield 12, 3) := by decide +kernel
theorem dX5_readLetter_61 : decode cX5_readLetter 61 = .ok (.aload_n 0, 1) := by decide +kernel
theorem dX5_readLetter_62 : decode cX5_readLetter 62 = .ok (.getfield 12, 3) := by decide +kernel
theorem dX5_readLetter_65 : decode cX5_readLetter 65 = .ok (.getfield 280, 3) := by decide +kernel
theorem dX5_readLetter_68 : decode cX5_readLetter 68 = .ok (.iload_n 1, 1) := by decide +kernel
theorem dX5_readLetter_69 : decode cX5_readLetter 69 = .ok (.invokestatic 243, 3) := by decide +kernel
theorem dX5_readLetter_72 : decode cX5_readLetter 72 = .ok (.invokestatic 305, 3) := by decide +kernel
theorem dX5_readLetter_75 : decode cX5_readLetter 75 = .ok (.putfield 280, 3) := by decide +kernel
theorem dX5_readLetter_78 : decode cX5_readLetter 78 = .ok (.aload_n 0, 1) := by decide +kernel
theorem dX5_readLetter_79 : decode cX5_readLetter 79 = .ok (.getfield 12, 3) := by decide +kernel
theorem dX5_readLetter_82 : decode cX5_readLetter 82 = .ok (.dup, 1) := by decide +kernel
theorem dX5_readLetter_83 : decode cX5_readLetter 83 = .ok (.getfield 116, 3) := by decide +kernel
theorem dX5_readLetter_86 : decode cX5_readLetter 86 = .ok (.iconst 1, 1) := by decide +kernel
theorem dX5_readLetter_87 : decode cX5_readLetter 87 = .ok (.iadd, 1) := by decide +kernel
theorem dX5_readLetter_88 : decode cX5_readLetter 88 = .ok (.putfield 116, 3) := by decide +kernel
theorem dX5_readLetter_91 : decode cX5_readLetter 91 = .ok (.iload_n 3, 1) := by decide +kernel
theorem dX5_readLetter_92 : decode cX5_readLetter 92 = .ok (.invokestatic 307, 3) := by decide +kernel
theorem dX5_readLetter_95 : decode cX5_readLetter 95 = .ok (.ireturn, 1) := by decide +kernel
set_option maxRecDepth 20000 in
theorem ggX5_matchesThatCount_X5_at : GoodIn wsX5_matchesThatCount wsX5_at := goodIn_r _ [8] (by decide +kernel) (by decide +kernel)
set_option maxRecDepth 20000 in
theorem gX5_matchesThatCount_X5_at : GoodIn wsX5_matchesThatCount (va_wsS RX5 68 yX5_at wsX5_at) := goodIn_app (goodIn_of _ (by decide +kernel)) ggX5_matchesThatCount_X5_at
set_option maxRecDepth 20000 in
theorem ggX5_matchesThatCount_X5_patternIn : GoodIn wsX5_matchesThatCount wsX5_patternIn := goodIn_r _ [12, 3, 13, 5, 6, 7, 8, 18, 19, 20, 21, 22, 28, 29, 30, 31, 32, 33, 34, 35, 36, 37] (by decide +kernel) (by decide +kernel)
set_option maxRecDepth 20000 in
theorem gX5_matchesThatCount_X5_patternIn : GoodIn wsX5_matchesThatCount (wsV RX5 92 RX5 yX5_patternIn wsX5_patternIn) := goodIn_app (goodIn_of _ (by decide +kernel)) ggX5_matchesThatCount_X5_patternIn
set_option maxRecDepth 20000 in
theorem ggX5_matchesThatCount_X3_lengthOf : GoodIn wsX5_matchesThatCount wsX3_lengthOf := goodIn_r _ [17] (by decide +kernel) (by decide +kernel)
set_option maxRecDepth 20000 in
theorem gX5_matchesThatCount_X3_lengthOf : GoodIn wsX5_matchesThatCount (va_wsS RX5 252 yX3_lengthOf wsX3_lengthOf) := goodIn_app (goodIn_of _ (by decide +kernel)) ggX5_matchesThatCount_X3_lengthOf
theorem dX5_matchesThatCount_0 : decode cX5_matchesThatCount 0 = .ok (.aload_n 0, 1) := by decide +kernel
theorem dX5_matchesThatCount_1 : decode cX5_matchesThatCount 1 = .ok (.getfield 26, 3) := by decide +kernel
theorem dX5_matchesThatCount_4 : decode cX5_matchesThatCount 4 = .ok (.getfield 318, 3) := by decide +kernel
theorem dX5_matchesThatCount_7 : decode cX5_matchesThatCount 7 = .ok (.iload_n 1, 1) := by decide +kernel
theorem dX5_matchesThatCount_8 : decode cX5_matchesThatCount 8 = .ok (.invokestatic 68, 3) := by decide +kernel
theorem dX5_matchesThatCount_11 : decode cX5_matchesThatCount 11 = .ok (.istore 4, 2) := by decide +kernel
theorem dX5_matchesThatCount_13 : decode cX5_matchesThatCount 13 = .ok (.aload_n 0, 1) := by decide +kernel
theorem dX5_matchesThatCount_14 : decode cX5_matchesThatCount 14 = .ok (.getfield 12, 3) := by decide +kernel
theorem dX5_matchesThatCount_17 : decode cX5_matchesThatCount 17 = .ok (.getfield 107, 3) := by decide +kernel
theorem dX5_matchesThatCount_20 : decode cX5_matchesThatCount 20 = .ok (.ifCond .ne 6, 3) := by decide +kernel
theorem dX5_matchesThatCount_23 : decode cX5_matchesThatCount 23 = .ok (.iload 4, 2) := by decide +kernel
theorem dX5_matchesThatCount_25 : decode cX5_matchesThatCount 25 = .ok (.ireturn, 1) := by decide +kernel
theorem dX5_matchesThatCount_26 : decode cX5_matchesThatCount 26 = .ok (.iconst 0, 1) := by decide +kernel
theorem dX5_matchesThatCount_27 : decode cX5_matchesThatCount 27 = .ok (.istore 5, 2) := by decide +kernel
theorem dX5_matchesThatCount_29 : decode cX5_matchesThatCount 29 = .ok (.iconst 0, 1) := by decide +kernel
theorem dX5_matchesThatCount_30 : decode cX5_matchesThatCount 30 = .ok (.istore 6, 2) := by decide +kernel
theorem dX5_matchesThatCount_32 : decode cX5_matchesThatCount 32 = .ok (.iconst 0, 1) := by decide +kernel
theorem dX5_matchesThatCount_33 : decode cX5_matchesThatCount 33 = .ok (.istore 7, 2) := by decide +kernel
theorem dX5_matchesThatCount_35 : decode cX5_matchesThatCount 35 = .ok (.iload 7, 2) := by decide +kernel
theorem dX5_matchesThatCount_37 : decode cX5_matchesThatCount 37 = .ok (.bipush 8, 2) := by decide +kernel
theorem dX5_matchesThatCount_39 : decode cX5_matchesThatCount 39 = .ok (.if_icmp .ge 80, 3) := by decide +kernel
theorem dX5_matchesThatCount_42 : decode cX5_matchesThatCount 42 = .ok (.aload_n 0, 1) := by decide +kernel
theorem dX5_matchesThatCount_43 : decode cX5_matchesThatCount 43 = .ok (.iload 7, 2) := by decide +kernel
theorem dX5_matchesThatCount_45 : decode cX5_matchesThatCount 45 = .ok (.invokevirtual 92, 3) := by decide +kernel
theorem dX5_matchesThatCount_48 : decode cX5_matchesThatCount 48 = .ok (.invokestatic 252, 3) := by decide +kernel
theorem dX5_matchesThatCount_51 : decode cX5_matchesThatCount 51 = .ok (.istore 8, 2) := by decide +kernel
theorem dX5_matchesThatCount_53 : decode cX5_matchesThatCount 53 = .ok (.aload_n 0, 1) := by decide +kernel
theorem dX5_matchesThatCount_54 : decode cX5_matchesThatCount 54 = .ok (.getfield 12, 3) := by decide +kernel
theorem dX5_matchesThatCount_57 : decode cX5_matchesThatCount 57 = .ok (.getfield 107, 3) := by decide +kernel
theorem dX5_matchesThatCount_60 : decode cX5_matchesThatCount 60 = .ok (.iconst 2, 1) := by decide +kernel
theorem dX5_matchesThatCount_61 : decode cX5_matchesThatCount 61 = .ok (.if_icmp .ne 13, 3) := by decide +kernel
theorem dX5_matchesThatCount_64 : decode cX5_matchesThatCount 64 = .ok (.iload_n 2, 1) := by decide +kernel
theorem dX5_matchesThatCount_65 : decode cX5_matchesThatCount 65 = .ok (.iload 8, 2) := by decide +kernel
theorem dX5_matchesThatCount_67 : decode cX5_matchesThatCount 67 = .ok (.isub, 1) := by decide +kernel
theorem dX5_matchesThatCount_68 : decode cX5_matchesThatCount 68 = .ok (.iconst 1, 1) := by decide +kernel
theorem dX5_matchesThatCount_69 : decode cX5_matchesThatCount 69 = .ok (.iadd, 1) := by decide +kernel
theorem dX5_matchesThatCount_70 : decode cX5_matchesThatCount 70 = .ok (.iload_n 3, 1) := by decide +kernel
theorem dX5_matchesThatCount_71 : decode cX5_matchesThatCount 71 = .ok (.if_icmp .le 7, 3) := by decide +kernel
theorem dX5_matchesThatCount_74 : decode cX5_matchesThatCount 74 = .ok (.iconst 1, 1) := by decide +kernel
theorem dX5_matchesThatCount_75 : decode cX5_matchesThatCount 75 = .ok (.goto 4, 3) := by decide +kernel
theorem dX5_matchesThatCount_78 : decode cX5_matchesThatCount 78 = .ok (.iconst 0, 1) := by decide +kernel
theorem dX5_matchesThatCount_79 : decode cX5_matchesThatCount 79 = .ok (.istore 9, 2) := by decide +kernel
theorem dX5_matchesThatCount_81 : decode cX5_matchesThatCount 81 = .ok (.iload 4, 2) := by decide +kernel
theorem dX5_matchesThatCount_83 : decode cX5_matchesThatCount 83 = .ok (.iconst 1, 1) := by decide +kernel
theorem dX5_matchesThatCount_84 : decode cX5_matchesThatCount 84 = .ok (.iload 7, 2) := by decide +kernel
theorem dX5_matchesThatCount_86 : decode cX5_matchesThatCount 86 = .ok (.ishl, 1) := by decide +kernel
theorem dX5_matchesThatCount_87 : decode cX5_matchesThatCount 87 = .ok (.iand, 1) := by decide +kernel
theorem dX5_matchesThatCount_88 : decode cX5_matchesThatCount 88 = .ok (.ifCond .eq 25, 3) := by decide +kernel
theorem dX5_matchesThatCount_91 : decode cX5_matchesThatCount 91 = .ok (.iload 9, 2) := by decide +kernel
theorem dX5_matchesThatCount_93 : decode cX5_matchesThatCount 93 = .ok (.ifCond .eq 20, 3) := by decide +kernel
theorem dX5_matchesThatCount_96 : decode cX5_matchesThatCount 96 = .ok (.iload 8, 2) := by decide +kernel
theorem dX5_matchesThatCount_98 : decode cX5_matchesThatCount 98 = .ok (.iload 5, 2) := by decide +kernel
theorem dX5_matchesThatCount_100 : decode cX5_matchesThatCount 100 = .ok (.if_icmp .le 13, 3) := by decide +kernel
theorem dX5_matchesThatCount_103 : decode cX5_matchesThatCount 103 = .ok (.iload 8, 2) := by decide +kernel
theorem dX5_matchesThatCount_105 : decode cX5_matchesThatCount 105 = .ok (.istore 5, 2) := by decide +kernel
theorem dX5_matchesThatCount_107 : decode cX5_matchesThatCount 107 = .ok (.iconst 1, 1) := by decide +kernel
theorem dX5_matchesThatCount_108 : decode cX5_matchesThatCount 108 = .ok (.iload 7, 2) := by decide +kernel
theorem dX5_matchesThatCount_110 : decode cX5_matchesThatCount 110 = .ok (.ishl, 1) := by decide +kernel
theorem dX5_matchesThatCount_111 : decode cX5_matchesThatCount 111 = .ok (.istore 6, 2) := by decide +kernel
theorem dX5_matchesThatCount_113 : decode cX5_matchesThatCount 113 = .ok (.iinc 7 1, 3) := by decide +kernel
theorem dX5_matchesThatCount_116 : decode cX5_matchesThatCount 116 = .ok (.goto (-81), 3) := by decide +kernel
theorem dX5_matchesThatCount_119 : decode cX5_matchesThatCount 119 = .ok (.iload 6, 2) := by decide +kernel
theorem dX5_matchesThatCount_121 : decode cX5_matchesThatCount 121 = .ok (.ireturn, 1) := by decide +kernel
set_option maxRecDepth 20000 in
theorem ggX5_stateProperty_X5_at : GoodIn wsX5_stateProperty wsX5_at := goodIn_r _ [8] (by decide +kernel) (by decide +kernel)
set_option maxRecDepth 20000 in
theorem gX5_stateProperty_X5_at : GoodIn wsX5_stateProperty (va_wsS RX5 68 yX5_at wsX5_at) := goodIn_app (goodIn_of _ (by decide +kernel)) ggX5_stateProperty_X5_at
set_option maxRecDepth 20000 in
theorem ggX5_stateProperty_X3_lengthOf : GoodIn wsX5_stateProperty wsX3_lengthOf := goodIn_r _ [12] (by decide +kernel) (by decide +kernel)
set_option maxRecDepth 20000 in
theorem gX5_stateProperty_X3_lengthOf : GoodIn wsX5_stateProperty (va_wsS RX5 252 yX3_lengthOf wsX3_lengthOf) := goodIn_app (goodIn_of _ (by decide +kernel)) ggX5_stateProperty_X3_lengthOf
set_option maxRecDepth 20000 in
theorem ggX5_stateProperty_X3_lastLetter : GoodIn wsX5_stateProperty wsX3_lastLetter := goodIn_r _ [15] (by decide +kernel) (by decide +kernel)
set_option maxRecDepth 20000 in
theorem gX5_stateProperty_X3_lastLetter : GoodIn wsX5_stateProperty (va_wsS RX5 324 yX3_lastLetter wsX3_lastLetter) := goodIn_app (goodIn_of _ (by decide +kernel)) ggX5_stateProperty_X3_lastLetter
set_option maxRecDepth 20000 in
theorem ggX5_stateProperty_X5_patternsThatBeginWith : GoodIn wsX5_stateProperty wsX5_patternsThatBeginWith := goodIn_r _ [19, 20, 21, 22, 7, 23, 24, 25, 5, 6, 8, 26, 27, 11, 28, 29, 10, 12, 36, 37, 38, 39, 40, 46, 47, 48, 49, 50, 51, 52, 53, 54, 55] (by decide +kernel) (by decide +kernel)
set_option maxRecDepth 20000 in
theorem gX5_stateProperty_X5_patternsThatBeginWith : GoodIn wsX5_stateProperty (wsV RX5 277 RX5 yX5_patternsThatBeginWith wsX5_patternsThatBeginWith) := goodIn_app (goodIn_of _ (by decide +kernel)) ggX5_stateProperty_X5_patternsThatBeginWith
set_option maxRecDepth 20000 in
theorem ggX5_stateProperty_X1_leadsTo : GoodIn wsX5_stateProperty wsX1_leadsTo := goodIn_r _ [34, 35, 6, 7, 8, 41, 42, 43, 44, 45] (by decide +kernel) (by decide +kernel)
set_option maxRecDepth 20000 in
theorem gX5_stateProperty_X1_leadsTo : GoodIn wsX5_stateProperty (wsV RX5 286 RX1 yX1_leadsTo wsX1_leadsTo) := goodIn_app (goodIn_of _ (by decide +kernel)) ggX5_stateProperty_X1_leadsTo
theorem dX5_stateProperty_0 : decode cX5_stateProperty 0 = .ok (.iload_n 2, 1) := by decide +kernel
theorem dX5_stateProperty_1 : decode cX5_stateProperty 1 = .ok (.tableswitch 113 0 4 #[35, 50, 73, 85, 97], 35) := by decide +kernel
theorem dX5_stateProperty_36 : decode cX5_stateProperty 36 = .ok (.aload_n 0, 1) := by decide +kernel
theorem dX5_stateProperty_37 : decode cX5_stateProperty 37 = .ok (.getfield 26, 3) := by decide +kernel
theorem dX5_stateProperty_40 : decode cX5_stateProperty 40 = .ok (.getfield 321, 3) := by decide +kernel
theorem dX5_stateProperty_43 : decode cX5_stateProperty 43 = .ok (.iload_n 1, 1) := by decide +kernel
theorem dX5_stateProperty_44 : decode cX5_stateProperty 44 = .ok (.invokestatic 68, 3) := by decide +kernel
theorem dX5_stateProperty_47 : decode cX5_stateProperty 47 = .ok (.invokestatic 252, 3) := by decide +kernel
theorem dX5_stateProperty_50 : decode cX5_stateProperty 50 = .ok (.ireturn, 1) := by decide +kernel
theorem dX5_stateProperty_51 : decode cX5_stateProperty 51 = .ok (.iload_n 1, 1) := by decide +kernel
theorem dX5_stateProperty_52 : decode cX5_stateProperty 52 = .ok (.ifCond .ne 7, 3) := by decide +kernel
theorem dX5_stateProperty_55 : decode cX5_stateProperty 55 = .ok (.iconst (-1), 1) := by decide +kernel
theorem dX5_stateProperty_56 : decode cX5_stateProperty 56 = .ok (.goto 17, 3) := by decide +kernel
theorem dX5_stateProperty_59 : decode cX5_stateProperty 59 = .ok (.aload_n 0, 1) := by decide +kernel
theorem dX5_stateProperty_60 : decode cX5_stateProperty 60 = .ok (.getfield 26, 3) := by decide +kernel
theorem dX5_stateProperty_63 : decode cX5_stateProperty 63 = .ok (.getfield 321, 3) := by decide +kernel
theorem dX5_stateProperty_66 : decode cX5_stateProperty 66 = .ok (.iload_n 1, 1) := by decide +kernel
theorem dX5_stateProperty_67 : decode cX5_stateProperty 67 = .ok (.invokestatic 68, 3) := by decide +kernel
theorem dX5_stateProperty_70 : decode cX5_stateProperty 70 = .ok (.invokestatic 324, 3) := by decide +kernel
theorem dX5_stateProperty_73 : decode cX5_stateProperty 73 = .ok (.ireturn, 1) := by decide +kernel
theorem dX5_stateProperty_74 : decode cX5_stateProperty 74 = .ok (.aload_n 0, 1) := by decide +kernel
theorem dX5_stateProperty_75 : decode cX5_stateProperty 75 = .ok (.getfield 26, 3) := by decide +kernel
theorem dX5_stateProperty_78 : decode cX5_stateProperty 78 = .ok (.getfield 327, 3) := by decide +kernel
theorem dX5_stateProperty_81 : decode cX5_stateProperty 81 = .ok (.iload_n 1, 1) := by decide +kernel
theorem dX5_stateProperty_82 : decode cX5_stateProperty 82 = .ok (.invokestatic 68, 3) := by decide +kernel
theorem dX5_stateProperty_85 : decode cX5_stateProperty 85 = .ok (.ireturn, 1) := by decide +kernel
theorem dX5_stateProperty_86 : decode cX5_stateProperty 86 = .ok (.aload_n 0, 1) := by decide +kernel
theorem dX5_stateProperty_87 : decode cX5_stateProperty 87 = .ok (.getfield 26, 3) := by decide +kernel
theorem dX5_stateProperty_90 : decode cX5_stateProperty 90 = .ok (.getfield 318, 3) := by decide +kernel
theorem dX5_stateProperty_93 : decode cX5_stateProperty 93 = .ok (.iload_n 1, 1) := by decide +kernel
theorem dX5_stateProperty_94 : decode cX5_stateProperty 94 = .ok (.invokestatic 68, 3) := by decide +kernel
theorem dX5_stateProperty_97 : decode cX5_stateProperty 97 = .ok (.ireturn, 1) := by decide +kernel
theorem dX5_stateProperty_98 : decode cX5_stateProperty 98 = .ok (.aload_n 0, 1) := by decide +kernel
theorem dX5_stateProperty_99 : decode cX5_stateProperty 99 = .ok (.aload_n 0, 1) := by decide +kernel
theorem dX5_stateProperty_100 : decode cX5_stateProperty 100 = .ok (.getfield 26, 3) := by decide +kernel
theorem dX5_stateProperty_103 : decode cX5_stateProperty 103 = .ok (.getfield 321, 3) := by decide +kernel
theorem dX5_stateProperty_106 : decode cX5_stateProperty 106 = .ok (.iload_n 1, 1) := by decide +kernel
theorem dX5_stateProperty_107 : decode cX5_stateProperty 107 = .ok (.invokestatic 68, 3) := by decide +kernel
theorem dX5_stateProperty_110 : decode cX5_stateProperty 110 = .ok (.invokevirtual 277, 3) := by decide +kernel
theorem dX5_stateProperty_113 : decode cX5_stateProperty 113 = .ok (.ireturn, 1) := by decide +kernel
theorem dX5_stateProperty_114 : decode cX5_stateProperty 114 = .ok (.aload_n 0, 1) := by decide +kernel
theorem dX5_stateProperty_115 : decode cX5_stateProperty 115 = .ok (.getfield 26, 3) := by decide +kernel
theorem dX5_stateProperty_118 : decode cX5_stateProperty 118 = .ok (.iload_n 1, 1) := by decide +kernel
theorem dX5_stateProperty_119 : decode cX5_stateProperty 119 = .ok (.iload_n 2, 1) := by decide +kernel
theorem dX5_stateProperty_120 : decode cX5_stateProperty 120 = .ok (.iconst 5, 1) := by decide +kernel
theorem dX5_stateProperty_121 : decode cX5_stateProperty 121 = .ok (.isub, 1) := by decide +kernel
theorem dX5_stateProperty_122 : decode cX5_stateProperty 122 = .ok (.invokevirtual 286, 3) := by decide +kernel
theorem dX5_stateProperty_125 : decode cX5_stateProperty 125 = .ok (.ireturn, 1) := by decide +kernel
set_option maxRecDepth 20000 in
theorem ggX5_numberTold_X5_numberOfPatterns : GoodIn wsX5_numberTold wsX5_numberOfPatterns := goodIn_r _ [15, 16, 17, 18, 14, 19, 3, 20, 21, 22, 23, 55, 56, 57, 58, 59, 65, 66, 67, 68, 69, 70, 71, 72, 73, 74] (by decide +kernel) (by decide +kernel)
set_option maxRecDepth 20000 in
theorem gX5_numberTold_X5_numberOfPatterns : GoodIn wsX5_numberTold (wsV RX5 330 RX5 yX5_numberOfPatterns wsX5_numberOfPatterns) := goodIn_app (goodIn_of _ (by decide +kernel)) ggX5_numberTold_X5_numberOfPatterns
set_option maxRecDepth 20000 in
theorem ggX5_numberTold_X5_currentState : GoodIn wsX5_numberTold wsX5_currentState := goodIn_r _ [27, 1, 3, 28, 29, 30, 31, 32, 33, 34, 35, 36, 37, 38, 39, 40, 41, 42, 43, 44, 45, 46, 47, 48, 49, 22, 14, 23, 55, 56, 57, 58, 59, 65, 66, 67, 68, 69, 70, 71, 72, 73, 74, 60, 61, 62, 63, 64] (by decide +kernel) (by decide +kernel)
set_option maxRecDepth 20000 in
theorem gX5_numberTold_X5_currentState : GoodIn wsX5_numberTold (wsV RX5 283 RX5 yX5_currentState wsX5_currentState) := goodIn_app (goodIn_of _ (by decide +kernel)) ggX5_numberTold_X5_currentState
set_option maxRecDepth 20000 in
theorem ggX5_numberTold_X5_sumOfLengths : GoodIn wsX5_numberTold wsX5_sumOfLengths := goodIn_r _ [53, 16, 17, 18, 14, 19, 3, 20, 21, 22, 23, 54, 35, 36, 37, 55, 56, 57, 58, 59, 65, 66, 67, 68, 69, 70, 71, 72, 73, 74] (by decide +kernel) (by decide +kernel)
set_option maxRecDepth 20000 in
theorem gX5_numberTold_X5_sumOfLengths : GoodIn wsX5_numberTold (wsV RX5 206 RX5 yX5_sumOfLengths wsX5_sumOfLengths) := goodIn_app (goodIn_of _ (by decide +kernel)) ggX5_numberTold_X5_sumOfLengths
theorem dX5_numberTold_0 : decode cX5_numberTold 0 = .ok (.iload_n 1, 1) := by decide +kernel
theorem dX5_numberTold_1 : decode cX5_numberTold 1 = .ok (.tableswitch 114 0 8 #[51, 56, 64, 69, 77, 85, 93, 101, 109], 51) := by decide +kernel
theorem dX5_numberTold_52 : decode cX5_numberTold 52 = .ok (.aload_n 0, 1) := by decide +kernel
theorem dX5_numberTold_53 : decode cX5_numberTold 53 = .ok (.invokevirtual 330, 3) := by decide +kernel
theorem dX5_numberTold_56 : decode cX5_numberTold 56 = .ok (.ireturn, 1) := by decide +kernel
theorem dX5_numberTold_57 : decode cX5_numberTold 57 = .ok (.aload_n 0, 1) := by decide +kernel
theorem dX5_numberTold_58 : decode cX5_numberTold 58 = .ok (.getfield 26, 3) := by decide +kernel
theorem dX5_numberTold_61 : decode cX5_numberTold 61 = .ok (.getfield 177, 3) := by decide +kernel
theorem dX5_numberTold_64 : decode cX5_numberTold 64 = .ok (.ireturn, 1) := by decide +kernel
theorem dX5_numberTold_65 : decode cX5_numberTold 65 = .ok (.aload_n 0, 1) := by decide +kernel
theorem dX5_numberTold_66 : decode cX5_numberTold 66 = .ok (.invokevirtual 283, 3) := by decide +kernel
theorem dX5_numberTold_69 : decode cX5_numberTold 69 = .ok (.ireturn, 1) := by decide +kernel
theorem dX5_numberTold_70 : decode cX5_numberTold 70 = .ok (.aload_n 0, 1) := by decide +kernel
theorem dX5_numberTold_71 : decode cX5_numberTold 71 = .ok (.getfield 12, 3) := by decide +kernel
theorem dX5_numberTold_74 : decode cX5_numberTold 74 = .ok (.getfield 116, 3) := by decide +kernel
theorem dX5_numberTold_77 : decode cX5_numberTold 77 = .ok (.ireturn, 1) := by decide +kernel
theorem dX5_numberTold_78 : decode cX5_numberTold 78 = .ok (.aload_n 0, 1) := by decide +kernel
theorem dX5_numberTold_79 : decode cX5_numberTold 79 = .ok (.getfield 12, 3) := by decide +kernel
theorem dX5_numberTold_82 : decode cX5_numberTold 82 = .ok (.getfield 333, 3) := by decide +kernel
theorem dX5_numberTold_85 : decode cX5_numberTold 85 = .ok (.ireturn, 1) := by decide +kernel
theorem dX5_numberTold_86 : decode cX5_numberTold 86 = .ok (.aload_n 0, 1) := by decide +kernel
theorem dX5_numberTold_87 : decode cX5_numberTold 87 = .ok (.getfield 12, 3) := by decide +kernel
theorem dX5_numberTold_90 : decode cX5_numberTold 90 = .ok (.getfield 289, 3) := by decide +kernel
theorem dX5_numberTold_93 : decode cX5_numberTold 93 = .ok (.ireturn, 1) := by decide +kernel
theorem dX5_numberTold_94 : decode cX5_numberTold 94 = .ok (.aload_n 0, 1) := by decide +kernel
theorem dX5_numberTold_95 : decode cX5_numberTold 95 = .ok (.getfield 12, 3) := by decide +kernel
theorem dX5_numberTold_98 : decode cX5_numberTold 98 = .ok (.getfield 336, 3) := by decide +kernel
theorem dX5_numberTold_101 : decode cX5_numberTold 101 = .ok (.ireturn, 1) := by decide +kernel
theorem dX5_numberTold_102 : decode cX5_numberTold 102 = .ok (.aload_n 0, 1) := by decide +kernel
theorem dX5_numberTold_103 : decode cX5_numberTold 103 = .ok (.getfield 12, 3) := by decide +kernel
theorem dX5_numberTold_106 : decode cX5_numberTold 106 = .ok (.getfield 339, 3) := by decide +kernel
theorem dX5_numberTold_109 : decode cX5_numberTold 109 = .ok (.ireturn, 1) := by decide +kernel
theorem dX5_numberTold_110 : decode cX5_numberTold 110 = .ok (.aload_n 0, 1) := by decide +kernel
theorem dX5_numberTold_111 : decode cX5_numberTold 111 = .ok (.invokevirtual 206, 3) := by decide +kernel
theorem dX5_numberTold_114 : decode cX5_numberTold 114 = .ok (.ireturn, 1) := by decide +kernel
theorem dX5_numberTold_115 : decode cX5_numberTold 115 = .ok (.aload_n 0, 1) := by decide +kernel
theorem dX5_numberTold_116 : decode cX5_numberTold 116 = .ok (.getfield 19, 3) := by decide +kernel
theorem dX5_numberTold_119 : decode cX5_numberTold 119 = .ok (.getfield 156, 3) := by decide +kernel
theorem dX5_numberTold_122 : decode cX5_numberTold 122 = .ok (.ireturn, 1) := by decide +kernel
set_option maxRecDepth 20000 in
theorem ggX5_fedNumber_X5_currentState : GoodIn wsX5_fedNumber wsX5_currentState := goodIn_r _ [9, 1, 2, 10, 11, 12, 13, 14, 15, 16, 17, 18, 19, 20, 21, 22, 23, 24, 25, 26, 27, 28, 29, 30, 31, 32, 8, 33, 71, 72, 73, 74, 75, 76, 77, 78, 79, 80, 81, 82, 83, 84, 85, 86, 87, 88, 89, 90] (by decide +kernel) (by decide +kernel)
set_option maxRecDepth 20000 in
theorem gX5_fedNumber_X5_currentState : GoodIn wsX5_fedNumber (wsV RX5 283 RX5 yX5_currentState wsX5_currentState) := goodIn_app (goodIn_of _ (by decide +kernel)) ggX5_fedNumber_X5_currentState
set_option maxRecDepth 20000 in
theorem ggX5_fedNumber_X1_leadsTo : GoodIn wsX5_fedNumber wsX1_leadsTo := goodIn_r _ [30, 31, 32, 8, 33, 86, 87, 88, 89, 90] (by decide +kernel) (by decide +kernel)
set_option maxRecDepth 20000 in
theorem gX5_fedNumber_X1_leadsTo : GoodIn wsX5_fedNumber (wsV RX5 286 RX1 yX1_leadsTo wsX1_leadsTo) := goodIn_app (goodIn_of _ (by decide +kernel)) ggX5_fedNumber_X1_leadsTo
set_option maxRecDepth 20000 in
theorem ggX5_fedNumber_X1_fallsBefore : GoodIn wsX5_fedNumber wsX1_fallsBefore := goodIn_r _ [38, 39, 40, 41, 42, 14, 43, 44, 27, 28, 29, 30, 31, 32, 8, 33, 45, 46, 18, 47, 86, 87, 88, 89, 90] (by decide +kernel) (by decide +kernel)
set_option maxRecDepth 20000 in
theorem gX5_fedNumber_X1_fallsBefore : GoodIn wsX5_fedNumber (wsV RX5 296 RX1 yX1_fallsBefore wsX1_fallsBefore) := goodIn_app (goodIn_of _ (by decide +kernel)) ggX5_fedNumber_X1_fallsBefore
set_option maxRecDepth 20000 in
theorem ggX5_fedNumber_X5_matchesThatCount : GoodIn wsX5_fedNumber wsX5_matchesThatCount := goodIn_r _ [51, 1, 52, 2, 53, 54, 32, 8, 33, 55, 56, 57, 58, 59, 60, 17, 18, 19, 71, 72, 73, 74, 75, 86, 87, 88, 89, 90, 76, 77, 78, 79, 80, 81, 82, 83, 84, 85] (by decide +kernel) (by decide +kernel)
set_option maxRecDepth 20000 in
theorem gX5_fedNumber_X5_matchesThatCount : GoodIn wsX5_fedNumber (wsV RX5 292 RX5 yX5_matchesThatCount wsX5_matchesThatCount) := goodIn_app (goodIn_of _ (by decide +kernel)) ggX5_fedNumber_X5_matchesThatCount
set_option maxRecDepth 20000 in
theorem ggX5_fedNumber_J6_bitCount_0f7a4 : GoodIn wsX5_fedNumber wsJ6_bitCount_0f7a4 := goodIn_r _ [64, 65, 66, 67] (by decide +kernel) (by decide +kernel)
set_option maxRecDepth 20000 in
theorem gX5_fedNumber_J6_bitCount_0f7a4 : GoodIn wsX5_fedNumber (va_wsS RX5 307 yJ6_bitCount_0f7a4 wsJ6_bitCount_0f7a4) := goodIn_app (goodIn_of _ (by decide +kernel)) ggX5_fedNumber_J6_bitCount_0f7a4
set_option maxRecDepth 20000 in
theorem ggX5_fedNumber_X5_lowestSlot : GoodIn wsX5_fedNumber wsX5_lowestSlot := goodIn_r _ [70] (by decide +kernel) (by decide +kernel)
set_option maxRecDepth 20000 in
theorem gX5_fedNumber_X5_lowestSlot : GoodIn wsX5_fedNumber (va_wsS RX5 342 yX5_lowestSlot wsX5_lowestSlot) := goodIn_app (goodIn_of _ (by decide +kernel)) ggX5_fedNumber_X5_lowestSlot
theorem dX5_fedNumber_0 : decode cX5_fedNumber 0 = .ok (.aload_n 0, 1) := by decide +kernel
theorem dX5_fedNumber_1 : decode cX5_fedNumber 1 = .ok (.invokevirtual 283, 3) := by decide +kernel
theorem dX5_fedNumber_4 : decode cX5_fedNumber 4 = .ok (.istore_n 3, 1) := by decide +kernel
theorem dX5_fedNumber_5 : decode cX5_fedNumber 5 = .ok (.aload_n 0, 1) := by decide +kernel
theorem dX5_fedNumber_6 : decode cX5_fedNumber 6 = .ok (.getfield 26, 3) := by decide +kernel
theorem dX5_fedNumber_9 : decode cX5_fedNumber 9 = .ok (.iload_n 3, 1) := by decide +kernel
theorem dX5_fedNumber_10 : decode cX5_fedNumber 10 = .ok (.iload_n 1, 1) := by decide +kernel
theorem dX5_fedNumber_11 : decode cX5_fedNumber 11 = .ok (.invokevirtual 286, 3) := by decide +kernel
theorem dX5_fedNumber_14 : decode cX5_fedNumber 14 = .ok (.istore 4, 2) := by decide +kernel
theorem dX5_fedNumber_16 : decode cX5_fedNumber 16 = .ok (.iload_n 2, 1) := by decide +kernel
theorem dX5_fedNumber_17 : decode cX5_fedNumber 17 = .ok (.tableswitch 64 0 2 #[27, 30, 40], 27) := by decide +kernel
theorem dX5_fedNumber_44 : decode cX5_fedNumber 44 = .ok (.iload 4, 2) := by decide +kernel
theorem dX5_fedNumber_46 : decode cX5_fedNumber 46 = .ok (.ireturn, 1) := by decide +kernel
theorem dX5_fedNumber_47 : decode cX5_fedNumber 47 = .ok (.aload_n 0, 1) := by decide +kernel
theorem dX5_fedNumber_48 : decode cX5_fedNumber 48 = .ok (.getfield 26, 3) := by decide +kernel
theorem dX5_fedNumber_51 : decode cX5_fedNumber 51 = .ok (.iload_n 3, 1) := by decide +kernel
theorem dX5_fedNumber_52 : decode cX5_fedNumber 52 = .ok (.iload_n 1, 1) := by decide +kernel
theorem dX5_fedNumber_53 : decode cX5_fedNumber 53 = .ok (.invokevirtual 296, 3) := by decide +kernel
theorem dX5_fedNumber_56 : decode cX5_fedNumber 56 = .ok (.ireturn, 1) := by decide +kernel
theorem dX5_fedNumber_57 : decode cX5_fedNumber 57 = .ok (.aload_n 0, 1) := by decide +kernel
theorem dX5_fedNumber_58 : decode cX5_fedNumber 58 = .ok (.iload 4, 2) := by decide +kernel
theorem dX5_fedNumber_60 : decode cX5_fedNumber 60 = .ok (.aload_n 0, 1) := by decide +kernel
theorem dX5_fedNumber_61 : decode cX5_fedNumber 61 = .ok (.getfield 12, 3) := by decide +kernel
theorem dX5_fedNumber_64 : decode cX5_fedNumber 64 = .ok (.getfield 116, 3) := by decide +kernel
theorem dX5_fedNumber_67 : decode cX5_fedNumber 67 = .ok (.aload_n 0, 1) := by decide +kernel
theorem dX5_fedNumber_68 : decode cX5_fedNumber 68 = .ok (.getfield 12, 3) := by decide +kernel
theorem dX5_fedNumber_71 : decode cX5_fedNumber 71 = .ok (.getfield 289, 3) := by decide +kernel
theorem dX5_fedNumber_74 : decode cX5_fedNumber 74 = .ok (.invokevirtual 292, 3) := by decide +kernel
theorem dX5_fedNumber_77 : decode cX5_fedNumber 77 = .ok (.invokestatic 307, 3) := by decide +kernel
theorem dX5_fedNumber_80 : decode cX5_fedNumber 80 = .ok (.ireturn, 1) := by decide +kernel
theorem dX5_fedNumber_81 : decode cX5_fedNumber 81 = .ok (.aload_n 0, 1) := by decide +kernel
theorem dX5_fedNumber_82 : decode cX5_fedNumber 82 = .ok (.iload 4, 2) := by decide +kernel
theorem dX5_fedNumber_84 : decode cX5_fedNumber 84 = .ok (.aload_n 0, 1) := by decide +kernel
theorem dX5_fedNumber_85 : decode cX5_fedNumber 85 = .ok (.getfield 12, 3) := by decide +kernel
theorem dX5_fedNumber_88 : decode cX5_fedNumber 88 = .ok (.getfield 116, 3) := by decide +kernel
theorem dX5_fedNumber_91 : decode cX5_fedNumber 91 = .ok (.aload_n 0, 1) := by decide +kernel
theorem dX5_fedNumber_92 : decode cX5_fedNumber 92 = .ok (.getfield 12, 3) := by decide +kernel
theorem dX5_fedNumber_95 : decode cX5_fedNumber 95 = .ok (.getfield 289, 3) := by decide +kernel
theorem dX5_fedNumber_98 : decode cX5_fedNumber 98 = .ok (.invokevirtual 292, 3) := by decide +kernel
theorem dX5_fedNumber_101 : decode cX5_fedNumber 101 = .ok (.invokestatic 342, 3) := by decide +kernel
theorem dX5_fedNumber_104 : decode cX5_fedNumber 104 = .ok (.ireturn, 1) := by decide +kernel
theorem dX5_lowestSlot_0 : decode cX5_lowestSlot 0 = .ok (.iconst 0, 1) := by decide +kernel
theorem dX5_lowestSlot_1 : decode cX5_lowestSlot 1 = .ok (.istore_n 1, 1) := by decide +kernel
theorem dX5_lowestSlot_2 : decode cX5_lowestSlot 2 = .ok (.iload_n 1, 1) := by decide +kernel
theorem dX5_lowestSlot_3 : decode cX5_lowestSlot 3 = .ok (.bipush 8, 2) := by decide +kernel
theorem dX5_lowestSlot_5 : decode cX5_lowestSlot 5 = .ok (.if_icmp .ge 19, 3) := by decide +kernel
theorem dX5_lowestSlot_8 : decode cX5_lowestSlot 8 = .ok (.iload_n 0, 1) := by decide +kernel
theorem dX5_lowestSlot_9 : decode cX5_lowestSlot 9 = .ok (.iconst 1, 1) := by decide +kernel
theorem dX5_lowestSlot_10 : decode cX5_lowestSlot 10 = .ok (.iload_n 1, 1) := by decide +kernel
theorem dX5_lowestSlot_11 : decode cX5_lowestSlot 11 = .ok (.ishl, 1) := by decide +kernel
theorem dX5_lowestSlot_12 : decode cX5_lowestSlot 12 = .ok (.iand, 1) := by decide +kernel
theorem dX5_lowestSlot_13 : decode cX5_lowestSlot 13 = .ok (.ifCond .eq 5, 3) := by decide +kernel
theorem dX5_lowestSlot_16 : decode cX5_lowestSlot 16 = .ok (.iload_n 1, 1) := by decide +kernel
theorem dX5_lowestSlot_17 : decode cX5_lowestSlot 17 = .ok (.ireturn, 1) := by decide +kernel
theorem dX5_lowestSlot_18 : decode cX5_lowestSlot 18 = .ok (.iinc 1 1, 3) := by decide +kernel
theorem dX5_lowestSlot_21 : decode cX5_lowestSlot 21 = .ok (.goto (-19), 3) := by decide +kernel
theorem dX5_lowestSlot_24 : decode cX5_lowestSlot 24 = .ok (.iconst (-1), 1) := by decide +kernel
theorem dX5_lowestSlot_25 : decode cX5_lowestSlot 25 = .ok (.ireturn, 1) := by decide +kernel
set_option maxRecDepth 20000 in
theorem ggX5_fewestLettersTo_X5_currentState : GoodIn wsX5_fewestLettersTo wsX5_currentState := goodIn_r _ [7, 1, 8, 9, 10, 11, 12, 13, 14, 15, 16, 17, 18, 19, 20, 21, 22, 23, 24, 25, 26, 27, 28, 29, 30, 31, 6, 32, 44, 45, 46, 47, 48, 54, 55, 56, 57, 58, 59, 60, 61, 62, 63, 49, 50, 51, 52, 53] (by decide +kernel) (by decide +kernel)
set_option maxRecDepth 20000 in
theorem gX5_fewestLettersTo_X5_currentState : GoodIn wsX5_fewestLettersTo (wsV RX5 283 RX5 yX5_currentState wsX5_currentState) := goodIn_app (goodIn_of _ (by decide +kernel)) ggX5_fewestLettersTo_X5_currentState
set_option maxRecDepth 20000 in
theorem ggX5_fewestLettersTo_X5_at : GoodIn wsX5_fewestLettersTo wsX5_at := goodIn_r _ [32] (by decide +kernel) (by decide +kernel)
set_option maxRecDepth 20000 in
theorem gX5_fewestLettersTo_X5_at : GoodIn wsX5_fewestLettersTo (va_wsS RX5 68 yX5_at wsX5_at) := goodIn_app (goodIn_of _ (by decide +kernel)) ggX5_fewestLettersTo_X5_at
set_option maxRecDepth 20000 in
theorem ggX5_fewestLettersTo_X3_lengthOf : GoodIn wsX5_fewestLettersTo wsX3_lengthOf := goodIn_r _ [18] (by decide +kernel) (by decide +kernel)
set_option maxRecDepth 20000 in
theorem gX5_fewestLettersTo_X3_lengthOf : GoodIn wsX5_fewestLettersTo (va_wsS RX5 252 yX3_lengthOf wsX3_lengthOf) := goodIn_app (goodIn_of _ (by decide +kernel)) ggX5_fewestLettersTo_X3_lengthOf
set_option maxRecDepth 20000 in
theorem ggX5_fewestLettersTo_X3_beginning : GoodIn wsX5_fewestLettersTo wsX3_beginning := goodIn_r _ [37, 22, 16, 17, 18] (by decide +kernel) (by decide +kernel)
set_option maxRecDepth 20000 in
theorem gX5_fewestLettersTo_X3_beginning : GoodIn wsX5_fewestLettersTo (va_wsS RX5 274 yX3_beginning wsX3_beginning) := goodIn_app (goodIn_of _ (by decide +kernel)) ggX5_fewestLettersTo_X3_beginning
set_option maxRecDepth 20000 in
theorem ggX5_fewestLettersTo_X3_endsWith : GoodIn wsX5_fewestLettersTo wsX3_endsWith := goodIn_r _ [40, 22, 16, 17, 18, 41, 42, 43] (by decide +kernel) (by decide +kernel)
set_option maxRecDepth 20000 in
theorem gX5_fewestLettersTo_X3_endsWith : GoodIn wsX5_fewestLettersTo (va_wsS RX5 345 yX3_endsWith wsX3_endsWith) := goodIn_app (goodIn_of _ (by decide +kernel)) ggX5_fewestLettersTo_X3_endsWith
theorem dX5_fewestLettersTo_0 : decode cX5_fewestLettersTo 0 = .ok (.iload_n 1, 1) := by decide +kernel
theorem dX5_fewestLettersTo_1 : decode cX5_fewestLettersTo 1 = .ok (.ifCond .ne 5, 3) := by decide +kernel
theorem dX5_fewestLettersTo_4 : decode cX5_fewestLettersTo 4 = .ok (.iconst (-1), 1) := by decide +kernel
theorem dX5_fewestLettersTo_5 : decode cX5_fewestLettersTo 5 = .ok (.ireturn, 1) := by decide +kernel
theorem dX5_fewestLettersTo_6 : decode cX5_fewestLettersTo 6 = .ok (.aload_n 0, 1) := by decide +kernel
theorem dX5_fewestLettersTo_7 : decode cX5_fewestLettersTo 7 = .ok (.getfield 26, 3) := by decide +kernel
theorem dX5_fewestLettersTo_10 : decode cX5_fewestLettersTo 10 = .ok (.getfield 321, 3) := by decide +kernel
theorem dX5_fewestLettersTo_13 : decode cX5_fewestLettersTo 13 = .ok (.aload_n 0, 1) := by decide +kernel
theorem dX5_fewestLettersTo_14 : decode cX5_fewestLettersTo 14 = .ok (.invokevirtual 283, 3) := by decide +kernel
theorem dX5_fewestLettersTo_17 : decode cX5_fewestLettersTo 17 = .ok (.invokestatic 68, 3) := by decide +kernel
theorem dX5_fewestLettersTo_20 : decode cX5_fewestLettersTo 20 = .ok (.istore_n 2, 1) := by decide +kernel
theorem dX5_fewestLettersTo_21 : decode cX5_fewestLettersTo 21 = .ok (.iload_n 1, 1) := by decide +kernel
theorem dX5_fewestLettersTo_22 : decode cX5_fewestLettersTo 22 = .ok (.invokestatic 252, 3) := by decide +kernel
theorem dX5_fewestLettersTo_25 : decode cX5_fewestLettersTo 25 = .ok (.istore_n 3, 1) := by decide +kernel
theorem dX5_fewestLettersTo_26 : decode cX5_fewestLettersTo 26 = .ok (.iconst 1, 1) := by decide +kernel
theorem dX5_fewestLettersTo_27 : decode cX5_fewestLettersTo 27 = .ok (.istore 4, 2) := by decide +kernel
theorem dX5_fewestLettersTo_29 : decode cX5_fewestLettersTo 29 = .ok (.iload 4, 2) := by decide +kernel
theorem dX5_fewestLettersTo_31 : decode cX5_fewestLettersTo 31 = .ok (.iload_n 3, 1) := by decide +kernel
theorem dX5_fewestLettersTo_32 : decode cX5_fewestLettersTo 32 = .ok (.if_icmp .ge 27, 3) := by decide +kernel
theorem dX5_fewestLettersTo_35 : decode cX5_fewestLettersTo 35 = .ok (.iload_n 2, 1) := by decide +kernel
theorem dX5_fewestLettersTo_36 : decode cX5_fewestLettersTo 36 = .ok (.iload_n 1, 1) := by decide +kernel
theorem dX5_fewestLettersTo_37 : decode cX5_fewestLettersTo 37 = .ok (.iload_n 3, 1) := by decide +kernel
theorem dX5_fewestLettersTo_38 : decode cX5_fewestLettersTo 38 = .ok (.iload 4, 2) := by decide +kernel
theorem dX5_fewestLettersTo_40 : decode cX5_fewestLettersTo 40 = .ok (.isub, 1) := by decide +kernel
theorem dX5_fewestLettersTo_41 : decode cX5_fewestLettersTo 41 = .ok (.invokestatic 274, 3) := by decide +kernel
theorem dX5_fewestLettersTo_44 : decode cX5_fewestLettersTo 44 = .ok (.invokestatic 345, 3) := by decide +kernel
theorem dX5_fewestLettersTo_47 : decode cX5_fewestLettersTo 47 = .ok (.ifCond .eq 6, 3) := by decide +kernel
theorem dX5_fewestLettersTo_50 : decode cX5_fewestLettersTo 50 = .ok (.iload 4, 2) := by decide +kernel
theorem dX5_fewestLettersTo_52 : decode cX5_fewestLettersTo 52 = .ok (.ireturn, 1) := by decide +kernel
theorem dX5_fewestLettersTo_53 : decode cX5_fewestLettersTo 53 = .ok (.iinc 4 1, 3) := by decide +kernel
theorem dX5_fewestLettersTo_56 : decode cX5_fewestLettersTo 56 = .ok (.goto (-27), 3) := by decide +kernel
theorem dX5_fewestLettersTo_59 : decode cX5_fewestLettersTo 59 = .ok (.iload_n 3, 1) := by decide +kernel
theorem dX5_fewestLettersTo_60 : decode cX5_fewestLettersTo 60 = .ok (.ireturn, 1) := by decide +kernel
set_option maxRecDepth 20000 in
theorem ggX5_matchesIfRepeated_X5_currentState : GoodIn wsX5_matchesIfRepeated wsX5_currentState := goodIn_r _ [9, 3, 1, 10, 11, 12, 13, 14, 15, 16, 17, 18, 19, 20, 21, 22, 23, 24, 25, 26, 27, 28, 29, 30, 31, 32, 8, 33, 55, 56, 57, 58, 59, 60, 61, 62, 63, 64, 65, 66, 67, 68, 69, 70, 71, 72, 73, 74] (by decide +kernel) (by decide +kernel)
set_option maxRecDepth 20000 in
theorem gX5_matchesIfRepeated_X5_currentState : GoodIn wsX5_matchesIfRepeated (wsV RX5 283 RX5 yX5_currentState wsX5_currentState) := goodIn_app (goodIn_of _ (by decide +kernel)) ggX5_matchesIfRepeated_X5_currentState
set_option maxRecDepth 20000 in
theorem ggX5_matchesIfRepeated_X1_leadsTo : GoodIn wsX5_matchesIfRepeated wsX1_leadsTo := goodIn_r _ [30, 31, 32, 8, 33, 70, 71, 72, 73, 74] (by decide +kernel) (by decide +kernel)
set_option maxRecDepth 20000 in
theorem gX5_matchesIfRepeated_X1_leadsTo : GoodIn wsX5_matchesIfRepeated (wsV RX5 286 RX1 yX1_leadsTo wsX1_leadsTo) := goodIn_app (goodIn_of _ (by decide +kernel)) ggX5_matchesIfRepeated_X1_leadsTo
set_option maxRecDepth 20000 in
theorem ggX5_matchesIfRepeated_X5_matchesThatCount : GoodIn wsX5_matchesIfRepeated wsX5_matchesThatCount := goodIn_r _ [38, 3, 39, 1, 40, 41, 32, 8, 33, 42, 43, 44, 45, 46, 47, 17, 18, 19, 55, 56, 57, 58, 59, 70, 71, 72, 73, 74, 60, 61, 62, 63, 64, 65, 66, 67, 68, 69] (by decide +kernel) (by decide +kernel)
set_option maxRecDepth 20000 in
theorem gX5_matchesIfRepeated_X5_matchesThatCount : GoodIn wsX5_matchesIfRepeated (wsV RX5 292 RX5 yX5_matchesThatCount wsX5_matchesThatCount) := goodIn_app (goodIn_of _ (by decide +kernel)) ggX5_matchesIfRepeated_X5_matchesThatCount
set_option maxRecDepth 20000 in
theorem ggX5_matchesIfRepeated_J6_bitCount_0f7a4 : GoodIn wsX5_matchesIfRepeated wsJ6_bitCount_0f7a4 := goodIn_r _ [51, 52, 53, 54] (by decide +kernel) (by decide +kernel)
set_option maxRecDepth 20000 in
theorem gX5_matchesIfRepeated_J6_bitCount_0f7a4 : GoodIn wsX5_matchesIfRepeated (va_wsS RX5 307 yJ6_bitCount_0f7a4 wsJ6_bitCount_0f7a4) := goodIn_app (goodIn_of _ (by decide +kernel)) ggX5_matchesIfRepeated_J6_bitCount_0f7a4
theorem dX5_matchesIfRepeated_0 : decode cX5_matchesIfRepeated 0 = .ok (.iconst 0, 1) := by decide +kernel
theorem dX5_matchesIfRepeated_1 : decode cX5_matchesIfRepeated 1 = .ok (.istore_n 3, 1) := by decide +kernel
theorem dX5_matchesIfRepeated_2 : decode cX5_matchesIfRepeated 2 = .ok (.aload_n 0, 1) := by decide +kernel
theorem dX5_matchesIfRepeated_3 : decode cX5_matchesIfRepeated 3 = .ok (.invokevirtual 283, 3) := by decide +kernel
theorem dX5_matchesIfRepeated_6 : decode cX5_matchesIfRepeated 6 = .ok (.istore 4, 2) := by decide +kernel
theorem dX5_matchesIfRepeated_8 : decode cX5_matchesIfRepeated 8 = .ok (.aload_n 0, 1) := by decide +kernel
theorem dX5_matchesIfRepeated_9 : decode cX5_matchesIfRepeated 9 = .ok (.getfield 12, 3) := by decide +kernel
theorem dX5_matchesIfRepeated_12 : decode cX5_matchesIfRepeated 12 = .ok (.getfield 289, 3) := by decide +kernel
theorem dX5_matchesIfRepeated_15 : decode cX5_matchesIfRepeated 15 = .ok (.istore 5, 2) := by decide +kernel
theorem dX5_matchesIfRepeated_17 : decode cX5_matchesIfRepeated 17 = .ok (.iconst 0, 1) := by decide +kernel
theorem dX5_matchesIfRepeated_18 : decode cX5_matchesIfRepeated 18 = .ok (.istore 6, 2) := by decide +kernel
theorem dX5_matchesIfRepeated_20 : decode cX5_matchesIfRepeated 20 = .ok (.iload 6, 2) := by decide +kernel
theorem dX5_matchesIfRepeated_22 : decode cX5_matchesIfRepeated 22 = .ok (.iload_n 2, 1) := by decide +kernel
theorem dX5_matchesIfRepeated_23 : decode cX5_matchesIfRepeated 23 = .ok (.if_icmp .ge 66, 3) := by decide +kernel
theorem dX5_matchesIfRepeated_26 : decode cX5_matchesIfRepeated 26 = .ok (.aload_n 0, 1) := by decide +kernel
theorem dX5_matchesIfRepeated_27 : decode cX5_matchesIfRepeated 27 = .ok (.getfield 26, 3) := by decide +kernel
theorem dX5_matchesIfRepeated_30 : decode cX5_matchesIfRepeated 30 = .ok (.iload 4, 2) := by decide +kernel
theorem dX5_matchesIfRepeated_32 : decode cX5_matchesIfRepeated 32 = .ok (.iload_n 1, 1) := by decide +kernel
theorem dX5_matchesIfRepeated_33 : decode cX5_matchesIfRepeated 33 = .ok (.invokevirtual 286, 3) := by decide +kernel
theorem dX5_matchesIfRepeated_36 : decode cX5_matchesIfRepeated 36 = .ok (.istore 4, 2) := by decide +kernel
theorem dX5_matchesIfRepeated_38 : decode cX5_matchesIfRepeated 38 = .ok (.aload_n 0, 1) := by decide +kernel
theorem dX5_matchesIfRepeated_39 : decode cX5_matchesIfRepeated 39 = .ok (.iload 4, 2) := by decide +kernel
theorem dX5_matchesIfRepeated_41 : decode cX5_matchesIfRepeated 41 = .ok (.aload_n 0, 1) := by decide +kernel
theorem dX5_matchesIfRepeated_42 : decode cX5_matchesIfRepeated 42 = .ok (.getfield 12, 3) := by decide +kernel
theorem dX5_matchesIfRepeated_45 : decode cX5_matchesIfRepeated 45 = .ok (.getfield 116, 3) := by decide +kernel
theorem dX5_matchesIfRepeated_48 : decode cX5_matchesIfRepeated 48 = .ok (.iload 6, 2) := by decide +kernel
theorem dX5_matchesIfRepeated_50 : decode cX5_matchesIfRepeated 50 = .ok (.iadd, 1) := by decide +kernel
theorem dX5_matchesIfRepeated_51 : decode cX5_matchesIfRepeated 51 = .ok (.iload 5, 2) := by decide +kernel
theorem dX5_matchesIfRepeated_53 : decode cX5_matchesIfRepeated 53 = .ok (.invokevirtual 292, 3) := by decide +kernel
theorem dX5_matchesIfRepeated_56 : decode cX5_matchesIfRepeated 56 = .ok (.istore 7, 2) := by decide +kernel
theorem dX5_matchesIfRepeated_58 : decode cX5_matchesIfRepeated 58 = .ok (.iload 7, 2) := by decide +kernel
theorem dX5_matchesIfRepeated_60 : decode cX5_matchesIfRepeated 60 = .ok (.ifCond .eq 15, 3) := by decide +kernel
theorem dX5_matchesIfRepeated_63 : decode cX5_matchesIfRepeated 63 = .ok (.aload_n 0, 1) := by decide +kernel
theorem dX5_matchesIfRepeated_64 : decode cX5_matchesIfRepeated 64 = .ok (.getfield 12, 3) := by decide +kernel
theorem dX5_matchesIfRepeated_67 : decode cX5_matchesIfRepeated 67 = .ok (.getfield 116, 3) := by decide +kernel
theorem dX5_matchesIfRepeated_70 : decode cX5_matchesIfRepeated 70 = .ok (.iload 6, 2) := by decide +kernel
theorem dX5_matchesIfRepeated_72 : decode cX5_matchesIfRepeated 72 = .ok (.iadd, 1) := by decide +kernel
theorem dX5_matchesIfRepeated_73 : decode cX5_matchesIfRepeated 73 = .ok (.istore 5, 2) := by decide +kernel
theorem dX5_matchesIfRepeated_75 : decode cX5_matchesIfRepeated 75 = .ok (.iload_n 3, 1) := by decide +kernel
theorem dX5_matchesIfRepeated_76 : decode cX5_matchesIfRepeated 76 = .ok (.iload 7, 2) := by decide +kernel
theorem dX5_matchesIfRepeated_78 : decode cX5_matchesIfRepeated 78 = .ok (.invokestatic 307, 3) := by decide +kernel
theorem dX5_matchesIfRepeated_81 : decode cX5_matchesIfRepeated 81 = .ok (.iadd, 1) := by decide +kernel
theorem dX5_matchesIfRepeated_82 : decode cX5_matchesIfRepeated 82 = .ok (.istore_n 3, 1) := by decide +kernel
theorem dX5_matchesIfRepeated_83 : decode cX5_matchesIfRepeated 83 = .ok (.iinc 6 1, 3) := by decide +kernel
theorem dX5_matchesIfRepeated_86 : decode cX5_matchesIfRepeated 86 = .ok (.goto (-66), 3) := by decide +kernel
theorem dX5_matchesIfRepeated_89 : decode cX5_matchesIfRepeated 89 = .ok (.iload_n 3, 1) := by decide +kernel
theorem dX5_matchesIfRepeated_90 : decode cX5_matchesIfRepeated 90 = .ok (.ireturn, 1) := by decide +kernel
theorem dJ6_bitCount_0f7a4_0 : decode cJ6_bitCount_0f7a4 0 = .ok (.iload_n 0, 1) := by decide +kernel
theorem dJ6_bitCount_0f7a4_1 : decode cJ6_bitCount_0f7a4 1 = .ok (.iload_n 0, 1) := by decide +kernel
theorem dJ6_bitCount_0f7a4_2 : decode cJ6_bitCount_0f7a4 2 = .ok (.iconst 1, 1) := by decide +kernel
theorem dJ6_bitCount_0f7a4_3 : decode cJ6_bitCount_0f7a4 3 = .ok (.iushr, 1) := by decide +kernel
theorem dJ6_bitCount_0f7a4_4 : decode cJ6_bitCount_0f7a4 4 = .ok (.ldc_w 265, 3) := by decide +kernel
theorem dJ6_bitCount_0f7a4_7 : decode cJ6_bitCount_0f7a4 7 = .ok (.iand, 1) := by decide +kernel
theorem dJ6_bitCount_0f7a4_8 : decode cJ6_bitCount_0f7a4 8 = .ok (.isub, 1) := by decide +kernel
theorem dJ6_bitCount_0f7a4_9 : decode cJ6_bitCount_0f7a4 9 = .ok (.istore_n 0, 1) := by decide +kernel
theorem dJ6_bitCount_0f7a4_10 : decode cJ6_bitCount_0f7a4 10 = .ok (.iload_n 0, 1) := by decide +kernel
theorem dJ6_bitCount_0f7a4_11 : decode cJ6_bitCount_0f7a4 11 = .ok (.ldc_w 266, 3) := by decide +kernel
theorem dJ6_bitCount_0f7a4_14 : decode cJ6_bitCount_0f7a4 14 = .ok (.iand, 1) := by decide +kernel
theorem dJ6_bitCount_0f7a4_15 : decode cJ6_bitCount_0f7a4 15 = .ok (.iload_n 0, 1) := by decide +kernel
theorem dJ6_bitCount_0f7a4_16 : decode cJ6_bitCount_0f7a4 16 = .ok (.iconst 2, 1) := by decide +kernel
theorem dJ6_bitCount_0f7a4_17 : decode cJ6_bitCount_0f7a4 17 = .ok (.iushr, 1) := by decide +kernel
theorem dJ6_bitCount_0f7a4_18 : decode cJ6_bitCount_0f7a4 18 = .ok (.ldc_w 266, 3) := by decide +kernel
theorem dJ6_bitCount_0f7a4_21 : decode cJ6_bitCount_0f7a4 21 = .ok (.iand, 1) := by decide +kernel
theorem dJ6_bitCount_0f7a4_22 : decode cJ6_bitCount_0f7a4 22 = .ok (.iadd, 1) := by decide +kernel
theorem dJ6_bitCount_0f7a4_23 : decode cJ6_bitCount_0f7a4 23 = .ok (.istore_n 0, 1) := by decide +kernel
theorem dJ6_bitCount_0f7a4_24 : decode cJ6_bitCount_0f7a4 24 = .ok (.iload_n 0, 1) := by decide +kernel
theorem dJ6_bitCount_0f7a4_25 : decode cJ6_bitCount_0f7a4 25 = .ok (.iload_n 0, 1) := by decide +kernel
theorem dJ6_bitCount_0f7a4_26 : decode cJ6_bitCount_0f7a4 26 = .ok (.iconst 4, 1) := by decide +kernel
theorem dJ6_bitCount_0f7a4_27 : decode cJ6_bitCount_0f7a4 27 = .ok (.iushr, 1) := by decide +kernel
theorem dJ6_bitCount_0f7a4_28 : decode cJ6_bitCount_0f7a4 28 = .ok (.iadd, 1) := by decide +kernel
theorem dJ6_bitCount_0f7a4_29 : decode cJ6_bitCount_0f7a4 29 = .ok (.ldc_w 267, 3) := by decide +kernel
theorem dJ6_bitCount_0f7a4_32 : decode cJ6_bitCount_0f7a4 32 = .ok (.iand, 1) := by decide +kernel
theorem dJ6_bitCount_0f7a4_33 : decode cJ6_bitCount_0f7a4 33 = .ok (.istore_n 0, 1) := by decide +kernel
theorem dJ6_bitCount_0f7a4_34 : decode cJ6_bitCount_0f7a4 34 = .ok (.iload_n 0, 1) := by decide +kernel
theorem dJ6_bitCount_0f7a4_35 : decode cJ6_bitCount_0f7a4 35 = .ok (.iload_n 0, 1) := by decide +kernel
theorem dJ6_bitCount_0f7a4_36 : decode cJ6_bitCount_0f7a4 36 = .ok (.bipush 8, 2) := by decide +kernel
theorem dJ6_bitCount_0f7a4_38 : decode cJ6_bitCount_0f7a4 38 = .ok (.iushr, 1) := by decide +kernel
theorem dJ6_bitCount_0f7a4_39 : decode cJ6_bitCount_0f7a4 39 = .ok (.iadd, 1) := by decide +kernel
theorem dJ6_bitCount_0f7a4_40 : decode cJ6_bitCount_0f7a4 40 = .ok (.istore_n 0, 1) := by decide +kernel
theorem dJ6_bitCount_0f7a4_41 : decode cJ6_bitCount_0f7a4 41 = .ok (.iload_n 0, 1) := by decide +kernel
theorem dJ6_bitCount_0f7a4_42 : decode cJ6_bitCount_0f7a4 42 = .ok (.iload_n 0, 1) := by decide +kernel
theorem dJ6_bitCount_0f7a4_43 : decode cJ6_bitCount_0f7a4 43 = .ok (.bipush 16, 2) := by decide +kernel
theorem dJ6_bitCount_0f7a4_45 : decode cJ6_bitCount_0f7a4 45 = .ok (.iushr, 1) := by decide +kernel
theorem dJ6_bitCount_0f7a4_46 : decode cJ6_bitCount_0f7a4 46 = .ok (.iadd, 1) := by decide +kernel
theorem dJ6_bitCount_0f7a4_47 : decode cJ6_bitCount_0f7a4 47 = .ok (.istore_n 0, 1) := by decide +kernel
theorem dJ6_bitCount_0f7a4_48 : decode cJ6_bitCount_0f7a4 48 = .ok (.iload_n 0, 1) := by decide +kernel
theorem dJ6_bitCount_0f7a4_49 : decode cJ6_bitCount_0f7a4 49 = .ok (.bipush 63, 2) := by decide +kernel
theorem dJ6_bitCount_0f7a4_51 : decode cJ6_bitCount_0f7a4 51 = .ok (.iand, 1) := by decide +kernel
theorem dJ6_bitCount_0f7a4_52 : decode cJ6_bitCount_0f7a4 52 = .ok (.ireturn, 1) := by decide +kernel
theorem dJ9_max_7cf53_0 : decode cJ9_max_7cf53 0 = .ok (.iload_n 0, 1) := by decide +kernel
theorem dJ9_max_7cf53_1 : decode cJ9_max_7cf53 1 = .ok (.iload_n 1, 1) := by decide +kernel
theorem dJ9_max_7cf53_2 : decode cJ9_max_7cf53 2 = .ok (.if_icmp .lt 7, 3) := by decide +kernel
theorem dJ9_max_7cf53_5 : decode cJ9_max_7cf53 5 = .ok (.iload_n 0, 1) := by decide +kernel
theorem dJ9_max_7cf53_6 : decode cJ9_max_7cf53 6 = .ok (.goto 4, 3) := by decide +kernel
theorem dJ9_max_7cf53_9 : decode cJ9_max_7cf53 9 = .ok (.iload_n 1, 1) := by decide +kernel
theorem dJ9_max_7cf53_10 : decode cJ9_max_7cf53 10 = .ok (.ireturn, 1) := by decide +kernel
theorem dL_cell_0 : decode cL_cell 0 = .ok (.iload_n 1, 1) := by decide +kernel
theorem dL_cell_1 : decode cL_cell 1 = .ok (.aload_n 0, 1) := by decide +kernel
theorem dL_cell_2 : decode cL_cell 2 = .ok (.arraylength, 1) := by decide +kernel
theorem dL_cell_3 : decode cL_cell 3 = .ok (.if_icmp .ge 9, 3) := by decide +kernel
theorem dL_cell_6 : decode cL_cell 6 = .ok (.aload_n 0, 1) := by decide +kernel
theorem dL_cell_7 : decode cL_cell 7 = .ok (.iload_n 1, 1) := by decide +kernel
theorem dL_cell_8 : decode cL_cell 8 = .ok (.iaload, 1) := by decide +kernel
theorem dL_cell_9 : decode cL_cell 9 = .ok (.goto 15, 3) := by decide +kernel
theorem dL_cell_12 : decode cL_cell 12 = .ok (.sipush 7919, 3) := by decide +kernel
theorem dL_cell_15 : decode cL_cell 15 = .ok (.iload_n 1, 1) := by decide +kernel
theorem dL_cell_16 : decode cL_cell 16 = .ok (.iconst 3, 1) := by decide +kernel
theorem dL_cell_17 : decode cL_cell 17 = .ok (.iadd, 1) := by decide +kernel
theorem dL_cell_18 : decode cL_cell 18 = .ok (.imul, 1) := by decide +kernel
theorem dL_cell_19 : decode cL_cell 19 = .ok (.iload_n 1, 1) := by decide +kernel
theorem dL_cell_20 : decode cL_cell 20 = .ok (.bipush 11, 2) := by decide +kernel
theorem dL_cell_22 : decode cL_cell 22 = .ok (.iadd, 1) := by decide +kernel
theorem dL_cell_23 : decode cL_cell 23 = .ok (.imul, 1) := by decide +kernel
theorem dL_cell_24 : decode cL_cell 24 = .ok (.ireturn, 1) := by decide +kernel
theorem dL_low_0 : decode cL_low 0 = .ok (.iload_n 0, 1) := by decide +kernel
theorem dL_low_1 : decode cL_low 1 = .ok (.ldc 7, 2) := by decide +kernel
theorem dL_low_3 : decode cL_low 3 = .ok (.iand, 1) := by decide +kernel
theorem dL_low_4 : decode cL_low 4 = .ok (.iload_n 1, 1) := by decide +kernel
theorem dL_low_5 : decode cL_low 5 = .ok (.irem, 1) := by decide +kernel
theorem dL_low_6 : decode cL_low 6 = .ok (.ireturn, 1) := by decide +kernel
set_option maxRecDepth 20000 in
theorem ggL_add_X5_clearBuffer : GoodIn wsL_add wsX5_clearBuffer := goodIn_r _ [5, 6, 7, 8, 9, 10, 11, 12, 13, 184, 185, 186, 187, 188, 189, 190] (by decide +kernel) (by decide +kernel)
set_option maxRecDepth 20000 in
theorem gL_add_X5_clearBuffer : GoodIn wsL_add (wsV RL 8 RX5 yX5_clearBuffer wsX5_clearBuffer) := goodIn_app (goodIn_of _ (by decide +kernel)) ggL_add_X5_clearBuffer
set_option maxRecDepth 20000 in
theorem ggL_add_L_low : GoodIn wsL_add wsL_low := goodIn_r _ [17, 18] (by decide +kernel) (by decide +kernel)
set_option maxRecDepth 20000 in
theorem gL_add_L_low : GoodIn wsL_add (va_wsS RL 14 yL_low wsL_low) := goodIn_app (goodIn_of _ (by decide +kernel)) ggL_add_L_low
set_option maxRecDepth 20000 in
theorem ggL_add_X5_append : GoodIn wsL_add wsX5_append := goodIn_ca (goodIn_ca (goodIn_r _ [22, 23, 24, 25, 26, 6, 7, 27, 28, 29, 11, 30, 31, 13, 32, 4, 33, 184, 185, 186, 187, 188, 189, 190] (by decide +kernel) (by decide +kernel)) (goodIn_sub (fun _ h => List.mem_cons_of_mem _ (List.mem_append_left _ (List.mem_append_right _ h))) (by decide +kernel))) (goodIn_sub (fun _ h => List.mem_cons_of_mem _ (List.mem_append_right _ h)) (by decide +kernel))
set_option maxRecDepth 20000 in
theorem gL_add_X5_append : GoodIn wsL_add (wsV RL 20 RX5 yX5_append wsX5_append) := goodIn_app (goodIn_of _ (by decide +kernel)) ggL_add_X5_append
set_option maxRecDepth 20000 in
theorem ggL_add_X5_count : GoodIn wsL_add wsX5_count := goodIn_ca (goodIn_r _ [37, 23, 24, 38, 39, 40, 4, 41, 42, 43, 44, 45, 46, 47, 48, 49, 50, 51, 52, 53, 54, 55, 56, 57, 58, 59, 60, 61, 62, 63, 64, 65, 66, 67, 68, 69, 70, 71, 72, 73, 74, 75, 76, 77, 78, 79, 80, 81, 82, 83, 84, 85, 86, 87, 88, 89, 90, 91, 92, 93, 94, 184, 185, 186, 187, 188, 191, 192, 193, 194, 195, 196, 197, 198, 199, 200, 201, 202, 203, 204, 205, 206, 207, 208] (by decide +kernel) (by decide +kernel)) (goodIn_sub (fun _ h => List.mem_cons_of_mem _ (List.mem_append_left _ (List.mem_append_right _ h))) (by decide +kernel))
set_option maxRecDepth 20000 in
theorem gL_add_X5_count : GoodIn wsL_add (wsV RL 24 RX5 yX5_count wsX5_count) := goodIn_app (goodIn_of _ (by decide +kernel)) ggL_add_X5_count
set_option maxRecDepth 20000 in
theorem ggL_add_X5_add : GoodIn wsL_add wsX5_add := goodIn_ca (goodIn_ca (goodIn_r _ [98, 23, 24, 25, 26, 6, 50, 44, 60, 99, 42, 100, 101, 102, 11, 103, 13, 104, 105, 106, 107, 31, 62, 4, 63, 108, 109, 110, 111, 112, 113, 114, 115, 116, 117, 118, 7, 119, 56, 57, 58, 59, 61, 120, 32, 33, 121, 122, 76, 123, 124, 125, 126, 127, 128, 129, 130, 131, 132, 133, 134, 135, 136, 137, 138, 139, 140, 141, 142, 143, 144, 145, 146, 147, 148, 149, 150, 151, 152, 153, 154, 155, 8, 9, 10, 12, 156, 157, 158, 72, 159, 160, 161, 162, 163, 164, 165, 166, 74, 75, 77, 167, 168, 169, 81, 170, 171, 172, 173, 89, 174, 83, 84, 175, 176, 177, 178, 179, 85, 86, 87, 88, 180, 181, 182, 183, 184, 185, 186, 187, 188, 196, 197, 198, 199, 200, 201, 202, 203, 204, 205, 189, 190, 206, 207, 208, 191, 192, 193, 194, 195] (by decide +kernel) (by decide +kernel)) (goodIn_sub (fun _ h => List.mem_cons_of_mem _ (List.mem_append_left _ (List.mem_append_right _ h))) (by decide +kernel))) (goodIn_sub (fun _ h => List.mem_cons_of_mem _ (List.mem_append_right _ h)) (by decide +kernel))
set_option maxRecDepth 20000 in
theorem gL_add_X5_add : GoodIn wsL_add (wsV RL 27 RX5 yX5_add wsX5_add) := goodIn_app (goodIn_of _ (by decide +kernel)) ggL_add_X5_add
theorem dL_add_0 : decode cL_add 0 = .ok (.aload_n 0, 1) := by decide +kernel
theorem dL_add_1 : decode cL_add 1 = .ok (.invokevirtual 8, 3) := by decide +kernel
theorem dL_add_4 : decode cL_add 4 = .ok (.istore_n 2, 1) := by decide +kernel
theorem dL_add_5 : decode cL_add 5 = .ok (.iconst 1, 1) := by decide +kernel
theorem dL_add_6 : decode cL_add 6 = .ok (.iload_n 1, 1) := by decide +kernel
theorem dL_add_7 : decode cL_add 7 = .ok (.iconst 1, 1) := by decide +kernel
theorem dL_add_8 : decode cL_add 8 = .ok (.iand, 1) := by decide +kernel
theorem dL_add_9 : decode cL_add 9 = .ok (.iadd, 1) := by decide +kernel
theorem dL_add_10 : decode cL_add 10 = .ok (.istore_n 3, 1) := by decide +kernel
theorem dL_add_11 : decode cL_add 11 = .ok (.iconst 0, 1) := by decide +kernel
theorem dL_add_12 : decode cL_add 12 = .ok (.istore 4, 2) := by decide +kernel
theorem dL_add_14 : decode cL_add 14 = .ok (.iload 4, 2) := by decide +kernel
theorem dL_add_16 : decode cL_add 16 = .ok (.iload_n 3, 1) := by decide +kernel
theorem dL_add_17 : decode cL_add 17 = .ok (.if_icmp .ge 80, 3) := by decide +kernel
theorem dL_add_20 : decode cL_add 20 = .ok (.iconst 1, 1) := by decide +kernel
theorem dL_add_21 : decode cL_add 21 = .ok (.iload_n 1, 1) := by decide +kernel
theorem dL_add_22 : decode cL_add 22 = .ok (.iconst 1, 1) := by decide +kernel
theorem dL_add_23 : decode cL_add 23 = .ok (.iconst 5, 1) := by decide +kernel
theorem dL_add_24 : decode cL_add 24 = .ok (.iload 4, 2) := by decide +kernel
theorem dL_add_26 : decode cL_add 26 = .ok (.imul, 1) := by decide +kernel
theorem dL_add_27 : decode cL_add 27 = .ok (.iadd, 1) := by decide +kernel
theorem dL_add_28 : decode cL_add 28 = .ok (.ishr, 1) := by decide +kernel
theorem dL_add_29 : decode cL_add 29 = .ok (.iconst 5, 1) := by decide +kernel
theorem dL_add_30 : decode cL_add 30 = .ok (.invokestatic 14, 3) := by decide +kernel
theorem dL_add_33 : decode cL_add 33 = .ok (.iadd, 1) := by decide +kernel
theorem dL_add_34 : decode cL_add 34 = .ok (.istore 5, 2) := by decide +kernel
theorem dL_add_36 : decode cL_add 36 = .ok (.iconst 0, 1) := by decide +kernel
theorem dL_add_37 : decode cL_add 37 = .ok (.istore 6, 2) := by decide +kernel
theorem dL_add_39 : decode cL_add 39 = .ok (.iload 6, 2) := by decide +kernel
theorem dL_add_41 : decode cL_add 41 = .ok (.iload 5, 2) := by decide +kernel
theorem dL_add_43 : decode cL_add 43 = .ok (.if_icmp .ge 33, 3) := by decide +kernel
theorem dL_add_46 : decode cL_add 46 = .ok (.aload_n 0, 1) := by decide +kernel
theorem dL_add_47 : decode cL_add 47 = .ok (.bipush 97, 2) := by decide +kernel
theorem dL_add_49 : decode cL_add 49 = .ok (.iload_n 1, 1) := by decide +kernel
theorem dL_add_50 : decode cL_add 50 = .ok (.iconst 3, 1) := by decide +kernel
theorem dL_add_51 : decode cL_add 51 = .ok (.iload 6, 2) := by decide +kernel
theorem dL_add_53 : decode cL_add 53 = .ok (.imul, 1) := by decide +kernel
