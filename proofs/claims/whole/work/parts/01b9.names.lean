theorem wsL_law_x0 : ∀ w ∈ (vx_atS RX5 49 "java/lang/IllegalArgumentException" ["java/lang/RuntimeException", "java/lang/Exception"]).filter goodWord, w ∈ lw_tbl := by decide +kernel
theorem wsL_law_x1 : ∀ w ∈ (vx_atS RX5 60 "java/lang/IllegalStateException" ["java/lang/RuntimeException", "java/lang/Exception"]).filter goodWord, w ∈ lw_tbl := by decide +kernel
theorem wsL_law_x2 : ∀ w ∈ (vx_atS RX5 91 "java/lang/IndexOutOfBoundsException" ["java/lang/RuntimeException", "java/lang/Exception"]).filter goodWord, w ∈ lw_tbl := by decide +kernel
theorem wsL_law_in : ∀ w ∈ wsL_law, w ∈ lw_tbl := fun w h => (List.mem_append.mp h).elim (fun h => (List.mem_append.mp h).elim (fun h => (List.mem_append.mp h).elim (fun h => wsL_law_in0 w h) (fun h => wsL_law_x0 w h)) (fun h => wsL_law_x1 w h)) (fun h => wsL_law_x2 w h)
theorem inlX0 : ∀ w ∈ wsX00, w ∈ wsL_law := fun _ h => List.mem_append_left _ (List.mem_append_left _ (List.mem_append_left _ (List.mem_append_left _ (List.mem_append_right _ h))))
theorem inX0 : ∀ w ∈ wsX00, w ∈ lw_tbl := fun w h => wsL_law_in w (inlX0 w h)
theorem inlX1 : ∀ w ∈ wsX10, w ∈ wsL_law := fun _ h => List.mem_append_left _ (List.mem_append_left _ (List.mem_append_left _ (List.mem_append_left _ (List.mem_append_left _ (List.mem_append_right _ h)))))
theorem inX1 : ∀ w ∈ wsX10, w ∈ lw_tbl := fun w h => wsL_law_in w (inlX1 w h)
theorem inlX2 : ∀ w ∈ wsX20, w ∈ wsL_law := fun _ h => List.mem_append_left _ (List.mem_append_left _ (List.mem_append_left _ (List.mem_append_left _ (List.mem_append_left _ (List.mem_append_left _ (List.mem_append_left _ (List.mem_append_right _ h)))))))
theorem inX2 : ∀ w ∈ wsX20, w ∈ lw_tbl := fun w h => wsL_law_in w (inlX2 w h)
theorem inX3 : ∀ w ∈ wsX30, w ∈ lw_tbl := by decide +kernel
theorem inlX4 : ∀ w ∈ wsX40, w ∈ wsL_law := fun _ h => List.mem_append_left _ (List.mem_append_left _ (List.mem_append_left _ (List.mem_append_left _ (List.mem_append_left _ (List.mem_append_left _ (List.mem_append_right _ h))))))
theorem inX4 : ∀ w ∈ wsX40, w ∈ lw_tbl := fun w h => wsL_law_in w (inlX4 w h)
theorem inlX5 : ∀ w ∈ wsX50, w ∈ wsL_law := fun _ h => List.mem_append_left _ (List.mem_append_left _ (List.mem_append_left _ (List.mem_append_left _ (List.mem_append_left _ (List.mem_append_left _ (List.mem_append_left _ (List.mem_append_left _ (List.mem_append_left _ (List.mem_append_right _ h)))))))))
theorem inX5 : ∀ w ∈ wsX50, w ∈ lw_tbl := fun w h => wsL_law_in w (inlX5 w h)
theorem inlX6 : ∀ w ∈ wsX60, w ∈ wsL_law := fun _ h => List.mem_append_left _ (List.mem_append_left _ (List.mem_append_left _ (List.mem_append_left _ (List.mem_append_left _ (List.mem_append_left _ (List.mem_append_left _ (List.mem_append_left _ (List.mem_append_right _ h))))))))
theorem inX6 : ∀ w ∈ wsX60, w ∈ lw_tbl := fun w h => wsL_law_in w (inlX6 w h)
theorem inJ6 : ∀ w ∈ wsJ60, w ∈ lw_tbl := by decide +kernel
theorem inJ9 : ∀ w ∈ wsJ90, w ∈ lw_tbl := by decide +kernel
theorem inJ0 : ∀ w ∈ wsJ00, w ∈ lw_tbl := by decide +kernel
theorem dX0_init_0 : decode cX0_init 0 = .ok (.aload_n 0, 1) := by decide +kernel
theorem dX0_init_1 : decode cX0_init 1 = .ok (.invokespecial 3, 3) := by decide +kernel
theorem dX0_init_4 : decode cX0_init 4 = .ok (.aload_n 0, 1) := by decide +kernel
theorem dX0_init_5 : decode cX0_init 5 = .ok (.bipush 60, 2) := by decide +kernel
theorem dX0_init_7 : decode cX0_init 7 = .ok (.newarray .int, 2) := by decide +kernel
theorem dX0_init_9 : decode cX0_init 9 = .ok (.putfield 9, 3) := by decide +kernel
theorem dX0_init_12 : decode cX0_init 12 = .ok (.return_, 1) := by decide +kernel
set_option maxRecDepth 20000 in
theorem ggX0_take_X5_put : GoodIn wsX0_take wsX5_put := goodIn_r _ [5] (by decide +kernel) (by decide +kernel)
set_option maxRecDepth 20000 in
theorem gX0_take_X5_put_n19 : GoodIn wsX0_take (wsX5_put) := ggX0_take_X5_put
theorem dX0_take_0 : decode cX0_take 0 = .ok (.aload_n 0, 1) := by decide +kernel
theorem dX0_take_1 : decode cX0_take 1 = .ok (.getfield 9, 3) := by decide +kernel
theorem dX0_take_4 : decode cX0_take 4 = .ok (.aload_n 0, 1) := by decide +kernel
theorem dX0_take_5 : decode cX0_take 5 = .ok (.getfield 15, 3) := by decide +kernel
theorem dX0_take_8 : decode cX0_take 8 = .ok (.iload_n 1, 1) := by decide +kernel
theorem dX0_take_9 : decode cX0_take 9 = .ok (.invokestatic 19, 3) := by decide +kernel
theorem dX0_take_12 : decode cX0_take 12 = .ok (.aload_n 0, 1) := by decide +kernel
theorem dX0_take_13 : decode cX0_take 13 = .ok (.dup, 1) := by decide +kernel
theorem dX0_take_14 : decode cX0_take 14 = .ok (.getfield 15, 3) := by decide +kernel
theorem dX0_take_17 : decode cX0_take 17 = .ok (.iconst 1, 1) := by decide +kernel
theorem dX0_take_18 : decode cX0_take 18 = .ok (.iadd, 1) := by decide +kernel
theorem dX0_take_19 : decode cX0_take 19 = .ok (.putfield 15, 3) := by decide +kernel
theorem dX0_take_22 : decode cX0_take 22 = .ok (.return_, 1) := by decide +kernel
theorem dX0_empty_0 : decode cX0_empty 0 = .ok (.aload_n 0, 1) := by decide +kernel
theorem dX0_empty_1 : decode cX0_empty 1 = .ok (.iconst 0, 1) := by decide +kernel
theorem dX0_empty_2 : decode cX0_empty 2 = .ok (.putfield 15, 3) := by decide +kernel
theorem dX0_empty_5 : decode cX0_empty 5 = .ok (.return_, 1) := by decide +kernel
theorem dX0_isLetterCode_0 : decode cX0_isLetterCode 0 = .ok (.iload_n 0, 1) := by decide +kernel
theorem dX0_isLetterCode_1 : decode cX0_isLetterCode 1 = .ok (.bipush 97, 2) := by decide +kernel
theorem dX0_isLetterCode_3 : decode cX0_isLetterCode 3 = .ok (.if_icmp .lt 13, 3) := by decide +kernel
theorem dX0_isLetterCode_6 : decode cX0_isLetterCode 6 = .ok (.iload_n 0, 1) := by decide +kernel
theorem dX0_isLetterCode_7 : decode cX0_isLetterCode 7 = .ok (.bipush 100, 2) := by decide +kernel
theorem dX0_isLetterCode_9 : decode cX0_isLetterCode 9 = .ok (.if_icmp .gt 7, 3) := by decide +kernel
theorem dX0_isLetterCode_12 : decode cX0_isLetterCode 12 = .ok (.iconst 1, 1) := by decide +kernel
theorem dX0_isLetterCode_13 : decode cX0_isLetterCode 13 = .ok (.goto 4, 3) := by decide +kernel
theorem dX0_isLetterCode_16 : decode cX0_isLetterCode 16 = .ok (.iconst 0, 1) := by decide +kernel
theorem dX0_isLetterCode_17 : decode cX0_isLetterCode 17 = .ok (.ireturn, 1) := by decide +kernel
theorem dX0_isTimesCode_0 : decode cX0_isTimesCode 0 = .ok (.iload_n 0, 1) := by decide +kernel
theorem dX0_isTimesCode_1 : decode cX0_isTimesCode 1 = .ok (.bipush 50, 2) := by decide +kernel
theorem dX0_isTimesCode_3 : decode cX0_isTimesCode 3 = .ok (.if_icmp .lt 13, 3) := by decide +kernel
theorem dX0_isTimesCode_6 : decode cX0_isTimesCode 6 = .ok (.iload_n 0, 1) := by decide +kernel
theorem dX0_isTimesCode_7 : decode cX0_isTimesCode 7 = .ok (.bipush 57, 2) := by decide +kernel
theorem dX0_isTimesCode_9 : decode cX0_isTimesCode 9 = .ok (.if_icmp .gt 7, 3) := by decide +kernel
theorem dX0_isTimesCode_12 : decode cX0_isTimesCode 12 = .ok (.iconst 1, 1) := by decide +kernel
theorem dX0_isTimesCode_13 : decode cX0_isTimesCode 13 = .ok (.goto 4, 3) := by decide +kernel
theorem dX0_isTimesCode_16 : decode cX0_isTimesCode 16 = .ok (.iconst 0, 1) := by decide +kernel
theorem dX0_isTimesCode_17 : decode cX0_isTimesCode 17 = .ok (.ireturn, 1) := by decide +kernel
set_option maxRecDepth 20000 in
theorem ggX0_lettersOf_X0_isTimesCode : GoodIn wsX0_lettersOf wsX0_isTimesCode := goodIn_r _ [4] (by decide +kernel) (by decide +kernel)
set_option maxRecDepth 20000 in
theorem gX0_lettersOf_X0_isTimesCode : GoodIn wsX0_lettersOf (va_wsS RX0 23 yX0_isTimesCode wsX0_isTimesCode) := goodIn_app (goodIn_of _ (by decide +kernel)) ggX0_lettersOf_X0_isTimesCode
theorem dX0_lettersOf_0 : decode cX0_lettersOf 0 = .ok (.iload_n 0, 1) := by decide +kernel
theorem dX0_lettersOf_1 : decode cX0_lettersOf 1 = .ok (.invokestatic 23, 3) := by decide +kernel
theorem dX0_lettersOf_4 : decode cX0_lettersOf 4 = .ok (.ifCond .eq 10, 3) := by decide +kernel
theorem dX0_lettersOf_7 : decode cX0_lettersOf 7 = .ok (.iload_n 0, 1) := by decide +kernel
theorem dX0_lettersOf_8 : decode cX0_lettersOf 8 = .ok (.bipush 49, 2) := by decide +kernel
theorem dX0_lettersOf_10 : decode cX0_lettersOf 10 = .ok (.isub, 1) := by decide +kernel
theorem dX0_lettersOf_11 : decode cX0_lettersOf 11 = .ok (.goto 4, 3) := by decide +kernel
theorem dX0_lettersOf_14 : decode cX0_lettersOf 14 = .ok (.iconst 1, 1) := by decide +kernel
theorem dX0_lettersOf_15 : decode cX0_lettersOf 15 = .ok (.ireturn, 1) := by decide +kernel
set_option maxRecDepth 20000 in
theorem ggX0_firstErrorInPatterns_X5_at : GoodIn wsX0_firstErrorInPatterns wsX5_at := goodIn_r _ [5] (by decide +kernel) (by decide +kernel)
set_option maxRecDepth 20000 in
theorem gX0_firstErrorInPatterns_X5_at_n27 : GoodIn wsX0_firstErrorInPatterns (wsX5_at) := ggX0_firstErrorInPatterns_X5_at
set_option maxRecDepth 20000 in
theorem ggX0_firstErrorInPatterns_X0_isLetterCode : GoodIn wsX0_firstErrorInPatterns wsX0_isLetterCode := goodIn_r _ [9] (by decide +kernel) (by decide +kernel)
set_option maxRecDepth 20000 in
theorem gX0_firstErrorInPatterns_X0_isLetterCode : GoodIn wsX0_firstErrorInPatterns (va_wsS RX0 31 yX0_isLetterCode wsX0_isLetterCode) := goodIn_app (goodIn_of _ (by decide +kernel)) ggX0_firstErrorInPatterns_X0_isLetterCode
theorem dX0_firstErrorInPatterns_0 : decode cX0_firstErrorInPatterns 0 = .ok (.iconst 0, 1) := by decide +kernel
theorem dX0_firstErrorInPatterns_1 : decode cX0_firstErrorInPatterns 1 = .ok (.istore_n 1, 1) := by decide +kernel
theorem dX0_firstErrorInPatterns_2 : decode cX0_firstErrorInPatterns 2 = .ok (.iconst 0, 1) := by decide +kernel
theorem dX0_firstErrorInPatterns_3 : decode cX0_firstErrorInPatterns 3 = .ok (.istore_n 2, 1) := by decide +kernel
theorem dX0_firstErrorInPatterns_4 : decode cX0_firstErrorInPatterns 4 = .ok (.iload_n 2, 1) := by decide +kernel
theorem dX0_firstErrorInPatterns_5 : decode cX0_firstErrorInPatterns 5 = .ok (.aload_n 0, 1) := by decide +kernel
theorem dX0_firstErrorInPatterns_6 : decode cX0_firstErrorInPatterns 6 = .ok (.getfield 15, 3) := by decide +kernel
theorem dX0_firstErrorInPatterns_9 : decode cX0_firstErrorInPatterns 9 = .ok (.if_icmp .ge 54, 3) := by decide +kernel
theorem dX0_firstErrorInPatterns_12 : decode cX0_firstErrorInPatterns 12 = .ok (.aload_n 0, 1) := by decide +kernel
theorem dX0_firstErrorInPatterns_13 : decode cX0_firstErrorInPatterns 13 = .ok (.getfield 9, 3) := by decide +kernel
theorem dX0_firstErrorInPatterns_16 : decode cX0_firstErrorInPatterns 16 = .ok (.iload_n 2, 1) := by decide +kernel
theorem dX0_firstErrorInPatterns_17 : decode cX0_firstErrorInPatterns 17 = .ok (.invokestatic 27, 3) := by decide +kernel
theorem dX0_firstErrorInPatterns_20 : decode cX0_firstErrorInPatterns 20 = .ok (.istore_n 3, 1) := by decide +kernel
theorem dX0_firstErrorInPatterns_21 : decode cX0_firstErrorInPatterns 21 = .ok (.iload_n 3, 1) := by decide +kernel
theorem dX0_firstErrorInPatterns_22 : decode cX0_firstErrorInPatterns 22 = .ok (.invokestatic 31, 3) := by decide +kernel
theorem dX0_firstErrorInPatterns_25 : decode cX0_firstErrorInPatterns 25 = .ok (.ifCond .eq 15, 3) := by decide +kernel
theorem dX0_firstErrorInPatterns_28 : decode cX0_firstErrorInPatterns 28 = .ok (.iload_n 1, 1) := by decide +kernel
theorem dX0_firstErrorInPatterns_29 : decode cX0_firstErrorInPatterns 29 = .ok (.bipush 8, 2) := by decide +kernel
theorem dX0_firstErrorInPatterns_31 : decode cX0_firstErrorInPatterns 31 = .ok (.if_icmp .ge 9, 3) := by decide +kernel
theorem dX0_firstErrorInPatterns_34 : decode cX0_firstErrorInPatterns 34 = .ok (.iinc 1 1, 3) := by decide +kernel
theorem dX0_firstErrorInPatterns_37 : decode cX0_firstErrorInPatterns 37 = .ok (.goto 20, 3) := by decide +kernel
theorem dX0_firstErrorInPatterns_40 : decode cX0_firstErrorInPatterns 40 = .ok (.iload_n 3, 1) := by decide +kernel
theorem dX0_firstErrorInPatterns_41 : decode cX0_firstErrorInPatterns 41 = .ok (.bipush 59, 2) := by decide +kernel
theorem dX0_firstErrorInPatterns_43 : decode cX0_firstErrorInPatterns 43 = .ok (.if_icmp .ne 12, 3) := by decide +kernel
theorem dX0_firstErrorInPatterns_46 : decode cX0_firstErrorInPatterns 46 = .ok (.iload_n 1, 1) := by decide +kernel
theorem dX0_firstErrorInPatterns_47 : decode cX0_firstErrorInPatterns 47 = .ok (.ifCond .le 8, 3) := by decide +kernel
theorem dX0_firstErrorInPatterns_50 : decode cX0_firstErrorInPatterns 50 = .ok (.iconst 0, 1) := by decide +kernel
theorem dX0_firstErrorInPatterns_51 : decode cX0_firstErrorInPatterns 51 = .ok (.istore_n 1, 1) := by decide +kernel
theorem dX0_firstErrorInPatterns_52 : decode cX0_firstErrorInPatterns 52 = .ok (.goto 5, 3) := by decide +kernel
theorem dX0_firstErrorInPatterns_55 : decode cX0_firstErrorInPatterns 55 = .ok (.iload_n 2, 1) := by decide +kernel
theorem dX0_firstErrorInPatterns_56 : decode cX0_firstErrorInPatterns 56 = .ok (.ireturn, 1) := by decide +kernel
theorem dX0_firstErrorInPatterns_57 : decode cX0_firstErrorInPatterns 57 = .ok (.iinc 2 1, 3) := by decide +kernel
theorem dX0_firstErrorInPatterns_60 : decode cX0_firstErrorInPatterns 60 = .ok (.goto (-56), 3) := by decide +kernel
theorem dX0_firstErrorInPatterns_63 : decode cX0_firstErrorInPatterns 63 = .ok (.aload_n 0, 1) := by decide +kernel
theorem dX0_firstErrorInPatterns_64 : decode cX0_firstErrorInPatterns 64 = .ok (.getfield 15, 3) := by decide +kernel
theorem dX0_firstErrorInPatterns_67 : decode cX0_firstErrorInPatterns 67 = .ok (.ireturn, 1) := by decide +kernel
set_option maxRecDepth 20000 in
theorem ggX0_firstErrorInLetters_X5_at : GoodIn wsX0_firstErrorInLetters wsX5_at := goodIn_r _ [5] (by decide +kernel) (by decide +kernel)
set_option maxRecDepth 20000 in
theorem gX0_firstErrorInLetters_X5_at_n27 : GoodIn wsX0_firstErrorInLetters (wsX5_at) := ggX0_firstErrorInLetters_X5_at
set_option maxRecDepth 20000 in
theorem ggX0_firstErrorInLetters_X0_isLetterCode : GoodIn wsX0_firstErrorInLetters wsX0_isLetterCode := goodIn_r _ [9] (by decide +kernel) (by decide +kernel)
set_option maxRecDepth 20000 in
theorem gX0_firstErrorInLetters_X0_isLetterCode : GoodIn wsX0_firstErrorInLetters (va_wsS RX0 31 yX0_isLetterCode wsX0_isLetterCode) := goodIn_app (goodIn_of _ (by decide +kernel)) ggX0_firstErrorInLetters_X0_isLetterCode
set_option maxRecDepth 20000 in
theorem ggX0_firstErrorInLetters_X0_isTimesCode : GoodIn wsX0_firstErrorInLetters wsX0_isTimesCode := goodIn_r _ [12] (by decide +kernel) (by decide +kernel)
set_option maxRecDepth 20000 in
theorem gX0_firstErrorInLetters_X0_isTimesCode : GoodIn wsX0_firstErrorInLetters (va_wsS RX0 23 yX0_isTimesCode wsX0_isTimesCode) := goodIn_app (goodIn_of _ (by decide +kernel)) ggX0_firstErrorInLetters_X0_isTimesCode
theorem dX0_firstErrorInLetters_0 : decode cX0_firstErrorInLetters 0 = .ok (.iconst 0, 1) := by decide +kernel
theorem dX0_firstErrorInLetters_1 : decode cX0_firstErrorInLetters 1 = .ok (.istore_n 1, 1) := by decide +kernel
theorem dX0_firstErrorInLetters_2 : decode cX0_firstErrorInLetters 2 = .ok (.iconst 0, 1) := by decide +kernel
theorem dX0_firstErrorInLetters_3 : decode cX0_firstErrorInLetters 3 = .ok (.istore_n 2, 1) := by decide +kernel
theorem dX0_firstErrorInLetters_4 : decode cX0_firstErrorInLetters 4 = .ok (.iload_n 2, 1) := by decide +kernel
theorem dX0_firstErrorInLetters_5 : decode cX0_firstErrorInLetters 5 = .ok (.aload_n 0, 1) := by decide +kernel
theorem dX0_firstErrorInLetters_6 : decode cX0_firstErrorInLetters 6 = .ok (.getfield 15, 3) := by decide +kernel
theorem dX0_firstErrorInLetters_9 : decode cX0_firstErrorInLetters 9 = .ok (.if_icmp .ge 43, 3) := by decide +kernel
theorem dX0_firstErrorInLetters_12 : decode cX0_firstErrorInLetters 12 = .ok (.aload_n 0, 1) := by decide +kernel
theorem dX0_firstErrorInLetters_13 : decode cX0_firstErrorInLetters 13 = .ok (.getfield 9, 3) := by decide +kernel
theorem dX0_firstErrorInLetters_16 : decode cX0_firstErrorInLetters 16 = .ok (.iload_n 2, 1) := by decide +kernel
theorem dX0_firstErrorInLetters_17 : decode cX0_firstErrorInLetters 17 = .ok (.invokestatic 27, 3) := by decide +kernel
theorem dX0_firstErrorInLetters_20 : decode cX0_firstErrorInLetters 20 = .ok (.istore_n 3, 1) := by decide +kernel
theorem dX0_firstErrorInLetters_21 : decode cX0_firstErrorInLetters 21 = .ok (.iload_n 3, 1) := by decide +kernel
theorem dX0_firstErrorInLetters_22 : decode cX0_firstErrorInLetters 22 = .ok (.invokestatic 31, 3) := by decide +kernel
theorem dX0_firstErrorInLetters_25 : decode cX0_firstErrorInLetters 25 = .ok (.ifCond .ne 16, 3) := by decide +kernel
theorem dX0_firstErrorInLetters_28 : decode cX0_firstErrorInLetters 28 = .ok (.iload_n 1, 1) := by decide +kernel
theorem dX0_firstErrorInLetters_29 : decode cX0_firstErrorInLetters 29 = .ok (.ifCond .eq 10, 3) := by decide +kernel
theorem dX0_firstErrorInLetters_32 : decode cX0_firstErrorInLetters 32 = .ok (.iload_n 3, 1) := by decide +kernel
theorem dX0_firstErrorInLetters_33 : decode cX0_firstErrorInLetters 33 = .ok (.invokestatic 23, 3) := by decide +kernel
theorem dX0_firstErrorInLetters_36 : decode cX0_firstErrorInLetters 36 = .ok (.ifCond .ne 5, 3) := by decide +kernel
theorem dX0_firstErrorInLetters_39 : decode cX0_firstErrorInLetters 39 = .ok (.iload_n 2, 1) := by decide +kernel
theorem dX0_firstErrorInLetters_40 : decode cX0_firstErrorInLetters 40 = .ok (.ireturn, 1) := by decide +kernel
theorem dX0_firstErrorInLetters_41 : decode cX0_firstErrorInLetters 41 = .ok (.iload_n 3, 1) := by decide +kernel
theorem dX0_firstErrorInLetters_42 : decode cX0_firstErrorInLetters 42 = .ok (.invokestatic 31, 3) := by decide +kernel
theorem dX0_firstErrorInLetters_45 : decode cX0_firstErrorInLetters 45 = .ok (.istore_n 1, 1) := by decide +kernel
theorem dX0_firstErrorInLetters_46 : decode cX0_firstErrorInLetters 46 = .ok (.iinc 2 1, 3) := by decide +kernel
theorem dX0_firstErrorInLetters_49 : decode cX0_firstErrorInLetters 49 = .ok (.goto (-45), 3) := by decide +kernel
theorem dX0_firstErrorInLetters_52 : decode cX0_firstErrorInLetters 52 = .ok (.aload_n 0, 1) := by decide +kernel
theorem dX0_firstErrorInLetters_53 : decode cX0_firstErrorInLetters 53 = .ok (.getfield 15, 3) := by decide +kernel
theorem dX0_firstErrorInLetters_56 : decode cX0_firstErrorInLetters 56 = .ok (.ireturn, 1) := by decide +kernel
set_option maxRecDepth 20000 in
theorem ggX0_holdsPatterns_X0_firstErrorInPatterns : GoodIn wsX0_holdsPatterns wsX0_firstErrorInPatterns := goodIn_r _ [6, 1, 7, 8, 9, 10, 11, 12, 5, 13, 18, 19] (by decide +kernel) (by decide +kernel)
set_option maxRecDepth 20000 in
theorem gX0_holdsPatterns_X0_firstErrorInPatterns : GoodIn wsX0_holdsPatterns (wsV RX0 34 RX0 yX0_firstErrorInPatterns wsX0_firstErrorInPatterns) := goodIn_app (goodIn_of _ (by decide +kernel)) ggX0_holdsPatterns_X0_firstErrorInPatterns
set_option maxRecDepth 20000 in
theorem ggX0_holdsPatterns_X0_endsPart : GoodIn wsX0_holdsPatterns wsX0_endsPart := goodIn_r _ [17, 7, 1, 8, 9, 10, 18, 19] (by decide +kernel) (by decide +kernel)
set_option maxRecDepth 20000 in
theorem gX0_holdsPatterns_X0_endsPart : GoodIn wsX0_holdsPatterns (wsV RX0 38 RX0 yX0_endsPart wsX0_endsPart) := goodIn_app (goodIn_of _ (by decide +kernel)) ggX0_holdsPatterns_X0_endsPart
theorem dX0_holdsPatterns_0 : decode cX0_holdsPatterns 0 = .ok (.aload_n 0, 1) := by decide +kernel
theorem dX0_holdsPatterns_1 : decode cX0_holdsPatterns 1 = .ok (.getfield 15, 3) := by decide +kernel
theorem dX0_holdsPatterns_4 : decode cX0_holdsPatterns 4 = .ok (.ifCond .le 31, 3) := by decide +kernel
theorem dX0_holdsPatterns_7 : decode cX0_holdsPatterns 7 = .ok (.aload_n 0, 1) := by decide +kernel
theorem dX0_holdsPatterns_8 : decode cX0_holdsPatterns 8 = .ok (.invokevirtual 34, 3) := by decide +kernel
theorem dX0_holdsPatterns_11 : decode cX0_holdsPatterns 11 = .ok (.aload_n 0, 1) := by decide +kernel
theorem dX0_holdsPatterns_12 : decode cX0_holdsPatterns 12 = .ok (.getfield 15, 3) := by decide +kernel
theorem dX0_holdsPatterns_15 : decode cX0_holdsPatterns 15 = .ok (.if_icmp .ne 20, 3) := by decide +kernel
theorem dX0_holdsPatterns_18 : decode cX0_holdsPatterns 18 = .ok (.aload_n 0, 1) := by decide +kernel
theorem dX0_holdsPatterns_19 : decode cX0_holdsPatterns 19 = .ok (.aload_n 0, 1) := by decide +kernel
theorem dX0_holdsPatterns_20 : decode cX0_holdsPatterns 20 = .ok (.getfield 15, 3) := by decide +kernel
theorem dX0_holdsPatterns_23 : decode cX0_holdsPatterns 23 = .ok (.iconst 1, 1) := by decide +kernel
theorem dX0_holdsPatterns_24 : decode cX0_holdsPatterns 24 = .ok (.isub, 1) := by decide +kernel
theorem dX0_holdsPatterns_25 : decode cX0_holdsPatterns 25 = .ok (.invokevirtual 38, 3) := by decide +kernel
theorem dX0_holdsPatterns_28 : decode cX0_holdsPatterns 28 = .ok (.ifCond .eq 7, 3) := by decide +kernel
theorem dX0_holdsPatterns_31 : decode cX0_holdsPatterns 31 = .ok (.iconst 1, 1) := by decide +kernel
theorem dX0_holdsPatterns_32 : decode cX0_holdsPatterns 32 = .ok (.goto 4, 3) := by decide +kernel
theorem dX0_holdsPatterns_35 : decode cX0_holdsPatterns 35 = .ok (.iconst 0, 1) := by decide +kernel
theorem dX0_holdsPatterns_36 : decode cX0_holdsPatterns 36 = .ok (.ireturn, 1) := by decide +kernel
set_option maxRecDepth 20000 in
theorem ggX0_holdsLetters_X0_firstErrorInLetters : GoodIn wsX0_holdsLetters wsX0_firstErrorInLetters := goodIn_r _ [6, 1, 7, 8, 9, 10, 11, 12, 5, 13, 14, 15, 16, 17, 18] (by decide +kernel) (by decide +kernel)
set_option maxRecDepth 20000 in
theorem gX0_holdsLetters_X0_firstErrorInLetters : GoodIn wsX0_holdsLetters (wsV RX0 41 RX0 yX0_firstErrorInLetters wsX0_firstErrorInLetters) := goodIn_app (goodIn_of _ (by decide +kernel)) ggX0_holdsLetters_X0_firstErrorInLetters
theorem dX0_holdsLetters_0 : decode cX0_holdsLetters 0 = .ok (.aload_n 0, 1) := by decide +kernel
theorem dX0_holdsLetters_1 : decode cX0_holdsLetters 1 = .ok (.getfield 15, 3) := by decide +kernel
theorem dX0_holdsLetters_4 : decode cX0_holdsLetters 4 = .ok (.ifCond .le 18, 3) := by decide +kernel
theorem dX0_holdsLetters_7 : decode cX0_holdsLetters 7 = .ok (.aload_n 0, 1) := by decide +kernel
theorem dX0_holdsLetters_8 : decode cX0_holdsLetters 8 = .ok (.invokevirtual 41, 3) := by decide +kernel
theorem dX0_holdsLetters_11 : decode cX0_holdsLetters 11 = .ok (.aload_n 0, 1) := by decide +kernel
theorem dX0_holdsLetters_12 : decode cX0_holdsLetters 12 = .ok (.getfield 15, 3) := by decide +kernel
theorem dX0_holdsLetters_15 : decode cX0_holdsLetters 15 = .ok (.if_icmp .ne 7, 3) := by decide +kernel
theorem dX0_holdsLetters_18 : decode cX0_holdsLetters 18 = .ok (.iconst 1, 1) := by decide +kernel
theorem dX0_holdsLetters_19 : decode cX0_holdsLetters 19 = .ok (.goto 4, 3) := by decide +kernel
theorem dX0_holdsLetters_22 : decode cX0_holdsLetters 22 = .ok (.iconst 0, 1) := by decide +kernel
theorem dX0_holdsLetters_23 : decode cX0_holdsLetters 23 = .ok (.ireturn, 1) := by decide +kernel
set_option maxRecDepth 20000 in
theorem ggX0_endsPart_X5_at : GoodIn wsX0_endsPart wsX5_at := goodIn_r _ [5] (by decide +kernel) (by decide +kernel)
set_option maxRecDepth 20000 in
theorem gX0_endsPart_X5_at_n27 : GoodIn wsX0_endsPart (wsX5_at) := ggX0_endsPart_X5_at
theorem dX0_endsPart_0 : decode cX0_endsPart 0 = .ok (.aload_n 0, 1) := by decide +kernel
theorem dX0_endsPart_1 : decode cX0_endsPart 1 = .ok (.getfield 9, 3) := by decide +kernel
theorem dX0_endsPart_4 : decode cX0_endsPart 4 = .ok (.iload_n 1, 1) := by decide +kernel
theorem dX0_endsPart_5 : decode cX0_endsPart 5 = .ok (.invokestatic 27, 3) := by decide +kernel
theorem dX0_endsPart_8 : decode cX0_endsPart 8 = .ok (.bipush 59, 2) := by decide +kernel
theorem dX0_endsPart_10 : decode cX0_endsPart 10 = .ok (.if_icmp .eq 32, 3) := by decide +kernel
theorem dX0_endsPart_13 : decode cX0_endsPart 13 = .ok (.iload_n 1, 1) := by decide +kernel
theorem dX0_endsPart_14 : decode cX0_endsPart 14 = .ok (.iconst 1, 1) := by decide +kernel
theorem dX0_endsPart_15 : decode cX0_endsPart 15 = .ok (.iadd, 1) := by decide +kernel
theorem dX0_endsPart_16 : decode cX0_endsPart 16 = .ok (.aload_n 0, 1) := by decide +kernel
theorem dX0_endsPart_17 : decode cX0_endsPart 17 = .ok (.getfield 15, 3) := by decide +kernel
theorem dX0_endsPart_20 : decode cX0_endsPart 20 = .ok (.if_icmp .ge 18, 3) := by decide +kernel
theorem dX0_endsPart_23 : decode cX0_endsPart 23 = .ok (.aload_n 0, 1) := by decide +kernel
theorem dX0_endsPart_24 : decode cX0_endsPart 24 = .ok (.getfield 9, 3) := by decide +kernel
theorem dX0_endsPart_27 : decode cX0_endsPart 27 = .ok (.iload_n 1, 1) := by decide +kernel
theorem dX0_endsPart_28 : decode cX0_endsPart 28 = .ok (.iconst 1, 1) := by decide +kernel
theorem dX0_endsPart_29 : decode cX0_endsPart 29 = .ok (.iadd, 1) := by decide +kernel
theorem dX0_endsPart_30 : decode cX0_endsPart 30 = .ok (.invokestatic 27, 3) := by decide +kernel
theorem dX0_endsPart_33 : decode cX0_endsPart 33 = .ok (.bipush 59, 2) := by decide +kernel
theorem dX0_endsPart_35 : decode cX0_endsPart 35 = .ok (.if_icmp .ne 7, 3) := by decide +kernel
theorem dX0_endsPart_38 : decode cX0_endsPart 38 = .ok (.iconst 1, 1) := by decide +kernel
theorem dX0_endsPart_39 : decode cX0_endsPart 39 = .ok (.goto 4, 3) := by decide +kernel
theorem dX0_endsPart_42 : decode cX0_endsPart 42 = .ok (.iconst 0, 1) := by decide +kernel
theorem dX0_endsPart_43 : decode cX0_endsPart 43 = .ok (.ireturn, 1) := by decide +kernel
set_option maxRecDepth 20000 in
theorem ggX0_lettersTold_X5_at : GoodIn wsX0_lettersTold wsX5_at := goodIn_r _ [5] (by decide +kernel) (by decide +kernel)
set_option maxRecDepth 20000 in
theorem gX0_lettersTold_X5_at_n27 : GoodIn wsX0_lettersTold (wsX5_at) := ggX0_lettersTold_X5_at
set_option maxRecDepth 20000 in
theorem ggX0_lettersTold_X0_lettersOf : GoodIn wsX0_lettersTold wsX0_lettersOf := goodIn_r _ [9, 10, 11, 8, 12] (by decide +kernel) (by decide +kernel)
set_option maxRecDepth 20000 in
theorem gX0_lettersTold_X0_lettersOf : GoodIn wsX0_lettersTold (va_wsS RX0 44 yX0_lettersOf wsX0_lettersOf) := goodIn_app (goodIn_of _ (by decide +kernel)) ggX0_lettersTold_X0_lettersOf
theorem dX0_lettersTold_0 : decode cX0_lettersTold 0 = .ok (.iconst 0, 1) := by decide +kernel
theorem dX0_lettersTold_1 : decode cX0_lettersTold 1 = .ok (.istore_n 1, 1) := by decide +kernel
theorem dX0_lettersTold_2 : decode cX0_lettersTold 2 = .ok (.iconst 0, 1) := by decide +kernel
theorem dX0_lettersTold_3 : decode cX0_lettersTold 3 = .ok (.istore_n 2, 1) := by decide +kernel
theorem dX0_lettersTold_4 : decode cX0_lettersTold 4 = .ok (.iload_n 2, 1) := by decide +kernel
theorem dX0_lettersTold_5 : decode cX0_lettersTold 5 = .ok (.aload_n 0, 1) := by decide +kernel
theorem dX0_lettersTold_6 : decode cX0_lettersTold 6 = .ok (.getfield 15, 3) := by decide +kernel
theorem dX0_lettersTold_9 : decode cX0_lettersTold 9 = .ok (.if_icmp .ge 23, 3) := by decide +kernel
theorem dX0_lettersTold_12 : decode cX0_lettersTold 12 = .ok (.iload_n 1, 1) := by decide +kernel
theorem dX0_lettersTold_13 : decode cX0_lettersTold 13 = .ok (.aload_n 0, 1) := by decide +kernel
theorem dX0_lettersTold_14 : decode cX0_lettersTold 14 = .ok (.getfield 9, 3) := by decide +kernel
theorem dX0_lettersTold_17 : decode cX0_lettersTold 17 = .ok (.iload_n 2, 1) := by decide +kernel
theorem dX0_lettersTold_18 : decode cX0_lettersTold 18 = .ok (.invokestatic 27, 3) := by decide +kernel
theorem dX0_lettersTold_21 : decode cX0_lettersTold 21 = .ok (.invokestatic 44, 3) := by decide +kernel
theorem dX0_lettersTold_24 : decode cX0_lettersTold 24 = .ok (.iadd, 1) := by decide +kernel
theorem dX0_lettersTold_25 : decode cX0_lettersTold 25 = .ok (.istore_n 1, 1) := by decide +kernel
theorem dX0_lettersTold_26 : decode cX0_lettersTold 26 = .ok (.iinc 2 1, 3) := by decide +kernel
theorem dX0_lettersTold_29 : decode cX0_lettersTold 29 = .ok (.goto (-25), 3) := by decide +kernel
theorem dX0_lettersTold_32 : decode cX0_lettersTold 32 = .ok (.iload_n 1, 1) := by decide +kernel
theorem dX0_lettersTold_33 : decode cX0_lettersTold 33 = .ok (.ireturn, 1) := by decide +kernel
set_option maxRecDepth 20000 in
theorem ggX1_init_X5_put : GoodIn wsX1_init wsX5_put := goodIn_r _ [12] (by decide +kernel) (by decide +kernel)
set_option maxRecDepth 20000 in
theorem gX1_init_X5_put_n24 : GoodIn wsX1_init (wsX5_put) := ggX1_init_X5_put
theorem dX1_init_0 : decode cX1_init 0 = .ok (.aload_n 0, 1) := by decide +kernel
theorem dX1_init_1 : decode cX1_init 1 = .ok (.invokespecial 3, 3) := by decide +kernel
theorem dX1_init_4 : decode cX1_init 4 = .ok (.aload_n 0, 1) := by decide +kernel
theorem dX1_init_5 : decode cX1_init 5 = .ok (.bipush 65, 2) := by decide +kernel
theorem dX1_init_7 : decode cX1_init 7 = .ok (.newarray .int, 2) := by decide +kernel
theorem dX1_init_9 : decode cX1_init 9 = .ok (.putfield 9, 3) := by decide +kernel
theorem dX1_init_12 : decode cX1_init 12 = .ok (.aload_n 0, 1) := by decide +kernel
theorem dX1_init_13 : decode cX1_init 13 = .ok (.bipush 65, 2) := by decide +kernel
theorem dX1_init_15 : decode cX1_init 15 = .ok (.newarray .int, 2) := by decide +kernel
theorem dX1_init_17 : decode cX1_init 17 = .ok (.putfield 15, 3) := by decide +kernel
theorem dX1_init_20 : decode cX1_init 20 = .ok (.aload_n 0, 1) := by decide +kernel
theorem dX1_init_21 : decode cX1_init 21 = .ok (.bipush 65, 2) := by decide +kernel
theorem dX1_init_23 : decode cX1_init 23 = .ok (.newarray .int, 2) := by decide +kernel
theorem dX1_init_25 : decode cX1_init 25 = .ok (.putfield 18, 3) := by decide +kernel
theorem dX1_init_28 : decode cX1_init 28 = .ok (.aload_n 0, 1) := by decide +kernel
theorem dX1_init_29 : decode cX1_init 29 = .ok (.sipush 260, 3) := by decide +kernel
theorem dX1_init_32 : decode cX1_init 32 = .ok (.newarray .int, 2) := by decide +kernel
theorem dX1_init_34 : decode cX1_init 34 = .ok (.putfield 21, 3) := by decide +kernel
theorem dX1_init_37 : decode cX1_init 37 = .ok (.aload_n 0, 1) := by decide +kernel
theorem dX1_init_38 : decode cX1_init 38 = .ok (.getfield 9, 3) := by decide +kernel
theorem dX1_init_41 : decode cX1_init 41 = .ok (.iconst 0, 1) := by decide +kernel
theorem dX1_init_42 : decode cX1_init 42 = .ok (.iconst 1, 1) := by decide +kernel
theorem dX1_init_43 : decode cX1_init 43 = .ok (.invokestatic 24, 3) := by decide +kernel
theorem dX1_init_46 : decode cX1_init 46 = .ok (.aload_n 0, 1) := by decide +kernel
theorem dX1_init_47 : decode cX1_init 47 = .ok (.getfield 15, 3) := by decide +kernel
theorem dX1_init_50 : decode cX1_init 50 = .ok (.iconst 0, 1) := by decide +kernel
theorem dX1_init_51 : decode cX1_init 51 = .ok (.iconst (-1), 1) := by decide +kernel
theorem dX1_init_52 : decode cX1_init 52 = .ok (.invokestatic 24, 3) := by decide +kernel
theorem dX1_init_55 : decode cX1_init 55 = .ok (.aload_n 0, 1) := by decide +kernel
theorem dX1_init_56 : decode cX1_init 56 = .ok (.iconst 1, 1) := by decide +kernel
theorem dX1_init_57 : decode cX1_init 57 = .ok (.putfield 28, 3) := by decide +kernel
theorem dX1_init_60 : decode cX1_init 60 = .ok (.return_, 1) := by decide +kernel
set_option maxRecDepth 20000 in
theorem ggX1_rebuild_X1_takeState : GoodIn wsX1_rebuild wsX1_takeState := goodIn_r _ [7, 1, 8, 9, 10, 11, 12, 13, 43, 44, 45, 46, 47] (by decide +kernel) (by decide +kernel)
set_option maxRecDepth 20000 in
theorem gX1_rebuild_X1_takeState : GoodIn wsX1_rebuild (wsV RX1 32 RX1 yX1_takeState wsX1_takeState) := goodIn_app (goodIn_of _ (by decide +kernel)) ggX1_rebuild_X1_takeState
set_option maxRecDepth 20000 in
theorem ggX1_rebuild_X5_at : GoodIn wsX1_rebuild wsX5_at := goodIn_r _ [11] (by decide +kernel) (by decide +kernel)
set_option maxRecDepth 20000 in
theorem gX1_rebuild_X5_at_n36 : GoodIn wsX1_rebuild (wsX5_at) := ggX1_rebuild_X5_at
set_option maxRecDepth 20000 in
theorem ggX1_rebuild_X3_lengthOf : GoodIn wsX1_rebuild wsX3_lengthOf := goodIn_r _ [17] (by decide +kernel) (by decide +kernel)
set_option maxRecDepth 20000 in
theorem gX1_rebuild_X3_lengthOf : GoodIn wsX1_rebuild (va_wsS RX1 40 yX3_lengthOf wsX3_lengthOf) := goodIn_app (goodIn_of _ (by decide +kernel)) ggX1_rebuild_X3_lengthOf
set_option maxRecDepth 20000 in
theorem ggX1_rebuild_X3_beginning : GoodIn wsX1_rebuild wsX3_beginning := goodIn_r _ [20, 21, 15, 16, 17] (by decide +kernel) (by decide +kernel)
set_option maxRecDepth 20000 in
theorem gX1_rebuild_X3_beginning : GoodIn wsX1_rebuild (va_wsS RX1 46 yX3_beginning wsX3_beginning) := goodIn_app (goodIn_of _ (by decide +kernel)) ggX1_rebuild_X3_beginning
set_option maxRecDepth 20000 in
theorem ggX1_rebuild_X1_leadToLongerStates : GoodIn wsX1_rebuild wsX1_leadToLongerStates := goodIn_r _ [25, 26, 1, 8, 9, 10, 11, 27, 28, 16, 29, 12, 13, 43, 44, 45, 46, 47] (by decide +kernel) (by decide +kernel)
set_option maxRecDepth 20000 in
theorem gX1_rebuild_X1_leadToLongerStates : GoodIn wsX1_rebuild (wsV RX1 50 RX1 yX1_leadToLongerStates wsX1_leadToLongerStates) := goodIn_app (goodIn_of _ (by decide +kernel)) ggX1_rebuild_X1_leadToLongerStates
set_option maxRecDepth 20000 in
theorem ggX1_rebuild_X1_fallBack : GoodIn wsX1_rebuild wsX1_fallBack := goodIn_r _ [33, 34, 1, 26, 12, 10, 13, 35, 36, 37, 6, 38, 9, 11, 43, 44, 45, 46, 47] (by decide +kernel) (by decide +kernel)
set_option maxRecDepth 20000 in
theorem gX1_rebuild_X1_fallBack : GoodIn wsX1_rebuild (wsV RX1 53 RX1 yX1_fallBack wsX1_fallBack) := goodIn_app (goodIn_of _ (by decide +kernel)) ggX1_rebuild_X1_fallBack
set_option maxRecDepth 20000 in
theorem ggX1_rebuild_X1_endsOf : GoodIn wsX1_rebuild wsX1_endsOf := goodIn_r _ [42, 2, 34, 8, 9, 10, 11, 43, 44, 45, 46, 47] (by decide +kernel) (by decide +kernel)
set_option maxRecDepth 20000 in
theorem gX1_rebuild_X1_endsOf : GoodIn wsX1_rebuild (wsV RX1 56 RX1 yX1_endsOf wsX1_endsOf) := goodIn_app (goodIn_of _ (by decide +kernel)) ggX1_rebuild_X1_endsOf
set_option maxRecDepth 20000 in
theorem ggX1_rebuild_X5_put : GoodIn wsX1_rebuild wsX5_put := goodIn_r _ [13] (by decide +kernel) (by decide +kernel)
set_option maxRecDepth 20000 in
theorem gX1_rebuild_X5_put_n24 : GoodIn wsX1_rebuild (wsX5_put) := ggX1_rebuild_X5_put
theorem dX1_rebuild_0 : decode cX1_rebuild 0 = .ok (.aload_n 0, 1) := by decide +kernel
theorem dX1_rebuild_1 : decode cX1_rebuild 1 = .ok (.iconst 0, 1) := by decide +kernel
theorem dX1_rebuild_2 : decode cX1_rebuild 2 = .ok (.putfield 28, 3) := by decide +kernel
theorem dX1_rebuild_5 : decode cX1_rebuild 5 = .ok (.aload_n 0, 1) := by decide +kernel
theorem dX1_rebuild_6 : decode cX1_rebuild 6 = .ok (.iconst 1, 1) := by decide +kernel
theorem dX1_rebuild_7 : decode cX1_rebuild 7 = .ok (.invokevirtual 32, 3) := by decide +kernel
theorem dX1_rebuild_10 : decode cX1_rebuild 10 = .ok (.iconst 0, 1) := by decide +kernel
theorem dX1_rebuild_11 : decode cX1_rebuild 11 = .ok (.istore_n 2, 1) := by decide +kernel
theorem dX1_rebuild_12 : decode cX1_rebuild 12 = .ok (.iload_n 2, 1) := by decide +kernel
theorem dX1_rebuild_13 : decode cX1_rebuild 13 = .ok (.bipush 8, 2) := by decide +kernel
theorem dX1_rebuild_15 : decode cX1_rebuild 15 = .ok (.if_icmp .ge 47, 3) := by decide +kernel
theorem dX1_rebuild_18 : decode cX1_rebuild 18 = .ok (.aload_n 1, 1) := by decide +kernel
theorem dX1_rebuild_19 : decode cX1_rebuild 19 = .ok (.iload_n 2, 1) := by decide +kernel
theorem dX1_rebuild_20 : decode cX1_rebuild 20 = .ok (.invokestatic 36, 3) := by decide +kernel
theorem dX1_rebuild_23 : decode cX1_rebuild 23 = .ok (.istore_n 3, 1) := by decide +kernel
theorem dX1_rebuild_24 : decode cX1_rebuild 24 = .ok (.iload_n 3, 1) := by decide +kernel
theorem dX1_rebuild_25 : decode cX1_rebuild 25 = .ok (.invokestatic 40, 3) := by decide +kernel
theorem dX1_rebuild_28 : decode cX1_rebuild 28 = .ok (.istore 4, 2) := by decide +kernel
theorem dX1_rebuild_30 : decode cX1_rebuild 30 = .ok (.iconst 1, 1) := by decide +kernel
theorem dX1_rebuild_31 : decode cX1_rebuild 31 = .ok (.istore 5, 2) := by decide +kernel
theorem dX1_rebuild_33 : decode cX1_rebuild 33 = .ok (.iload 5, 2) := by decide +kernel
theorem dX1_rebuild_35 : decode cX1_rebuild 35 = .ok (.iload 4, 2) := by decide +kernel
theorem dX1_rebuild_37 : decode cX1_rebuild 37 = .ok (.if_icmp .gt 19, 3) := by decide +kernel
theorem dX1_rebuild_40 : decode cX1_rebuild 40 = .ok (.aload_n 0, 1) := by decide +kernel
theorem dX1_rebuild_41 : decode cX1_rebuild 41 = .ok (.iload_n 3, 1) := by decide +kernel
theorem dX1_rebuild_42 : decode cX1_rebuild 42 = .ok (.iload 5, 2) := by decide +kernel
theorem dX1_rebuild_44 : decode cX1_rebuild 44 = .ok (.invokestatic 46, 3) := by decide +kernel
theorem dX1_rebuild_47 : decode cX1_rebuild 47 = .ok (.invokevirtual 32, 3) := by decide +kernel
theorem dX1_rebuild_50 : decode cX1_rebuild 50 = .ok (.iinc 5 1, 3) := by decide +kernel
theorem dX1_rebuild_53 : decode cX1_rebuild 53 = .ok (.goto (-20), 3) := by decide +kernel
theorem dX1_rebuild_56 : decode cX1_rebuild 56 = .ok (.iinc 2 1, 3) := by decide +kernel
theorem dX1_rebuild_59 : decode cX1_rebuild 59 = .ok (.goto (-47), 3) := by decide +kernel
theorem dX1_rebuild_62 : decode cX1_rebuild 62 = .ok (.aload_n 0, 1) := by decide +kernel
theorem dX1_rebuild_63 : decode cX1_rebuild 63 = .ok (.invokevirtual 50, 3) := by decide +kernel
theorem dX1_rebuild_66 : decode cX1_rebuild 66 = .ok (.aload_n 0, 1) := by decide +kernel
theorem dX1_rebuild_67 : decode cX1_rebuild 67 = .ok (.invokevirtual 53, 3) := by decide +kernel
theorem dX1_rebuild_70 : decode cX1_rebuild 70 = .ok (.iconst 0, 1) := by decide +kernel
theorem dX1_rebuild_71 : decode cX1_rebuild 71 = .ok (.istore_n 2, 1) := by decide +kernel
theorem dX1_rebuild_72 : decode cX1_rebuild 72 = .ok (.iload_n 2, 1) := by decide +kernel
theorem dX1_rebuild_73 : decode cX1_rebuild 73 = .ok (.aload_n 0, 1) := by decide +kernel
theorem dX1_rebuild_74 : decode cX1_rebuild 74 = .ok (.getfield 28, 3) := by decide +kernel
theorem dX1_rebuild_77 : decode cX1_rebuild 77 = .ok (.if_icmp .ge 23, 3) := by decide +kernel
theorem dX1_rebuild_80 : decode cX1_rebuild 80 = .ok (.aload_n 0, 1) := by decide +kernel
theorem dX1_rebuild_81 : decode cX1_rebuild 81 = .ok (.getfield 18, 3) := by decide +kernel
theorem dX1_rebuild_84 : decode cX1_rebuild 84 = .ok (.iload_n 2, 1) := by decide +kernel
theorem dX1_rebuild_85 : decode cX1_rebuild 85 = .ok (.aload_n 0, 1) := by decide +kernel
theorem dX1_rebuild_86 : decode cX1_rebuild 86 = .ok (.iload_n 2, 1) := by decide +kernel
theorem dX1_rebuild_87 : decode cX1_rebuild 87 = .ok (.aload_n 1, 1) := by decide +kernel
theorem dX1_rebuild_88 : decode cX1_rebuild 88 = .ok (.invokevirtual 56, 3) := by decide +kernel
theorem dX1_rebuild_91 : decode cX1_rebuild 91 = .ok (.invokestatic 24, 3) := by decide +kernel
theorem dX1_rebuild_94 : decode cX1_rebuild 94 = .ok (.iinc 2 1, 3) := by decide +kernel
theorem dX1_rebuild_97 : decode cX1_rebuild 97 = .ok (.goto (-25), 3) := by decide +kernel
theorem dX1_rebuild_100 : decode cX1_rebuild 100 = .ok (.return_, 1) := by decide +kernel
set_option maxRecDepth 20000 in
theorem ggX1_leadsTo_X5_at : GoodIn wsX1_leadsTo wsX5_at := goodIn_r _ [4] (by decide +kernel) (by decide +kernel)
set_option maxRecDepth 20000 in
theorem gX1_leadsTo_X5_at_n36 : GoodIn wsX1_leadsTo (wsX5_at) := ggX1_leadsTo_X5_at
theorem dX1_leadsTo_0 : decode cX1_leadsTo 0 = .ok (.aload_n 0, 1) := by decide +kernel
theorem dX1_leadsTo_1 : decode cX1_leadsTo 1 = .ok (.getfield 21, 3) := by decide +kernel
theorem dX1_leadsTo_4 : decode cX1_leadsTo 4 = .ok (.iload_n 1, 1) := by decide +kernel
theorem dX1_leadsTo_5 : decode cX1_leadsTo 5 = .ok (.iconst 4, 1) := by decide +kernel
theorem dX1_leadsTo_6 : decode cX1_leadsTo 6 = .ok (.imul, 1) := by decide +kernel
theorem dX1_leadsTo_7 : decode cX1_leadsTo 7 = .ok (.iload_n 2, 1) := by decide +kernel
theorem dX1_leadsTo_8 : decode cX1_leadsTo 8 = .ok (.iadd, 1) := by decide +kernel
theorem dX1_leadsTo_9 : decode cX1_leadsTo 9 = .ok (.invokestatic 36, 3) := by decide +kernel
theorem dX1_leadsTo_12 : decode cX1_leadsTo 12 = .ok (.ireturn, 1) := by decide +kernel
set_option maxRecDepth 20000 in
theorem ggX1_stateBehind_X3_lengthOf : GoodIn wsX1_stateBehind wsX3_lengthOf := goodIn_r _ [4] (by decide +kernel) (by decide +kernel)
set_option maxRecDepth 20000 in
theorem gX1_stateBehind_X3_lengthOf : GoodIn wsX1_stateBehind (va_wsS RX1 40 yX3_lengthOf wsX3_lengthOf) := goodIn_app (goodIn_of _ (by decide +kernel)) ggX1_stateBehind_X3_lengthOf
set_option maxRecDepth 20000 in
theorem ggX1_stateBehind_X3_letterAt : GoodIn wsX1_stateBehind wsX3_letterAt := goodIn_r _ [7, 8, 2, 3, 4, 9, 10, 11] (by decide +kernel) (by decide +kernel)
set_option maxRecDepth 20000 in
theorem gX1_stateBehind_X3_letterAt : GoodIn wsX1_stateBehind (va_wsS RX1 60 yX3_letterAt wsX3_letterAt) := goodIn_app (goodIn_of _ (by decide +kernel)) ggX1_stateBehind_X3_letterAt
set_option maxRecDepth 20000 in
theorem ggX1_stateBehind_X1_leadsTo : GoodIn wsX1_stateBehind wsX1_leadsTo := goodIn_r _ [16, 17, 18, 19, 20, 21, 22, 23, 24, 25] (by decide +kernel) (by decide +kernel)
set_option maxRecDepth 20000 in
theorem gX1_stateBehind_X1_leadsTo : GoodIn wsX1_stateBehind (wsV RX1 63 RX1 yX1_leadsTo wsX1_leadsTo) := goodIn_app (goodIn_of _ (by decide +kernel)) ggX1_stateBehind_X1_leadsTo
theorem dX1_stateBehind_0 : decode cX1_stateBehind 0 = .ok (.iconst 0, 1) := by decide +kernel
theorem dX1_stateBehind_1 : decode cX1_stateBehind 1 = .ok (.istore_n 2, 1) := by decide +kernel
theorem dX1_stateBehind_2 : decode cX1_stateBehind 2 = .ok (.iload_n 1, 1) := by decide +kernel
theorem dX1_stateBehind_3 : decode cX1_stateBehind 3 = .ok (.invokestatic 40, 3) := by decide +kernel
theorem dX1_stateBehind_6 : decode cX1_stateBehind 6 = .ok (.istore_n 3, 1) := by decide +kernel
theorem dX1_stateBehind_7 : decode cX1_stateBehind 7 = .ok (.iconst 0, 1) := by decide +kernel
theorem dX1_stateBehind_8 : decode cX1_stateBehind 8 = .ok (.istore 4, 2) := by decide +kernel
theorem dX1_stateBehind_10 : decode cX1_stateBehind 10 = .ok (.iload 4, 2) := by decide +kernel
theorem dX1_stateBehind_12 : decode cX1_stateBehind 12 = .ok (.iload_n 3, 1) := by decide +kernel
theorem dX1_stateBehind_13 : decode cX1_stateBehind 13 = .ok (.if_icmp .ge 21, 3) := by decide +kernel
theorem dX1_stateBehind_16 : decode cX1_stateBehind 16 = .ok (.aload_n 0, 1) := by decide +kernel
