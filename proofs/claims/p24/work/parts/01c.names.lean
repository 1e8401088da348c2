theorem wsL_law_x0 : ∀ w ∈ (vx_atS RX5 49 "java/lang/IllegalArgumentException" ["java/lang/RuntimeException", "java/lang/Exception"]).filter goodWord, w ∈ lw_tbl := by decide +kernel
theorem wsL_law_x1 : ∀ w ∈ (vx_atS RX5 60 "java/lang/IllegalStateException" ["java/lang/RuntimeException", "java/lang/Exception"]).filter goodWord, w ∈ lw_tbl := by decide +kernel
theorem wsL_law_x2 : ∀ w ∈ (vx_atS RX5 91 "java/lang/IndexOutOfBoundsException" ["java/lang/RuntimeException", "java/lang/Exception"]).filter goodWord, w ∈ lw_tbl := by decide +kernel
theorem wsL_law_in : ∀ w ∈ wsL_law, w ∈ lw_tbl := fun w h => (List.mem_append.mp h).elim (fun h => (List.mem_append.mp h).elim (fun h => (List.mem_append.mp h).elim (fun h => wsL_law_in0 w h) (fun h => wsL_law_x0 w h)) (fun h => wsL_law_x1 w h)) (fun h => wsL_law_x2 w h)
theorem inlX0 : ∀ w ∈ wsX00, w ∈ wsL_law := fun _ h => List.mem_append_left _ (List.mem_append_left _ (List.mem_append_left _ (List.mem_append_left _ (List.mem_append_right _ h))))
theorem inX0 : ∀ w ∈ wsX00, w ∈ lw_tbl := fun w h => wsL_law_in w (inlX0 w h)
theorem inlX1 : ∀ w ∈ wsX10, w ∈ wsL_law := fun _ h => List.mem_append_left _ (List.mem_append_left _ (List.mem_append_left _ (List.mem_append_left _ (List.mem_append_left _ (List.mem_append_right _ h)))))
theorem inX1 : ∀ w ∈ wsX10, w ∈ lw_tbl := fun w h => wsL_law_in w (inlX1 w h)
theorem inlX2 : ∀ w ∈ wsX20, w ∈ wsL_law := fun _ h => List.mem_append_left _ (List.mem_append_left _ (List.mem_append_left _ (List.mem_append_left _ (List.mem_append_left _ (List.mem_append_left _ (List.mem_append_left _ (List.mem_append_right _ h)))))))
theorem inX2 : ∀ w ∈ wsX20, w ∈ lw_tbl := fun w h => wsL_law_in w (inlX2 w h)
theorem inX3 : ∀ w ∈ wsX30, w ∈ lw_tbl := by decide +kernel
theorem inlX4 : ∀ w ∈ wsX40, w ∈ wsL_law := fun _ h => List.mem_append_left _ (List.mem_append_left _ (List.mem_append_left _ (List.mem_append_left _ (List.mem_append_left _ (List.mem_append_left _ (List.mem_append_right _ h))))))
theorem inX4 : ∀ w ∈ wsX40, w ∈ lw_tbl := fun w h => wsL_law_in w (inlX4 w h)
theorem inlX5 : ∀ w ∈ wsX50, w ∈ wsL_law := fun _ h => List.mem_append_left _ (List.mem_append_left _ (List.mem_append_left _ (List.mem_append_left _ (List.mem_append_left _ (List.mem_append_left _ (List.mem_append_left _ (List.mem_append_left _ (List.mem_append_right _ h))))))))
theorem inX5 : ∀ w ∈ wsX50, w ∈ lw_tbl := fun w h => wsL_law_in w (inlX5 w h)
theorem inX6 : ∀ w ∈ wsX60, w ∈ lw_tbl := by decide +kernel
theorem inJ6 : ∀ w ∈ wsJ60, w ∈ lw_tbl := by decide +kernel
theorem inJ9 : ∀ w ∈ wsJ90, w ∈ lw_tbl := by decide +kernel
theorem inJ0 : ∀ w ∈ wsJ00, w ∈ lw_tbl := by decide +kernel
theorem dX0_init_0 : decode cX0_init 0 = .ok (.aload_n 0, 1) := by decide +kernel
theorem dX0_init_1 : decode cX0_init 1 = .ok (.invokespecial 3, 3) := by decide +kernel
theorem dX0_init_4 : decode cX0_init 4 = .ok (.aload_n 0, 1) := by decide +kernel
theorem dX0_init_5 : decode cX0_init 5 = .ok (.bipush 60, 2) := by decide +kernel
theorem dX0_init_7 : decode cX0_init 7 = .ok (.newarray .int, 2) := by decide +kernel
theorem dX0_init_9 : decode cX0_init 9 = .ok (.putfield 9, 3) := by decide +kernel
theorem dX0_init_12 : decode cX0_init 12 = .ok (.return_, 1) := by decide +kernel
set_option maxRecDepth 20000 in
theorem ggX0_take_X5_put : GoodIn wsX0_take wsX5_put := goodIn_r _ [5] (by decide +kernel) (by decide +kernel)
set_option maxRecDepth 20000 in
theorem gX0_take_X5_put_n19 : GoodIn wsX0_take (wsX5_put) := ggX0_take_X5_put
theorem dX0_take_0 : decode cX0_take 0 = .ok (.aload_n 0, 1) := by decide +kernel
theorem dX0_take_1 : decode cX0_take 1 = .ok (.getfield 9, 3) := by decide +kernel
theorem dX0_take_4 : decode cX0_take 4 = .ok (.aload_n 0, 1) := by decide +kernel
theorem dX0_take_5 : decode cX0_take 5 = .ok (.getfield 15, 3) := by decide +kernel
theorem dX0_take_8 : decode cX0_take 8 = .ok (.iload_n 1, 1) := by decide +kernel
theorem dX0_take_9 : decode cX0_take 9 = .ok (.invokestatic 19, 3) := by decide +kernel
theorem dX0_take_12 : decode cX0_take 12 = .ok (.aload_n 0, 1) := by decide +kernel
theorem dX0_take_13 : decode cX0_take 13 = .ok (.dup, 1) := by decide +kernel
theorem dX0_take_14 : decode cX0_take 14 = .ok (.getfield 15, 3) := by decide +kernel
theorem dX0_take_17 : decode cX0_take 17 = .ok (.iconst 1, 1) := by decide +kernel
theorem dX0_take_18 : decode cX0_take 18 = .ok (.iadd, 1) := by decide +kernel
theorem dX0_take_19 : decode cX0_take 19 = .ok (.putfield 15, 3) := by decide +kernel
theorem dX0_take_22 : decode cX0_take 22 = .ok (.return_, 1) := by decide +kernel
theorem dX0_empty_0 : decode cX0_empty 0 = .ok (.aload_n 0, 1) := by decide +kernel
theorem dX0_empty_1 : decode cX0_empty 1 = .ok (.iconst 0, 1) := by decide +kernel
theorem dX0_empty_2 : decode cX0_empty 2 = .ok (.putfield 15, 3) := by decide +kernel
theorem dX0_empty_5 : decode cX0_empty 5 = .ok (.return_, 1) := by decide +kernel
theorem dX0_isLetterCode_0 : decode cX0_isLetterCode 0 = .ok (.iload_n 0, 1) := by decide +kernel
theorem dX0_isLetterCode_1 : decode cX0_isLetterCode 1 = .ok (.bipush 97, 2) := by decide +kernel
theorem dX0_isLetterCode_3 : decode cX0_isLetterCode 3 = .ok (.if_icmp .lt 13, 3) := by decide +kernel
theorem dX0_isLetterCode_6 : decode cX0_isLetterCode 6 = .ok (.iload_n 0, 1) := by decide +kernel
theorem dX0_isLetterCode_7 : decode cX0_isLetterCode 7 = .ok (.bipush 100, 2) := by decide +kernel
theorem dX0_isLetterCode_9 : decode cX0_isLetterCode 9 = .ok (.if_icmp .gt 7, 3) := by decide +kernel
theorem dX0_isLetterCode_12 : decode cX0_isLetterCode 12 = .ok (.iconst 1, 1) := by decide +kernel
theorem dX0_isLetterCode_13 : decode cX0_isLetterCode 13 = .ok (.goto 4, 3) := by decide +kernel
theorem dX0_isLetterCode_16 : decode cX0_isLetterCode 16 = .ok (.iconst 0, 1) := by decide +kernel
theorem dX0_isLetterCode_17 : decode cX0_isLetterCode 17 = .ok (.ireturn, 1) := by decide +kernel
set_option maxRecDepth 20000 in
theorem ggX0_firstErrorInPatterns_X5_at : GoodIn wsX0_firstErrorInPatterns wsX5_at := goodIn_r _ [5] (by decide +kernel) (by decide +kernel)
set_option maxRecDepth 20000 in
theorem gX0_firstErrorInPatterns_X5_at_n27 : GoodIn wsX0_firstErrorInPatterns (wsX5_at) := ggX0_firstErrorInPatterns_X5_at
set_option maxRecDepth 20000 in
theorem ggX0_firstErrorInPatterns_X0_isLetterCode : GoodIn wsX0_firstErrorInPatterns wsX0_isLetterCode := goodIn_r _ [9] (by decide +kernel) (by decide +kernel)
set_option maxRecDepth 20000 in
theorem gX0_firstErrorInPatterns_X0_isLetterCode : GoodIn wsX0_firstErrorInPatterns (va_wsS RX0 31 yX0_isLetterCode wsX0_isLetterCode) := goodIn_app (goodIn_of _ (by decide +kernel)) ggX0_firstErrorInPatterns_X0_isLetterCode
theorem dX0_firstErrorInPatterns_0 : decode cX0_firstErrorInPatterns 0 = .ok (.iconst 0, 1) := by decide +kernel
theorem dX0_firstErrorInPatterns_1 : decode cX0_firstErrorInPatterns 1 = .ok (.istore_n 1, 1) := by decide +kernel
theorem dX0_firstErrorInPatterns_2 : decode cX0_firstErrorInPatterns 2 = .ok (.iconst 0, 1) := by decide +kernel
theorem dX0_firstErrorInPatterns_3 : decode cX0_firstErrorInPatterns 3 = .ok (.istore_n 2, 1) := by decide +kernel
theorem dX0_firstErrorInPatterns_4 : decode cX0_firstErrorInPatterns 4 = .ok (.iload_n 2, 1) := by decide +kernel
theorem dX0_firstErrorInPatterns_5 : decode cX0_firstErrorInPatterns 5 = .ok (.aload_n 0, 1) := by decide +kernel
theorem dX0_firstErrorInPatterns_6 : decode cX0_firstErrorInPatterns 6 = .ok (.getfield 15, 3) := by decide +kernel
theorem dX0_firstErrorInPatterns_9 : decode cX0_firstErrorInPatterns 9 = .ok (.if_icmp .ge 54, 3) := by decide +kernel
theorem dX0_firstErrorInPatterns_12 : decode cX0_firstErrorInPatterns 12 = .ok (.aload_n 0, 1) := by decide +kernel
theorem dX0_firstErrorInPatterns_13 : decode cX0_firstErrorInPatterns 13 = .ok (.getfield 9, 3) := by decide +kernel
theorem dX0_firstErrorInPatterns_16 : decode cX0_firstErrorInPatterns 16 = .ok (.iload_n 2, 1) := by decide +kernel
theorem dX0_firstErrorInPatterns_17 : decode cX0_firstErrorInPatterns 17 = .ok (.invokestatic 27, 3) := by decide +kernel
theorem dX0_firstErrorInPatterns_20 : decode cX0_firstErrorInPatterns 20 = .ok (.istore_n 3, 1) := by decide +kernel
theorem dX0_firstErrorInPatterns_21 : decode cX0_firstErrorInPatterns 21 = .ok (.iload_n 3, 1) := by decide +kernel
theorem dX0_firstErrorInPatterns_22 : decode cX0_firstErrorInPatterns 22 = .ok (.invokestatic 31, 3) := by decide +kernel
theorem dX0_firstErrorInPatterns_25 : decode cX0_firstErrorInPatterns 25 = .ok (.ifCond .eq 15, 3) := by decide +kernel
theorem dX0_firstErrorInPatterns_28 : decode cX0_firstErrorInPatterns 28 = .ok (.iload_n 1, 1) := by decide +kernel
theorem dX0_firstErrorInPatterns_29 : decode cX0_firstErrorInPatterns 29 = .ok (.bipush 8, 2) := by decide +kernel
theorem dX0_firstErrorInPatterns_31 : decode cX0_firstErrorInPatterns 31 = .ok (.if_icmp .ge 9, 3) := by decide +kernel
theorem dX0_firstErrorInPatterns_34 : decode cX0_firstErrorInPatterns 34 = .ok (.iinc 1 1, 3) := by decide +kernel
theorem dX0_firstErrorInPatterns_37 : decode cX0_firstErrorInPatterns 37 = .ok (.goto 20, 3) := by decide +kernel
theorem dX0_firstErrorInPatterns_40 : decode cX0_firstErrorInPatterns 40 = .ok (.iload_n 3, 1) := by decide +kernel
theorem dX0_firstErrorInPatterns_41 : decode cX0_firstErrorInPatterns 41 = .ok (.bipush 59, 2) := by decide +kernel
theorem dX0_firstErrorInPatterns_43 : decode cX0_firstErrorInPatterns 43 = .ok (.if_icmp .ne 12, 3) := by decide +kernel
theorem dX0_firstErrorInPatterns_46 : decode cX0_firstErrorInPatterns 46 = .ok (.iload_n 1, 1) := by decide +kernel
theorem dX0_firstErrorInPatterns_47 : decode cX0_firstErrorInPatterns 47 = .ok (.ifCond .le 8, 3) := by decide +kernel
theorem dX0_firstErrorInPatterns_50 : decode cX0_firstErrorInPatterns 50 = .ok (.iconst 0, 1) := by decide +kernel
theorem dX0_firstErrorInPatterns_51 : decode cX0_firstErrorInPatterns 51 = .ok (.istore_n 1, 1) := by decide +kernel
theorem dX0_firstErrorInPatterns_52 : decode cX0_firstErrorInPatterns 52 = .ok (.goto 5, 3) := by decide +kernel
theorem dX0_firstErrorInPatterns_55 : decode cX0_firstErrorInPatterns 55 = .ok (.iload_n 2, 1) := by decide +kernel
theorem dX0_firstErrorInPatterns_56 : decode cX0_firstErrorInPatterns 56 = .ok (.ireturn, 1) := by decide +kernel
theorem dX0_firstErrorInPatterns_57 : decode cX0_firstErrorInPatterns 57 = .ok (.iinc 2 1, 3) := by decide +kernel
theorem dX0_firstErrorInPatterns_60 : decode cX0_firstErrorInPatterns 60 = .ok (.goto (-56), 3) := by decide +kernel
theorem dX0_firstErrorInPatterns_63 : decode cX0_firstErrorInPatterns 63 = .ok (.aload_n 0, 1) := by decide +kernel
theorem dX0_firstErrorInPatterns_64 : decode cX0_firstErrorInPatterns 64 = .ok (.getfield 15, 3) := by decide +kernel
theorem dX0_firstErrorInPatterns_67 : decode cX0_firstErrorInPatterns 67 = .ok (.ireturn, 1) := by decide +kernel
set_option maxRecDepth 20000 in
theorem ggX0_holdsPatterns_X0_firstErrorInPatterns : GoodIn wsX0_holdsPatterns wsX0_firstErrorInPatterns := goodIn_r _ [6, 1, 7, 8, 9, 10, 11, 12, 5, 13, 18, 19] (by decide +kernel) (by decide +kernel)
set_option maxRecDepth 20000 in
theorem gX0_holdsPatterns_X0_firstErrorInPatterns : GoodIn wsX0_holdsPatterns (wsV RX0 34 RX0 yX0_firstErrorInPatterns wsX0_firstErrorInPatterns) := goodIn_app (goodIn_of _ (by decide +kernel)) ggX0_holdsPatterns_X0_firstErrorInPatterns
set_option maxRecDepth 20000 in
theorem ggX0_holdsPatterns_X0_endsPart : GoodIn wsX0_holdsPatterns wsX0_endsPart := goodIn_r _ [17, 7, 1, 8, 9, 10, 18, 19] (by decide +kernel) (by decide +kernel)
set_option maxRecDepth 20000 in
theorem gX0_holdsPatterns_X0_endsPart : GoodIn wsX0_holdsPatterns (wsV RX0 38 RX0 yX0_endsPart wsX0_endsPart) := goodIn_app (goodIn_of _ (by decide +kernel)) ggX0_holdsPatterns_X0_endsPart
theorem dX0_holdsPatterns_0 : decode cX0_holdsPatterns 0 = .ok (.aload_n 0, 1) := by decide +kernel
theorem dX0_holdsPatterns_1 : decode cX0_holdsPatterns 1 = .ok (.getfield 15, 3) := by decide +kernel
theorem dX0_holdsPatterns_4 : decode cX0_holdsPatterns 4 = .ok (.ifCond .le 31, 3) := by decide +kernel
theorem dX0_holdsPatterns_7 : decode cX0_holdsPatterns 7 = .ok (.aload_n 0, 1) := by decide +kernel
theorem dX0_holdsPatterns_8 : decode cX0_holdsPatterns 8 = .ok (.invokevirtual 34, 3) := by decide +kernel
theorem dX0_holdsPatterns_11 : decode cX0_holdsPatterns 11 = .ok (.aload_n 0, 1) := by decide +kernel
theorem dX0_holdsPatterns_12 : decode cX0_holdsPatterns 12 = .ok (.getfield 15, 3) := by decide +kernel
theorem dX0_holdsPatterns_15 : decode cX0_holdsPatterns 15 = .ok (.if_icmp .ne 20, 3) := by decide +kernel
theorem dX0_holdsPatterns_18 : decode cX0_holdsPatterns 18 = .ok (.aload_n 0, 1) := by decide +kernel
theorem dX0_holdsPatterns_19 : decode cX0_holdsPatterns 19 = .ok (.aload_n 0, 1) := by decide +kernel
theorem dX0_holdsPatterns_20 : decode cX0_holdsPatterns 20 = .ok (.getfield 15, 3) := by decide +kernel
theorem dX0_holdsPatterns_23 : decode cX0_holdsPatterns 23 = .ok (.iconst 1, 1) := by decide +kernel
theorem dX0_holdsPatterns_24 : decode cX0_holdsPatterns 24 = .ok (.isub, 1) := by decide +kernel
theorem dX0_holdsPatterns_25 : decode cX0_holdsPatterns 25 = .ok (.invokevirtual 38, 3) := by decide +kernel
theorem dX0_holdsPatterns_28 : decode cX0_holdsPatterns 28 = .ok (.ifCond .eq 7, 3) := by decide +kernel
theorem dX0_holdsPatterns_31 : decode cX0_holdsPatterns 31 = .ok (.iconst 1, 1) := by decide +kernel
theorem dX0_holdsPatterns_32 : decode cX0_holdsPatterns 32 = .ok (.goto 4, 3) := by decide +kernel
theorem dX0_holdsPatterns_35 : decode cX0_holdsPatterns 35 = .ok (.iconst 0, 1) := by decide +kernel
theorem dX0_holdsPatterns_36 : decode cX0_holdsPatterns 36 = .ok (.ireturn, 1) := by decide +kernel
set_option maxRecDepth 20000 in
theorem ggX0_endsPart_X5_at : GoodIn wsX0_endsPart wsX5_at := goodIn_r _ [5] (by decide +kernel) (by decide +kernel)
set_option maxRecDepth 20000 in
theorem gX0_endsPart_X5_at_n27 : GoodIn wsX0_endsPart (wsX5_at) := ggX0_endsPart_X5_at
theorem dX0_endsPart_0 : decode cX0_endsPart 0 = .ok (.aload_n 0, 1) := by decide +kernel
theorem dX0_endsPart_1 : decode cX0_endsPart 1 = .ok (.getfield 9, 3) := by decide +kernel
theorem dX0_endsPart_4 : decode cX0_endsPart 4 = .ok (.iload_n 1, 1) := by decide +kernel
theorem dX0_endsPart_5 : decode cX0_endsPart 5 = .ok (.invokestatic 27, 3) := by decide +kernel
theorem dX0_endsPart_8 : decode cX0_endsPart 8 = .ok (.bipush 59, 2) := by decide +kernel
theorem dX0_endsPart_10 : decode cX0_endsPart 10 = .ok (.if_icmp .eq 32, 3) := by decide +kernel
theorem dX0_endsPart_13 : decode cX0_endsPart 13 = .ok (.iload_n 1, 1) := by decide +kernel
theorem dX0_endsPart_14 : decode cX0_endsPart 14 = .ok (.iconst 1, 1) := by decide +kernel
theorem dX0_endsPart_15 : decode cX0_endsPart 15 = .ok (.iadd, 1) := by decide +kernel
theorem dX0_endsPart_16 : decode cX0_endsPart 16 = .ok (.aload_n 0, 1) := by decide +kernel
theorem dX0_endsPart_17 : decode cX0_endsPart 17 = .ok (.getfield 15, 3) := by decide +kernel
theorem dX0_endsPart_20 : decode cX0_endsPart 20 = .ok (.if_icmp .ge 18, 3) := by decide +kernel
theorem dX0_endsPart_23 : decode cX0_endsPart 23 = .ok (.aload_n 0, 1) := by decide +kernel
theorem dX0_endsPart_24 : decode cX0_endsPart 24 = .ok (.getfield 9, 3) := by decide +kernel
theorem dX0_endsPart_27 : decode cX0_endsPart 27 = .ok (.iload_n 1, 1) := by decide +kernel
theorem dX0_endsPart_28 : decode cX0_endsPart 28 = .ok (.iconst 1, 1) := by decide +kernel
theorem dX0_endsPart_29 : decode cX0_endsPart 29 = .ok (.iadd, 1) := by decide +kernel
theorem dX0_endsPart_30 : decode cX0_endsPart 30 = .ok (.invokestatic 27, 3) := by decide +kernel
theorem dX0_endsPart_33 : decode cX0_endsPart 33 = .ok (.bipush 59, 2) := by decide +kernel
theorem dX0_endsPart_35 : decode cX0_endsPart 35 = .ok (.if_icmp .ne 7, 3) := by decide +kernel
theorem dX0_endsPart_38 : decode cX0_endsPart 38 = .ok (.iconst 1, 1) := by decide +kernel
theorem dX0_endsPart_39 : decode cX0_endsPart 39 = .ok (.goto 4, 3) := by decide +kernel
theorem dX0_endsPart_42 : decode cX0_endsPart 42 = .ok (.iconst 0, 1) := by decide +kernel
theorem dX0_endsPart_43 : decode cX0_endsPart 43 = .ok (.ireturn, 1) := by decide +kernel
set_option maxRecDepth 20000 in
theorem ggX1_init_X5_put : GoodIn wsX1_init wsX5_put := goodIn_r _ [12] (by decide +kernel) (by decide +kernel)
set_option maxRecDepth 20000 in
theorem gX1_init_X5_put_n24 : GoodIn wsX1_init (wsX5_put) := ggX1_init_X5_put
theorem dX1_init_0 : decode cX1_init 0 = .ok (.aload_n 0, 1) := by decide +kernel
theorem dX1_init_1 : decode cX1_init 1 = .ok (.invokespecial 3, 3) := by decide +kernel
theorem dX1_init_4 : decode cX1_init 4 = .ok (.aload_n 0, 1) := by decide +kernel
theorem dX1_init_5 : decode cX1_init 5 = .ok (.bipush 65, 2) := by decide +kernel
theorem dX1_init_7 : decode cX1_init 7 = .ok (.newarray .int, 2) := by decide +kernel
theorem dX1_init_9 : decode cX1_init 9 = .ok (.putfield 9, 3) := by decide +kernel
theorem dX1_init_12 : decode cX1_init 12 = .ok (.aload_n 0, 1) := by decide +kernel
theorem dX1_init_13 : decode cX1_init 13 = .ok (.bipush 65, 2) := by decide +kernel
theorem dX1_init_15 : decode cX1_init 15 = .ok (.newarray .int, 2) := by decide +kernel
theorem dX1_init_17 : decode cX1_init 17 = .ok (.putfield 15, 3) := by decide +kernel
theorem dX1_init_20 : decode cX1_init 20 = .ok (.aload_n 0, 1) := by decide +kernel
theorem dX1_init_21 : decode cX1_init 21 = .ok (.bipush 65, 2) := by decide +kernel
theorem dX1_init_23 : decode cX1_init 23 = .ok (.newarray .int, 2) := by decide +kernel
theorem dX1_init_25 : decode cX1_init 25 = .ok (.putfield 18, 3) := by decide +kernel
theorem dX1_init_28 : decode cX1_init 28 = .ok (.aload_n 0, 1) := by decide +kernel
theorem dX1_init_29 : decode cX1_init 29 = .ok (.sipush 260, 3) := by decide +kernel
theorem dX1_init_32 : decode cX1_init 32 = .ok (.newarray .int, 2) := by decide +kernel
theorem dX1_init_34 : decode cX1_init 34 = .ok (.putfield 21, 3) := by decide +kernel
theorem dX1_init_37 : decode cX1_init 37 = .ok (.aload_n 0, 1) := by decide +kernel
theorem dX1_init_38 : decode cX1_init 38 = .ok (.getfield 9, 3) := by decide +kernel
theorem dX1_init_41 : decode cX1_init 41 = .ok (.iconst 0, 1) := by decide +kernel
theorem dX1_init_42 : decode cX1_init 42 = .ok (.iconst 1, 1) := by decide +kernel
theorem dX1_init_43 : decode cX1_init 43 = .ok (.invokestatic 24, 3) := by decide +kernel
theorem dX1_init_46 : decode cX1_init 46 = .ok (.aload_n 0, 1) := by decide +kernel
theorem dX1_init_47 : decode cX1_init 47 = .ok (.getfield 15, 3) := by decide +kernel
theorem dX1_init_50 : decode cX1_init 50 = .ok (.iconst 0, 1) := by decide +kernel
theorem dX1_init_51 : decode cX1_init 51 = .ok (.iconst (-1), 1) := by decide +kernel
theorem dX1_init_52 : decode cX1_init 52 = .ok (.invokestatic 24, 3) := by decide +kernel
theorem dX1_init_55 : decode cX1_init 55 = .ok (.aload_n 0, 1) := by decide +kernel
theorem dX1_init_56 : decode cX1_init 56 = .ok (.iconst 1, 1) := by decide +kernel
theorem dX1_init_57 : decode cX1_init 57 = .ok (.putfield 28, 3) := by decide +kernel
theorem dX1_init_60 : decode cX1_init 60 = .ok (.return_, 1) := by decide +kernel
set_option maxRecDepth 20000 in
theorem ggX1_rebuild_X1_takeState : GoodIn wsX1_rebuild wsX1_takeState := goodIn_r _ [7, 1, 8, 9, 10, 11, 12, 13, 43, 44, 45, 46, 47] (by decide +kernel) (by decide +kernel)
set_option maxRecDepth 20000 in
theorem gX1_rebuild_X1_takeState : GoodIn wsX1_rebuild (wsV RX1 32 RX1 yX1_takeState wsX1_takeState) := goodIn_app (goodIn_of _ (by decide +kernel)) ggX1_rebuild_X1_takeState
set_option maxRecDepth 20000 in
theorem ggX1_rebuild_X5_at : GoodIn wsX1_rebuild wsX5_at := goodIn_r _ [11] (by decide +kernel) (by decide +kernel)
set_option maxRecDepth 20000 in
theorem gX1_rebuild_X5_at_n36 : GoodIn wsX1_rebuild (wsX5_at) := ggX1_rebuild_X5_at
set_option maxRecDepth 20000 in
theorem ggX1_rebuild_X3_lengthOf : GoodIn wsX1_rebuild wsX3_lengthOf := goodIn_r _ [17] (by decide +kernel) (by decide +kernel)
set_option maxRecDepth 20000 in
theorem gX1_rebuild_X3_lengthOf : GoodIn wsX1_rebuild (va_wsS RX1 40 yX3_lengthOf wsX3_lengthOf) := goodIn_app (goodIn_of _ (by decide +kernel)) ggX1_rebuild_X3_lengthOf
set_option maxRecDepth 20000 in
theorem ggX1_rebuild_X3_beginning : GoodIn wsX1_rebuild wsX3_beginning := goodIn_r _ [20, 21, 15, 16, 17] (by decide +kernel) (by decide +kernel)
set_option maxRecDepth 20000 in
theorem gX1_rebuild_X3_beginning : GoodIn wsX1_rebuild (va_wsS RX1 46 yX3_beginning wsX3_beginning) := goodIn_app (goodIn_of _ (by decide +kernel)) ggX1_rebuild_X3_beginning
set_option maxRecDepth 20000 in
theorem ggX1_rebuild_X1_leadToLongerStates : GoodIn wsX1_rebuild wsX1_leadToLongerStates := goodIn_r _ [25, 26, 1, 8, 9, 10, 11, 27, 28, 16, 29, 12, 13, 43, 44, 45, 46, 47] (by decide +kernel) (by decide +kernel)
set_option maxRecDepth 20000 in
theorem gX1_rebuild_X1_leadToLongerStates : GoodIn wsX1_rebuild (wsV RX1 50 RX1 yX1_leadToLongerStates wsX1_leadToLongerStates) := goodIn_app (goodIn_of _ (by decide +kernel)) ggX1_rebuild_X1_leadToLongerStates
set_option maxRecDepth 20000 in
theorem ggX1_rebuild_X1_fallBack : GoodIn wsX1_rebuild wsX1_fallBack := goodIn_r _ [33, 34, 1, 26, 12, 10, 13, 35, 36, 37, 6, 38, 9, 11, 43, 44, 45, 46, 47] (by decide +kernel) (by decide +kernel)
set_option maxRecDepth 20000 in
theorem gX1_rebuild_X1_fallBack : GoodIn wsX1_rebuild (wsV RX1 53 RX1 yX1_fallBack wsX1_fallBack) := goodIn_app (goodIn_of _ (by decide +kernel)) ggX1_rebuild_X1_fallBack
set_option maxRecDepth 20000 in
theorem ggX1_rebuild_X1_endsOf : GoodIn wsX1_rebuild wsX1_endsOf := goodIn_r _ [42, 2, 34, 8, 9, 10, 11, 43, 44, 45, 46, 47] (by decide +kernel) (by decide +kernel)
set_option maxRecDepth 20000 in
theorem gX1_rebuild_X1_endsOf : GoodIn wsX1_rebuild (wsV RX1 56 RX1 yX1_endsOf wsX1_endsOf) := goodIn_app (goodIn_of _ (by decide +kernel)) ggX1_rebuild_X1_endsOf
set_option maxRecDepth 20000 in
theorem ggX1_rebuild_X5_put : GoodIn wsX1_rebuild wsX5_put := goodIn_r _ [13] (by decide +kernel) (by decide +kernel)
set_option maxRecDepth 20000 in
theorem gX1_rebuild_X5_put_n24 : GoodIn wsX1_rebuild (wsX5_put) := ggX1_rebuild_X5_put
theorem dX1_rebuild_0 : decode cX1_rebuild 0 = .ok (.aload_n 0, 1) := by decide +kernel
theorem dX1_rebuild_1 : decode cX1_rebuild 1 = .ok (.iconst 0, 1) := by decide +kernel
theorem dX1_rebuild_2 : decode cX1_rebuild 2 = .ok (.putfield 28, 3) := by decide +kernel
theorem dX1_rebuild_5 : decode cX1_rebuild 5 = .ok (.aload_n 0, 1) := by decide +kernel
theorem dX1_rebuild_6 : decode cX1_rebuild 6 = .ok (.iconst 1, 1) := by decide +kernel
theorem dX1_rebuild_7 : decode cX1_rebuild 7 = .ok (.invokevirtual 32, 3) := by decide +kernel
theorem dX1_rebuild_10 : decode cX1_rebuild 10 = .ok (.iconst 0, 1) := by decide +kernel
theorem dX1_rebuild_11 : decode cX1_rebuild 11 = .ok (.istore_n 2, 1) := by decide +kernel
theorem dX1_rebuild_12 : decode cX1_rebuild 12 = .ok (.iload_n 2, 1) := by decide +kernel
theorem dX1_rebuild_13 : decode cX1_rebuild 13 = .ok (.bipush 8, 2) := by decide +kernel
theorem dX1_rebuild_15 : decode cX1_rebuild 15 = .ok (.if_icmp .ge 47, 3) := by decide +kernel
theorem dX1_rebuild_18 : decode cX1_rebuild 18 = .ok (.aload_n 1, 1) := by decide +kernel
theorem dX1_rebuild_19 : decode cX1_rebuild 19 = .ok (.iload_n 2, 1) := by decide +kernel
theorem dX1_rebuild_20 : decode cX1_rebuild 20 = .ok (.invokestatic 36, 3) := by decide +kernel
theorem dX1_rebuild_23 : decode cX1_rebuild 23 = .ok (.istore_n 3, 1) := by decide +kernel
theorem dX1_rebuild_24 : decode cX1_rebuild 24 = .ok (.iload_n 3, 1) := by decide +kernel
theorem dX1_rebuild_25 : decode cX1_rebuild 25 = .ok (.invokestatic 40, 3) := by decide +kernel
theorem dX1_rebuild_28 : decode cX1_rebuild 28 = .ok (.istore 4, 2) := by decide +kernel
theorem dX1_rebuild_30 : decode cX1_rebuild 30 = .ok (.iconst 1, 1) := by decide +kernel
theorem dX1_rebuild_31 : decode cX1_rebuild 31 = .ok (.istore 5, 2) := by decide +kernel
theorem dX1_rebuild_33 : decode cX1_rebuild 33 = .ok (.iload 5, 2) := by decide +kernel
theorem dX1_rebuild_35 : decode cX1_rebuild 35 = .ok (.iload 4, 2) := by decide +kernel
theorem dX1_rebuild_37 : decode cX1_rebuild 37 = .ok (.if_icmp .gt 19, 3) := by decide +kernel
theorem dX1_rebuild_40 : decode cX1_rebuild 40 = .ok (.aload_n 0, 1) := by decide +kernel
theorem dX1_rebuild_41 : decode cX1_rebuild 41 = .ok (.iload_n 3, 1) := by decide +kernel
theorem dX1_rebuild_42 : decode cX1_rebuild 42 = .ok (.iload 5, 2) := by decide +kernel
theorem dX1_rebuild_44 : decode cX1_rebuild 44 = .ok (.invokestatic 46, 3) := by decide +kernel
theorem dX1_rebuild_47 : decode cX1_rebuild 47 = .ok (.invokevirtual 32, 3) := by decide +kernel
theorem dX1_rebuild_50 : decode cX1_rebuild 50 = .ok (.iinc 5 1, 3) := by decide +kernel
theorem dX1_rebuild_53 : decode cX1_rebuild 53 = .ok (.goto (-20), 3) := by decide +kernel
theorem dX1_rebuild_56 : decode cX1_rebuild 56 = .ok (.iinc 2 1, 3) := by decide +kernel
theorem dX1_rebuild_59 : decode cX1_rebuild 59 = .ok (.goto (-47), 3) := by decide +kernel
theorem dX1_rebuild_62 : decode cX1_rebuild 62 = .ok (.aload_n 0, 1) := by decide +kernel
theorem dX1_rebuild_63 : decode cX1_rebuild 63 = .ok (.invokevirtual 50, 3) := by decide +kernel
theorem dX1_rebuild_66 : decode cX1_rebuild 66 = .ok (.aload_n 0, 1) := by decide +kernel
theorem dX1_rebuild_67 : decode cX1_rebuild 67 = .ok (.invokevirtual 53, 3) := by decide +kernel
theorem dX1_rebuild_70 : decode cX1_rebuild 70 = .ok (.iconst 0, 1) := by decide +kernel
theorem dX1_rebuild_71 : decode cX1_rebuild 71 = .ok (.istore_n 2, 1) := by decide +kernel
theorem dX1_rebuild_72 : decode cX1_rebuild 72 = .ok (.iload_n 2, 1) := by decide +kernel
theorem dX1_rebuild_73 : decode cX1_rebuild 73 = .ok (.aload_n 0, 1) := by decide +kernel
theorem dX1_rebuild_74 : decode cX1_rebuild 74 = .ok (.getfield 28, 3) := by decide +kernel
theorem dX1_rebuild_77 : decode cX1_rebuild 77 = .ok (.if_icmp .ge 23, 3) := by decide +kernel
theorem dX1_rebuild_80 : decode cX1_rebuild 80 = .ok (.aload_n 0, 1) := by decide +kernel
theorem dX1_rebuild_81 : decode cX1_rebuild 81 = .ok (.getfield 18, 3) := by decide +kernel
theorem dX1_rebuild_84 : decode cX1_rebuild 84 = .ok (.iload_n 2, 1) := by decide +kernel
theorem dX1_rebuild_85 : decode cX1_rebuild 85 = .ok (.aload_n 0, 1) := by decide +kernel
theorem dX1_rebuild_86 : decode cX1_rebuild 86 = .ok (.iload_n 2, 1) := by decide +kernel
theorem dX1_rebuild_87 : decode cX1_rebuild 87 = .ok (.aload_n 1, 1) := by decide +kernel
theorem dX1_rebuild_88 : decode cX1_rebuild 88 = .ok (.invokevirtual 56, 3) := by decide +kernel
theorem dX1_rebuild_91 : decode cX1_rebuild 91 = .ok (.invokestatic 24, 3) := by decide +kernel
theorem dX1_rebuild_94 : decode cX1_rebuild 94 = .ok (.iinc 2 1, 3) := by decide +kernel
theorem dX1_rebuild_97 : decode cX1_rebuild 97 = .ok (.goto (-25), 3) := by decide +kernel
theorem dX1_rebuild_100 : decode cX1_rebuild 100 = .ok (.return_, 1) := by decide +kernel
set_option maxRecDepth 20000 in
theorem ggX1_leadsTo_X5_at : GoodIn wsX1_leadsTo wsX5_at := goodIn_r _ [4] (by decide +kernel) (by decide +kernel)
set_option maxRecDepth 20000 in
theorem gX1_leadsTo_X5_at_n36 : GoodIn wsX1_leadsTo (wsX5_at) := ggX1_leadsTo_X5_at
theorem dX1_leadsTo_0 : decode cX1_leadsTo 0 = .ok (.aload_n 0, 1) := by decide +kernel
theorem dX1_leadsTo_1 : decode cX1_leadsTo 1 = .ok (.getfield 21, 3) := by decide +kernel
theorem dX1_leadsTo_4 : decode cX1_leadsTo 4 = .ok (.iload_n 1, 1) := by decide +kernel
theorem dX1_leadsTo_5 : decode cX1_leadsTo 5 = .ok (.iconst 4, 1) := by decide +kernel
theorem dX1_leadsTo_6 : decode cX1_leadsTo 6 = .ok (.imul, 1) := by decide +kernel
theorem dX1_leadsTo_7 : decode cX1_leadsTo 7 = .ok (.iload_n 2, 1) := by decide +kernel
theorem dX1_leadsTo_8 : decode cX1_leadsTo 8 = .ok (.iadd, 1) := by decide +kernel
theorem dX1_leadsTo_9 : decode cX1_leadsTo 9 = .ok (.invokestatic 36, 3) := by decide +kernel
theorem dX1_leadsTo_12 : decode cX1_leadsTo 12 = .ok (.ireturn, 1) := by decide +kernel
set_option maxRecDepth 20000 in
theorem ggX1_stateBehind_X3_lengthOf : GoodIn wsX1_stateBehind wsX3_lengthOf := goodIn_r _ [4] (by decide +kernel) (by decide +kernel)
set_option maxRecDepth 20000 in
theorem gX1_stateBehind_X3_lengthOf : GoodIn wsX1_stateBehind (va_wsS RX1 40 yX3_lengthOf wsX3_lengthOf) := goodIn_app (goodIn_of _ (by decide +kernel)) ggX1_stateBehind_X3_lengthOf
set_option maxRecDepth 20000 in
theorem ggX1_stateBehind_X3_letterAt : GoodIn wsX1_stateBehind wsX3_letterAt := goodIn_r _ [7, 8, 2, 3, 4, 9, 10, 11] (by decide +kernel) (by decide +kernel)
set_option maxRecDepth 20000 in
theorem gX1_stateBehind_X3_letterAt : GoodIn wsX1_stateBehind (va_wsS RX1 60 yX3_letterAt wsX3_letterAt) := goodIn_app (goodIn_of _ (by decide +kernel)) ggX1_stateBehind_X3_letterAt
set_option maxRecDepth 20000 in
theorem ggX1_stateBehind_X1_leadsTo : GoodIn wsX1_stateBehind wsX1_leadsTo := goodIn_r _ [16, 17, 18, 19, 20, 21, 22, 23, 24, 25] (by decide +kernel) (by decide +kernel)
set_option maxRecDepth 20000 in
theorem gX1_stateBehind_X1_leadsTo : GoodIn wsX1_stateBehind (wsV RX1 63 RX1 yX1_leadsTo wsX1_leadsTo) := goodIn_app (goodIn_of _ (by decide +kernel)) ggX1_stateBehind_X1_leadsTo
theorem dX1_stateBehind_0 : decode cX1_stateBehind 0 = .ok (.iconst 0, 1) := by decide +kernel
theorem dX1_stateBehind_1 : decode cX1_stateBehind 1 = .ok (.istore_n 2, 1) := by decide +kernel
theorem dX1_stateBehind_2 : decode cX1_stateBehind 2 = .ok (.iload_n 1, 1) := by decide +kernel
theorem dX1_stateBehind_3 : decode cX1_stateBehind 3 = .ok (.invokestatic 40, 3) := by decide +kernel
theorem dX1_stateBehind_6 : decode cX1_stateBehind 6 = .ok (.istore_n 3, 1) := by decide +kernel
theorem dX1_stateBehind_7 : decode cX1_stateBehind 7 = .ok (.iconst 0, 1) := by decide +kernel
theorem dX1_stateBehind_8 : decode cX1_stateBehind 8 = .ok (.istore 4, 2) := by decide +kernel
theorem dX1_stateBehind_10 : decode cX1_stateBehind 10 = .ok (.iload 4, 2) := by decide +kernel
theorem dX1_stateBehind_12 : decode cX1_stateBehind 12 = .ok (.iload_n 3, 1) := by decide +kernel
theorem dX1_stateBehind_13 : decode cX1_stateBehind 13 = .ok (.if_icmp .ge 21, 3) := by decide +kernel
theorem dX1_stateBehind_16 : decode cX1_stateBehind 16 = .ok (.aload_n 0, 1) := by decide +kernel
theorem dX1_stateBehind_17 : decode cX1_stateBehind 17 = .ok (.iload_n 2, 1) := by decide +kernel
theorem dX1_stateBehind_18 : decode cX1_stateBehind 18 = .ok (.iload_n 1, 1) := by decide +kernel
theorem dX1_stateBehind_19 : decode cX1_stateBehind 19 = .ok (.iload 4, 2) := by decide +kernel
theorem dX1_stateBehind_21 : decode cX1_stateBehind 21 = .ok (.invokestatic 60, 3) := by decide +kernel
theorem dX1_stateBehind_24 : decode cX1_stateBehind 24 = .ok (.invokevirtual 63, 3) := by decide +kernel
theorem dX1_stateBehind_27 : decode cX1_stateBehind 27 = .ok (.istore_n 2, 1) := by decide +kernel
theorem dX1_stateBehind_28 : decode cX1_stateBehind 28 = .ok (.iinc 4 1, 3) := by decide +kernel
theorem dX1_stateBehind_31 : decode cX1_stateBehind 31 = .ok (.goto (-21), 3) := by decide +kernel
theorem dX1_stateBehind_34 : decode cX1_stateBehind 34 = .ok (.iload_n 2, 1) := by decide +kernel
theorem dX1_stateBehind_35 : decode cX1_stateBehind 35 = .ok (.ireturn, 1) := by decide +kernel
set_option maxRecDepth 20000 in
theorem ggX1_fallsBefore_X1_goesOn : GoodIn wsX1_fallsBefore wsX1_goesOn := goodIn_r _ [6, 7, 8, 9, 10, 5, 11, 12, 13, 14, 15, 16, 17, 18, 19, 20, 21, 22, 23, 24] (by decide +kernel) (by decide +kernel)
set_option maxRecDepth 20000 in
theorem gX1_fallsBefore_X1_goesOn : GoodIn wsX1_fallsBefore (wsV RX1 66 RX1 yX1_goesOn wsX1_goesOn) := goodIn_app (goodIn_of _ (by decide +kernel)) ggX1_fallsBefore_X1_goesOn
set_option maxRecDepth 20000 in
theorem ggX1_fallsBefore_X5_at : GoodIn wsX1_fallsBefore wsX5_at := goodIn_r _ [15] (by decide +kernel) (by decide +kernel)
set_option maxRecDepth 20000 in
theorem gX1_fallsBefore_X5_at_n36 : GoodIn wsX1_fallsBefore (wsX5_at) := ggX1_fallsBefore_X5_at
theorem dX1_fallsBefore_0 : decode cX1_fallsBefore 0 = .ok (.iload_n 1, 1) := by decide +kernel
theorem dX1_fallsBefore_1 : decode cX1_fallsBefore 1 = .ok (.istore_n 3, 1) := by decide +kernel
theorem dX1_fallsBefore_2 : decode cX1_fallsBefore 2 = .ok (.iconst 0, 1) := by decide +kernel
theorem dX1_fallsBefore_3 : decode cX1_fallsBefore 3 = .ok (.istore 4, 2) := by decide +kernel
theorem dX1_fallsBefore_5 : decode cX1_fallsBefore 5 = .ok (.iload 4, 2) := by decide +kernel
theorem dX1_fallsBefore_7 : decode cX1_fallsBefore 7 = .ok (.bipush 8, 2) := by decide +kernel
theorem dX1_fallsBefore_9 : decode cX1_fallsBefore 9 = .ok (.if_icmp .gt 39, 3) := by decide +kernel
theorem dX1_fallsBefore_12 : decode cX1_fallsBefore 12 = .ok (.aload_n 0, 1) := by decide +kernel
theorem dX1_fallsBefore_13 : decode cX1_fallsBefore 13 = .ok (.iload_n 3, 1) := by decide +kernel
theorem dX1_fallsBefore_14 : decode cX1_fallsBefore 14 = .ok (.iload_n 2, 1) := by decide +kernel
theorem dX1_fallsBefore_15 : decode cX1_fallsBefore 15 = .ok (.invokevirtual 66, 3) := by decide +kernel
theorem dX1_fallsBefore_18 : decode cX1_fallsBefore 18 = .ok (.ifCond .eq 6, 3) := by decide +kernel
theorem dX1_fallsBefore_21 : decode cX1_fallsBefore 21 = .ok (.iload 4, 2) := by decide +kernel
theorem dX1_fallsBefore_23 : decode cX1_fallsBefore 23 = .ok (.ireturn, 1) := by decide +kernel
theorem dX1_fallsBefore_24 : decode cX1_fallsBefore 24 = .ok (.iload_n 3, 1) := by decide +kernel
theorem dX1_fallsBefore_25 : decode cX1_fallsBefore 25 = .ok (.ifCond .ne 8, 3) := by decide +kernel
theorem dX1_fallsBefore_28 : decode cX1_fallsBefore 28 = .ok (.iload 4, 2) := by decide +kernel
theorem dX1_fallsBefore_30 : decode cX1_fallsBefore 30 = .ok (.iconst 1, 1) := by decide +kernel
theorem dX1_fallsBefore_31 : decode cX1_fallsBefore 31 = .ok (.iadd, 1) := by decide +kernel
theorem dX1_fallsBefore_32 : decode cX1_fallsBefore 32 = .ok (.ireturn, 1) := by decide +kernel
theorem dX1_fallsBefore_33 : decode cX1_fallsBefore 33 = .ok (.aload_n 0, 1) := by decide +kernel
theorem dX1_fallsBefore_34 : decode cX1_fallsBefore 34 = .ok (.getfield 15, 3) := by decide +kernel
theorem dX1_fallsBefore_37 : decode cX1_fallsBefore 37 = .ok (.iload_n 3, 1) := by decide +kernel
theorem dX1_fallsBefore_38 : decode cX1_fallsBefore 38 = .ok (.invokestatic 36, 3) := by decide +kernel
theorem dX1_fallsBefore_41 : decode cX1_fallsBefore 41 = .ok (.istore_n 3, 1) := by decide +kernel
theorem dX1_fallsBefore_42 : decode cX1_fallsBefore 42 = .ok (.iinc 4 1, 3) := by decide +kernel
theorem dX1_fallsBefore_45 : decode cX1_fallsBefore 45 = .ok (.goto (-40), 3) := by decide +kernel
theorem dX1_fallsBefore_48 : decode cX1_fallsBefore 48 = .ok (.bipush 9, 2) := by decide +kernel
theorem dX1_fallsBefore_50 : decode cX1_fallsBefore 50 = .ok (.ireturn, 1) := by decide +kernel
set_option maxRecDepth 20000 in
theorem ggX1_goesOn_X1_leadsTo : GoodIn wsX1_goesOn wsX1_leadsTo := goodIn_r _ [6, 7, 8, 9, 10, 15, 16, 17, 18, 19] (by decide +kernel) (by decide +kernel)
set_option maxRecDepth 20000 in
theorem gX1_goesOn_X1_leadsTo : GoodIn wsX1_goesOn (wsV RX1 63 RX1 yX1_leadsTo wsX1_leadsTo) := goodIn_app (goodIn_of _ (by decide +kernel)) ggX1_goesOn_X1_leadsTo
set_option maxRecDepth 20000 in
theorem ggX1_goesOn_X5_at : GoodIn wsX1_goesOn wsX5_at := goodIn_r _ [10] (by decide +kernel) (by decide +kernel)
set_option maxRecDepth 20000 in
theorem gX1_goesOn_X5_at_n36 : GoodIn wsX1_goesOn (wsX5_at) := ggX1_goesOn_X5_at
set_option maxRecDepth 20000 in
theorem ggX1_goesOn_X3_behind : GoodIn wsX1_goesOn wsX3_behind := goodIn_r _ [14] (by decide +kernel) (by decide +kernel)
set_option maxRecDepth 20000 in
theorem gX1_goesOn_X3_behind : GoodIn wsX1_goesOn (va_wsS RX1 70 yX3_behind wsX3_behind) := goodIn_app (goodIn_of _ (by decide +kernel)) ggX1_goesOn_X3_behind
theorem dX1_goesOn_0 : decode cX1_goesOn 0 = .ok (.aload_n 0, 1) := by decide +kernel
theorem dX1_goesOn_1 : decode cX1_goesOn 1 = .ok (.getfield 9, 3) := by decide +kernel
theorem dX1_goesOn_4 : decode cX1_goesOn 4 = .ok (.aload_n 0, 1) := by decide +kernel
theorem dX1_goesOn_5 : decode cX1_goesOn 5 = .ok (.iload_n 1, 1) := by decide +kernel
theorem dX1_goesOn_6 : decode cX1_goesOn 6 = .ok (.iload_n 2, 1) := by decide +kernel
theorem dX1_goesOn_7 : decode cX1_goesOn 7 = .ok (.invokevirtual 63, 3) := by decide +kernel
theorem dX1_goesOn_10 : decode cX1_goesOn 10 = .ok (.invokestatic 36, 3) := by decide +kernel
theorem dX1_goesOn_13 : decode cX1_goesOn 13 = .ok (.aload_n 0, 1) := by decide +kernel
theorem dX1_goesOn_14 : decode cX1_goesOn 14 = .ok (.getfield 9, 3) := by decide +kernel
theorem dX1_goesOn_17 : decode cX1_goesOn 17 = .ok (.iload_n 1, 1) := by decide +kernel
theorem dX1_goesOn_18 : decode cX1_goesOn 18 = .ok (.invokestatic 36, 3) := by decide +kernel
theorem dX1_goesOn_21 : decode cX1_goesOn 21 = .ok (.iload_n 2, 1) := by decide +kernel
theorem dX1_goesOn_22 : decode cX1_goesOn 22 = .ok (.invokestatic 70, 3) := by decide +kernel
theorem dX1_goesOn_25 : decode cX1_goesOn 25 = .ok (.if_icmp .ne 7, 3) := by decide +kernel
theorem dX1_goesOn_28 : decode cX1_goesOn 28 = .ok (.iconst 1, 1) := by decide +kernel
theorem dX1_goesOn_29 : decode cX1_goesOn 29 = .ok (.goto 4, 3) := by decide +kernel
theorem dX1_goesOn_32 : decode cX1_goesOn 32 = .ok (.iconst 0, 1) := by decide +kernel
theorem dX1_goesOn_33 : decode cX1_goesOn 33 = .ok (.ireturn, 1) := by decide +kernel
set_option maxRecDepth 20000 in
theorem ggX1_takeState_X5_at : GoodIn wsX1_takeState wsX5_at := goodIn_r _ [5] (by decide +kernel) (by decide +kernel)
set_option maxRecDepth 20000 in
theorem gX1_takeState_X5_at_n36 : GoodIn wsX1_takeState (wsX5_at) := ggX1_takeState_X5_at
set_option maxRecDepth 20000 in
theorem ggX1_takeState_X5_put : GoodIn wsX1_takeState wsX5_put := goodIn_r _ [7] (by decide +kernel) (by decide +kernel)
set_option maxRecDepth 20000 in
theorem gX1_takeState_X5_put_n24 : GoodIn wsX1_takeState (wsX5_put) := ggX1_takeState_X5_put
theorem dX1_takeState_0 : decode cX1_takeState 0 = .ok (.aload_n 0, 1) := by decide +kernel
theorem dX1_takeState_1 : decode cX1_takeState 1 = .ok (.getfield 28, 3) := by decide +kernel
theorem dX1_takeState_4 : decode cX1_takeState 4 = .ok (.istore_n 2, 1) := by decide +kernel
theorem dX1_takeState_5 : decode cX1_takeState 5 = .ok (.iload_n 2, 1) := by decide +kernel
theorem dX1_takeState_6 : decode cX1_takeState 6 = .ok (.ifCond .le 23, 3) := by decide +kernel
theorem dX1_takeState_9 : decode cX1_takeState 9 = .ok (.aload_n 0, 1) := by decide +kernel
theorem dX1_takeState_10 : decode cX1_takeState 10 = .ok (.getfield 9, 3) := by decide +kernel
theorem dX1_takeState_13 : decode cX1_takeState 13 = .ok (.iload_n 2, 1) := by decide +kernel
theorem dX1_takeState_14 : decode cX1_takeState 14 = .ok (.iconst 1, 1) := by decide +kernel
theorem dX1_takeState_15 : decode cX1_takeState 15 = .ok (.isub, 1) := by decide +kernel
theorem dX1_takeState_16 : decode cX1_takeState 16 = .ok (.invokestatic 36, 3) := by decide +kernel
theorem dX1_takeState_19 : decode cX1_takeState 19 = .ok (.iload_n 1, 1) := by decide +kernel
theorem dX1_takeState_20 : decode cX1_takeState 20 = .ok (.if_icmp .lt 9, 3) := by decide +kernel
theorem dX1_takeState_23 : decode cX1_takeState 23 = .ok (.iinc 2 (-1), 3) := by decide +kernel
theorem dX1_takeState_26 : decode cX1_takeState 26 = .ok (.goto (-21), 3) := by decide +kernel
theorem dX1_takeState_29 : decode cX1_takeState 29 = .ok (.iload_n 2, 1) := by decide +kernel
theorem dX1_takeState_30 : decode cX1_takeState 30 = .ok (.aload_n 0, 1) := by decide +kernel
theorem dX1_takeState_31 : decode cX1_takeState 31 = .ok (.getfield 28, 3) := by decide +kernel
theorem dX1_takeState_34 : decode cX1_takeState 34 = .ok (.if_icmp .ge 16, 3) := by decide +kernel
theorem dX1_takeState_37 : decode cX1_takeState 37 = .ok (.aload_n 0, 1) := by decide +kernel
theorem dX1_takeState_38 : decode cX1_takeState 38 = .ok (.getfield 9, 3) := by decide +kernel
theorem dX1_takeState_41 : decode cX1_takeState 41 = .ok (.iload_n 2, 1) := by decide +kernel
theorem dX1_takeState_42 : decode cX1_takeState 42 = .ok (.invokestatic 36, 3) := by decide +kernel
theorem dX1_takeState_45 : decode cX1_takeState 45 = .ok (.iload_n 1, 1) := by decide +kernel
theorem dX1_takeState_46 : decode cX1_takeState 46 = .ok (.if_icmp .ne 4, 3) := by decide +kernel
theorem dX1_takeState_49 : decode cX1_takeState 49 = .ok (.return_, 1) := by decide +kernel
theorem dX1_takeState_50 : decode cX1_takeState 50 = .ok (.aload_n 0, 1) := by decide +kernel
theorem dX1_takeState_51 : decode cX1_takeState 51 = .ok (.getfield 28, 3) := by decide +kernel
theorem dX1_takeState_54 : decode cX1_takeState 54 = .ok (.istore_n 3, 1) := by decide +kernel
theorem dX1_takeState_55 : decode cX1_takeState 55 = .ok (.iload_n 3, 1) := by decide +kernel
theorem dX1_takeState_56 : decode cX1_takeState 56 = .ok (.iload_n 2, 1) := by decide +kernel
theorem dX1_takeState_57 : decode cX1_takeState 57 = .ok (.if_icmp .le 27, 3) := by decide +kernel
theorem dX1_takeState_60 : decode cX1_takeState 60 = .ok (.aload_n 0, 1) := by decide +kernel
theorem dX1_takeState_61 : decode cX1_takeState 61 = .ok (.getfield 9, 3) := by decide +kernel
theorem dX1_takeState_64 : decode cX1_takeState 64 = .ok (.iload_n 3, 1) := by decide +kernel
theorem dX1_takeState_65 : decode cX1_takeState 65 = .ok (.aload_n 0, 1) := by decide +kernel
theorem dX1_takeState_66 : decode cX1_takeState 66 = .ok (.getfield 9, 3) := by decide +kernel
theorem dX1_takeState_69 : decode cX1_takeState 69 = .ok (.iload_n 3, 1) := by decide +kernel
theorem dX1_takeState_70 : decode cX1_takeState 70 = .ok (.iconst 1, 1) := by decide +kernel
theorem dX1_takeState_71 : decode cX1_takeState 71 = .ok (.isub, 1) := by decide +kernel
theorem dX1_takeState_72 : decode cX1_takeState 72 = .ok (.invokestatic 36, 3) := by decide +kernel
theorem dX1_takeState_75 : decode cX1_takeState 75 = .ok (.invokestatic 24, 3) := by decide +kernel
theorem dX1_takeState_78 : decode cX1_takeState 78 = .ok (.iinc 3 (-1), 3) := by decide +kernel
theorem dX1_takeState_81 : decode cX1_takeState 81 = .ok (.goto (-26), 3) := by decide +kernel
theorem dX1_takeState_84 : decode cX1_takeState 84 = .ok (.aload_n 0, 1) := by decide +kernel
theorem dX1_takeState_85 : decode cX1_takeState 85 = .ok (.getfield 9, 3) := by decide +kernel
theorem dX1_takeState_88 : decode cX1_takeState 88 = .ok (.iload_n 2, 1) := by decide +kernel
theorem dX1_takeState_89 : decode cX1_takeState 89 = .ok (.iload_n 1, 1) := by decide +kernel
theorem dX1_takeState_90 : decode cX1_takeState 90 = .ok (.invokestatic 24, 3) := by decide +kernel
theorem dX1_takeState_93 : decode cX1_takeState 93 = .ok (.aload_n 0, 1) := by decide +kernel
theorem dX1_takeState_94 : decode cX1_takeState 94 = .ok (.dup, 1) := by decide +kernel
theorem dX1_takeState_95 : decode cX1_takeState 95 = .ok (.getfield 28, 3) := by decide +kernel
theorem dX1_takeState_98 : decode cX1_takeState 98 = .ok (.iconst 1, 1) := by decide +kernel
theorem dX1_takeState_99 : decode cX1_takeState 99 = .ok (.iadd, 1) := by decide +kernel
theorem dX1_takeState_100 : decode cX1_takeState 100 = .ok (.putfield 28, 3) := by decide +kernel
theorem dX1_takeState_103 : decode cX1_takeState 103 = .ok (.return_, 1) := by decide +kernel
set_option maxRecDepth 20000 in
theorem ggX1_leadToLongerStates_X5_at : GoodIn wsX1_leadToLongerStates wsX5_at := goodIn_r _ [6] (by decide +kernel) (by decide +kernel)
set_option maxRecDepth 20000 in
theorem gX1_leadToLongerStates_X5_at_n36 : GoodIn wsX1_leadToLongerStates (wsX5_at) := ggX1_leadToLongerStates_X5_at
set_option maxRecDepth 20000 in
theorem ggX1_leadToLongerStates_X3_lastLetter : GoodIn wsX1_leadToLongerStates wsX3_lastLetter := goodIn_r _ [10] (by decide +kernel) (by decide +kernel)
set_option maxRecDepth 20000 in
theorem gX1_leadToLongerStates_X3_lastLetter : GoodIn wsX1_leadToLongerStates (va_wsS RX1 73 yX3_lastLetter wsX3_lastLetter) := goodIn_app (goodIn_of _ (by decide +kernel)) ggX1_leadToLongerStates_X3_lastLetter
set_option maxRecDepth 20000 in
theorem ggX1_leadToLongerStates_X5_put : GoodIn wsX1_leadToLongerStates wsX5_put := goodIn_r _ [12] (by decide +kernel) (by decide +kernel)
set_option maxRecDepth 20000 in
theorem gX1_leadToLongerStates_X5_put_n24 : GoodIn wsX1_leadToLongerStates (wsX5_put) := ggX1_leadToLongerStates_X5_put
theorem dX1_leadToLongerStates_0 : decode cX1_leadToLongerStates 0 = .ok (.iconst 0, 1) := by decide +kernel
theorem dX1_leadToLongerStates_1 : decode cX1_leadToLongerStates 1 = .ok (.istore_n 1, 1) := by decide +kernel
theorem dX1_leadToLongerStates_2 : decode cX1_leadToLongerStates 2 = .ok (.iload_n 1, 1) := by decide +kernel
theorem dX1_leadToLongerStates_3 : decode cX1_leadToLongerStates 3 = .ok (.aload_n 0, 1) := by decide +kernel
theorem dX1_leadToLongerStates_4 : decode cX1_leadToLongerStates 4 = .ok (.getfield 21, 3) := by decide +kernel
theorem dX1_leadToLongerStates_7 : decode cX1_leadToLongerStates 7 = .ok (.arraylength, 1) := by decide +kernel
theorem dX1_leadToLongerStates_8 : decode cX1_leadToLongerStates 8 = .ok (.if_icmp .ge 16, 3) := by decide +kernel
theorem dX1_leadToLongerStates_11 : decode cX1_leadToLongerStates 11 = .ok (.aload_n 0, 1) := by decide +kernel
theorem dX1_leadToLongerStates_12 : decode cX1_leadToLongerStates 12 = .ok (.getfield 21, 3) := by decide +kernel
theorem dX1_leadToLongerStates_15 : decode cX1_leadToLongerStates 15 = .ok (.iload_n 1, 1) := by decide +kernel
theorem dX1_leadToLongerStates_16 : decode cX1_leadToLongerStates 16 = .ok (.iconst 0, 1) := by decide +kernel
theorem dX1_leadToLongerStates_17 : decode cX1_leadToLongerStates 17 = .ok (.iastore, 1) := by decide +kernel
theorem dX1_leadToLongerStates_18 : decode cX1_leadToLongerStates 18 = .ok (.iinc 1 1, 3) := by decide +kernel
theorem dX1_leadToLongerStates_21 : decode cX1_leadToLongerStates 21 = .ok (.goto (-19), 3) := by decide +kernel
theorem dX1_leadToLongerStates_24 : decode cX1_leadToLongerStates 24 = .ok (.iconst 0, 1) := by decide +kernel
theorem dX1_leadToLongerStates_25 : decode cX1_leadToLongerStates 25 = .ok (.istore_n 1, 1) := by decide +kernel
theorem dX1_leadToLongerStates_26 : decode cX1_leadToLongerStates 26 = .ok (.iconst 1, 1) := by decide +kernel
theorem dX1_leadToLongerStates_27 : decode cX1_leadToLongerStates 27 = .ok (.istore_n 2, 1) := by decide +kernel
theorem dX1_leadToLongerStates_28 : decode cX1_leadToLongerStates 28 = .ok (.iload_n 2, 1) := by decide +kernel
theorem dX1_leadToLongerStates_29 : decode cX1_leadToLongerStates 29 = .ok (.aload_n 0, 1) := by decide +kernel
theorem dX1_leadToLongerStates_30 : decode cX1_leadToLongerStates 30 = .ok (.getfield 28, 3) := by decide +kernel
theorem dX1_leadToLongerStates_33 : decode cX1_leadToLongerStates 33 = .ok (.if_icmp .ge 59, 3) := by decide +kernel
theorem dX1_leadToLongerStates_36 : decode cX1_leadToLongerStates 36 = .ok (.aload_n 0, 1) := by decide +kernel
theorem dX1_leadToLongerStates_37 : decode cX1_leadToLongerStates 37 = .ok (.getfield 9, 3) := by decide +kernel
theorem dX1_leadToLongerStates_40 : decode cX1_leadToLongerStates 40 = .ok (.iload_n 2, 1) := by decide +kernel
theorem dX1_leadToLongerStates_41 : decode cX1_leadToLongerStates 41 = .ok (.invokestatic 36, 3) := by decide +kernel
theorem dX1_leadToLongerStates_44 : decode cX1_leadToLongerStates 44 = .ok (.istore_n 3, 1) := by decide +kernel
theorem dX1_leadToLongerStates_45 : decode cX1_leadToLongerStates 45 = .ok (.iload_n 1, 1) := by decide +kernel
theorem dX1_leadToLongerStates_46 : decode cX1_leadToLongerStates 46 = .ok (.iload_n 2, 1) := by decide +kernel
theorem dX1_leadToLongerStates_47 : decode cX1_leadToLongerStates 47 = .ok (.if_icmp .ge 23, 3) := by decide +kernel
theorem dX1_leadToLongerStates_50 : decode cX1_leadToLongerStates 50 = .ok (.aload_n 0, 1) := by decide +kernel
theorem dX1_leadToLongerStates_51 : decode cX1_leadToLongerStates 51 = .ok (.getfield 9, 3) := by decide +kernel
theorem dX1_leadToLongerStates_54 : decode cX1_leadToLongerStates 54 = .ok (.iload_n 1, 1) := by decide +kernel
theorem dX1_leadToLongerStates_55 : decode cX1_leadToLongerStates 55 = .ok (.invokestatic 36, 3) := by decide +kernel
theorem dX1_leadToLongerStates_58 : decode cX1_leadToLongerStates 58 = .ok (.iload_n 3, 1) := by decide +kernel
theorem dX1_leadToLongerStates_59 : decode cX1_leadToLongerStates 59 = .ok (.iconst 2, 1) := by decide +kernel
theorem dX1_leadToLongerStates_60 : decode cX1_leadToLongerStates 60 = .ok (.ishr, 1) := by decide +kernel
theorem dX1_leadToLongerStates_61 : decode cX1_leadToLongerStates 61 = .ok (.if_icmp .eq 9, 3) := by decide +kernel
theorem dX1_leadToLongerStates_64 : decode cX1_leadToLongerStates 64 = .ok (.iinc 1 1, 3) := by decide +kernel
theorem dX1_leadToLongerStates_67 : decode cX1_leadToLongerStates 67 = .ok (.goto (-22), 3) := by decide +kernel
theorem dX1_leadToLongerStates_70 : decode cX1_leadToLongerStates 70 = .ok (.aload_n 0, 1) := by decide +kernel
theorem dX1_leadToLongerStates_71 : decode cX1_leadToLongerStates 71 = .ok (.getfield 21, 3) := by decide +kernel
theorem dX1_leadToLongerStates_74 : decode cX1_leadToLongerStates 74 = .ok (.iload_n 1, 1) := by decide +kernel
theorem dX1_leadToLongerStates_75 : decode cX1_leadToLongerStates 75 = .ok (.iconst 4, 1) := by decide +kernel
theorem dX1_leadToLongerStates_76 : decode cX1_leadToLongerStates 76 = .ok (.imul, 1) := by decide +kernel
theorem dX1_leadToLongerStates_77 : decode cX1_leadToLongerStates 77 = .ok (.iload_n 3, 1) := by decide +kernel
theorem dX1_leadToLongerStates_78 : decode cX1_leadToLongerStates 78 = .ok (.invokestatic 73, 3) := by decide +kernel
theorem dX1_leadToLongerStates_81 : decode cX1_leadToLongerStates 81 = .ok (.iadd, 1) := by decide +kernel
theorem dX1_leadToLongerStates_82 : decode cX1_leadToLongerStates 82 = .ok (.iload_n 2, 1) := by decide +kernel
theorem dX1_leadToLongerStates_83 : decode cX1_leadToLongerStates 83 = .ok (.invokestatic 24, 3) := by decide +kernel
theorem dX1_leadToLongerStates_86 : decode cX1_leadToLongerStates 86 = .ok (.iinc 2 1, 3) := by decide +kernel
theorem dX1_leadToLongerStates_89 : decode cX1_leadToLongerStates 89 = .ok (.goto (-61), 3) := by decide +kernel
theorem dX1_leadToLongerStates_92 : decode cX1_leadToLongerStates 92 = .ok (.return_, 1) := by decide +kernel
set_option maxRecDepth 20000 in
theorem ggX1_fallBack_X5_put : GoodIn wsX1_fallBack wsX5_put := goodIn_r _ [6] (by decide +kernel) (by decide +kernel)
set_option maxRecDepth 20000 in
theorem gX1_fallBack_X5_put_n24 : GoodIn wsX1_fallBack (wsX5_put) := ggX1_fallBack_X5_put
set_option maxRecDepth 20000 in
theorem ggX1_fallBack_X1_leadsTo : GoodIn wsX1_fallBack wsX1_leadsTo := goodIn_r _ [11, 3, 12, 5, 13, 14, 15, 16, 17, 18] (by decide +kernel) (by decide +kernel)
set_option maxRecDepth 20000 in
theorem gX1_fallBack_X1_leadsTo : GoodIn wsX1_fallBack (wsV RX1 63 RX1 yX1_leadsTo wsX1_leadsTo) := goodIn_app (goodIn_of _ (by decide +kernel)) ggX1_fallBack_X1_leadsTo
set_option maxRecDepth 20000 in
theorem ggX1_fallBack_X5_at : GoodIn wsX1_fallBack wsX5_at := goodIn_r _ [13] (by decide +kernel) (by decide +kernel)
set_option maxRecDepth 20000 in
theorem gX1_fallBack_X5_at_n36 : GoodIn wsX1_fallBack (wsX5_at) := ggX1_fallBack_X5_at
theorem dX1_fallBack_0 : decode cX1_fallBack 0 = .ok (.aload_n 0, 1) := by decide +kernel
theorem dX1_fallBack_1 : decode cX1_fallBack 1 = .ok (.getfield 15, 3) := by decide +kernel
theorem dX1_fallBack_4 : decode cX1_fallBack 4 = .ok (.iconst 0, 1) := by decide +kernel
theorem dX1_fallBack_5 : decode cX1_fallBack 5 = .ok (.iconst (-1), 1) := by decide +kernel
theorem dX1_fallBack_6 : decode cX1_fallBack 6 = .ok (.invokestatic 24, 3) := by decide +kernel
theorem dX1_fallBack_9 : decode cX1_fallBack 9 = .ok (.iconst 0, 1) := by decide +kernel
theorem dX1_fallBack_10 : decode cX1_fallBack 10 = .ok (.istore_n 1, 1) := by decide +kernel
theorem dX1_fallBack_11 : decode cX1_fallBack 11 = .ok (.iload_n 1, 1) := by decide +kernel
theorem dX1_fallBack_12 : decode cX1_fallBack 12 = .ok (.aload_n 0, 1) := by decide +kernel
theorem dX1_fallBack_13 : decode cX1_fallBack 13 = .ok (.getfield 28, 3) := by decide +kernel
theorem dX1_fallBack_16 : decode cX1_fallBack 16 = .ok (.if_icmp .ge 83, 3) := by decide +kernel
theorem dX1_fallBack_19 : decode cX1_fallBack 19 = .ok (.iconst 0, 1) := by decide +kernel
theorem dX1_fallBack_20 : decode cX1_fallBack 20 = .ok (.istore_n 2, 1) := by decide +kernel
theorem dX1_fallBack_21 : decode cX1_fallBack 21 = .ok (.iload_n 2, 1) := by decide +kernel
theorem dX1_fallBack_22 : decode cX1_fallBack 22 = .ok (.iconst 4, 1) := by decide +kernel
theorem dX1_fallBack_23 : decode cX1_fallBack 23 = .ok (.if_icmp .ge 70, 3) := by decide +kernel
theorem dX1_fallBack_26 : decode cX1_fallBack 26 = .ok (.aload_n 0, 1) := by decide +kernel
theorem dX1_fallBack_27 : decode cX1_fallBack 27 = .ok (.iload_n 1, 1) := by decide +kernel
theorem dX1_fallBack_28 : decode cX1_fallBack 28 = .ok (.iload_n 2, 1) := by decide +kernel
theorem dX1_fallBack_29 : decode cX1_fallBack 29 = .ok (.invokevirtual 63, 3) := by decide +kernel
theorem dX1_fallBack_32 : decode cX1_fallBack 32 = .ok (.istore_n 3, 1) := by decide +kernel
theorem dX1_fallBack_33 : decode cX1_fallBack 33 = .ok (.iload_n 1, 1) := by decide +kernel
theorem dX1_fallBack_34 : decode cX1_fallBack 34 = .ok (.ifCond .ne 7, 3) := by decide +kernel
theorem dX1_fallBack_37 : decode cX1_fallBack 37 = .ok (.iconst 0, 1) := by decide +kernel
theorem dX1_fallBack_38 : decode cX1_fallBack 38 = .ok (.goto 16, 3) := by decide +kernel
theorem dX1_fallBack_41 : decode cX1_fallBack 41 = .ok (.aload_n 0, 1) := by decide +kernel
theorem dX1_fallBack_42 : decode cX1_fallBack 42 = .ok (.aload_n 0, 1) := by decide +kernel
theorem dX1_fallBack_43 : decode cX1_fallBack 43 = .ok (.getfield 15, 3) := by decide +kernel
theorem dX1_fallBack_46 : decode cX1_fallBack 46 = .ok (.iload_n 1, 1) := by decide +kernel
theorem dX1_fallBack_47 : decode cX1_fallBack 47 = .ok (.invokestatic 36, 3) := by decide +kernel
theorem dX1_fallBack_50 : decode cX1_fallBack 50 = .ok (.iload_n 2, 1) := by decide +kernel
theorem dX1_fallBack_51 : decode cX1_fallBack 51 = .ok (.invokevirtual 63, 3) := by decide +kernel
theorem dX1_fallBack_54 : decode cX1_fallBack 54 = .ok (.istore 4, 2) := by decide +kernel
theorem dX1_fallBack_56 : decode cX1_fallBack 56 = .ok (.iload_n 3, 1) := by decide +kernel
theorem dX1_fallBack_57 : decode cX1_fallBack 57 = .ok (.ifCond .eq 16, 3) := by decide +kernel
theorem dX1_fallBack_60 : decode cX1_fallBack 60 = .ok (.aload_n 0, 1) := by decide +kernel
theorem dX1_fallBack_61 : decode cX1_fallBack 61 = .ok (.getfield 15, 3) := by decide +kernel
theorem dX1_fallBack_64 : decode cX1_fallBack 64 = .ok (.iload_n 3, 1) := by decide +kernel
theorem dX1_fallBack_65 : decode cX1_fallBack 65 = .ok (.iload 4, 2) := by decide +kernel
theorem dX1_fallBack_67 : decode cX1_fallBack 67 = .ok (.invokestatic 24, 3) := by decide +kernel
theorem dX1_fallBack_70 : decode cX1_fallBack 70 = .ok (.goto 17, 3) := by decide +kernel
theorem dX1_fallBack_73 : decode cX1_fallBack 73 = .ok (.aload_n 0, 1) := by decide +kernel
theorem dX1_fallBack_74 : decode cX1_fallBack 74 = .ok (.getfield 21, 3) := by decide +kernel
theorem dX1_fallBack_77 : decode cX1_fallBack 77 = .ok (.iload_n 1, 1) := by decide +kernel
theorem dX1_fallBack_78 : decode cX1_fallBack 78 = .ok (.iconst 4, 1) := by decide +kernel
theorem dX1_fallBack_79 : decode cX1_fallBack 79 = .ok (.imul, 1) := by decide +kernel
theorem dX1_fallBack_80 : decode cX1_fallBack 80 = .ok (.iload_n 2, 1) := by decide +kernel
theorem dX1_fallBack_81 : decode cX1_fallBack 81 = .ok (.iadd, 1) := by decide +kernel
theorem dX1_fallBack_82 : decode cX1_fallBack 82 = .ok (.iload 4, 2) := by decide +kernel
theorem dX1_fallBack_84 : decode cX1_fallBack 84 = .ok (.invokestatic 24, 3) := by decide +kernel
theorem dX1_fallBack_87 : decode cX1_fallBack 87 = .ok (.iinc 2 1, 3) := by decide +kernel
theorem dX1_fallBack_90 : decode cX1_fallBack 90 = .ok (.goto (-69), 3) := by decide +kernel
theorem dX1_fallBack_93 : decode cX1_fallBack 93 = .ok (.iinc 1 1, 3) := by decide +kernel
theorem dX1_fallBack_96 : decode cX1_fallBack 96 = .ok (.goto (-85), 3) := by decide +kernel
theorem dX1_fallBack_99 : decode cX1_fallBack 99 = .ok (.return_, 1) := by decide +kernel
set_option maxRecDepth 20000 in
theorem ggX1_endsOf_X5_at : GoodIn wsX1_endsOf wsX5_at := goodIn_r _ [6] (by decide +kernel) (by decide +kernel)
set_option maxRecDepth 20000 in
theorem gX1_endsOf_X5_at_n36 : GoodIn wsX1_endsOf (wsX5_at) := ggX1_endsOf_X5_at
theorem dX1_endsOf_0 : decode cX1_endsOf 0 = .ok (.iload_n 1, 1) := by decide +kernel
theorem dX1_endsOf_1 : decode cX1_endsOf 1 = .ok (.ifCond .ne 7, 3) := by decide +kernel
theorem dX1_endsOf_4 : decode cX1_endsOf 4 = .ok (.iconst 0, 1) := by decide +kernel
theorem dX1_endsOf_5 : decode cX1_endsOf 5 = .ok (.goto 18, 3) := by decide +kernel
theorem dX1_endsOf_8 : decode cX1_endsOf 8 = .ok (.aload_n 0, 1) := by decide +kernel
theorem dX1_endsOf_9 : decode cX1_endsOf 9 = .ok (.getfield 18, 3) := by decide +kernel
theorem dX1_endsOf_12 : decode cX1_endsOf 12 = .ok (.aload_n 0, 1) := by decide +kernel
theorem dX1_endsOf_13 : decode cX1_endsOf 13 = .ok (.getfield 15, 3) := by decide +kernel
theorem dX1_endsOf_16 : decode cX1_endsOf 16 = .ok (.iload_n 1, 1) := by decide +kernel
theorem dX1_endsOf_17 : decode cX1_endsOf 17 = .ok (.invokestatic 36, 3) := by decide +kernel
theorem dX1_endsOf_20 : decode cX1_endsOf 20 = .ok (.invokestatic 36, 3) := by decide +kernel
theorem dX1_endsOf_23 : decode cX1_endsOf 23 = .ok (.istore_n 3, 1) := by decide +kernel
theorem dX1_endsOf_24 : decode cX1_endsOf 24 = .ok (.iconst 0, 1) := by decide +kernel
theorem dX1_endsOf_25 : decode cX1_endsOf 25 = .ok (.istore 4, 2) := by decide +kernel
theorem dX1_endsOf_27 : decode cX1_endsOf 27 = .ok (.iload 4, 2) := by decide +kernel
theorem dX1_endsOf_29 : decode cX1_endsOf 29 = .ok (.bipush 8, 2) := by decide +kernel
theorem dX1_endsOf_31 : decode cX1_endsOf 31 = .ok (.if_icmp .ge 33, 3) := by decide +kernel
theorem dX1_endsOf_34 : decode cX1_endsOf 34 = .ok (.aload_n 2, 1) := by decide +kernel
theorem dX1_endsOf_35 : decode cX1_endsOf 35 = .ok (.iload 4, 2) := by decide +kernel
theorem dX1_endsOf_37 : decode cX1_endsOf 37 = .ok (.invokestatic 36, 3) := by decide +kernel
theorem dX1_endsOf_40 : decode cX1_endsOf 40 = .ok (.aload_n 0, 1) := by decide +kernel
theorem dX1_endsOf_41 : decode cX1_endsOf 41 = .ok (.getfield 9, 3) := by decide +kernel
theorem dX1_endsOf_44 : decode cX1_endsOf 44 = .ok (.iload_n 1, 1) := by decide +kernel
theorem dX1_endsOf_45 : decode cX1_endsOf 45 = .ok (.invokestatic 36, 3) := by decide +kernel
theorem dX1_endsOf_48 : decode cX1_endsOf 48 = .ok (.if_icmp .ne 10, 3) := by decide +kernel
theorem dX1_endsOf_51 : decode cX1_endsOf 51 = .ok (.iload_n 3, 1) := by decide +kernel
theorem dX1_endsOf_52 : decode cX1_endsOf 52 = .ok (.iconst 1, 1) := by decide +kernel
theorem dX1_endsOf_53 : decode cX1_endsOf 53 = .ok (.iload 4, 2) := by decide +kernel
theorem dX1_endsOf_55 : decode cX1_endsOf 55 = .ok (.ishl, 1) := by decide +kernel
theorem dX1_endsOf_56 : decode cX1_endsOf 56 = .ok (.ior, 1) := by decide +kernel
theorem dX1_endsOf_57 : decode cX1_endsOf 57 = .ok (.istore_n 3, 1) := by decide +kernel
theorem dX1_endsOf_58 : decode cX1_endsOf 58 = .ok (.iinc 4 1, 3) := by decide +kernel
theorem dX1_endsOf_61 : decode cX1_endsOf 61 = .ok (.goto (-34), 3) := by decide +kernel
theorem dX1_endsOf_64 : decode cX1_endsOf 64 = .ok (.iload_n 3, 1) := by decide +kernel
theorem dX1_endsOf_65 : decode cX1_endsOf 65 = .ok (.ireturn, 1) := by decide +kernel
theorem dX2_init_0 : decode cX2_init 0 = .ok (.aload_n 0, 1) := by decide +kernel
theorem dX2_init_1 : decode cX2_init 1 = .ok (.invokespecial 3, 3) := by decide +kernel
theorem dX2_init_4 : decode cX2_init 4 = .ok (.aload_n 0, 1) := by decide +kernel
theorem dX2_init_5 : decode cX2_init 5 = .ok (.bipush 8, 2) := by decide +kernel
theorem dX2_init_7 : decode cX2_init 7 = .ok (.newarray .int, 2) := by decide +kernel
theorem dX2_init_9 : decode cX2_init 9 = .ok (.putfield 9, 3) := by decide +kernel
theorem dX2_init_12 : decode cX2_init 12 = .ok (.aload_n 0, 1) := by decide +kernel
theorem dX2_init_13 : decode cX2_init 13 = .ok (.bipush 8, 2) := by decide +kernel
theorem dX2_init_15 : decode cX2_init 15 = .ok (.newarray .int, 2) := by decide +kernel
theorem dX2_init_17 : decode cX2_init 17 = .ok (.putfield 15, 3) := by decide +kernel
theorem dX2_init_20 : decode cX2_init 20 = .ok (.aload_n 0, 1) := by decide +kernel
theorem dX2_init_21 : decode cX2_init 21 = .ok (.bipush 8, 2) := by decide +kernel
theorem dX2_init_23 : decode cX2_init 23 = .ok (.newarray .int, 2) := by decide +kernel
theorem dX2_init_25 : decode cX2_init 25 = .ok (.putfield 18, 3) := by decide +kernel
theorem dX2_init_28 : decode cX2_init 28 = .ok (.iconst 0, 1) := by decide +kernel
theorem dX2_init_29 : decode cX2_init 29 = .ok (.istore_n 1, 1) := by decide +kernel
theorem dX2_init_30 : decode cX2_init 30 = .ok (.iload_n 1, 1) := by decide +kernel
theorem dX2_init_31 : decode cX2_init 31 = .ok (.bipush 8, 2) := by decide +kernel
theorem dX2_init_33 : decode cX2_init 33 = .ok (.if_icmp .ge 16, 3) := by decide +kernel
theorem dX2_init_36 : decode cX2_init 36 = .ok (.aload_n 0, 1) := by decide +kernel
theorem dX2_init_37 : decode cX2_init 37 = .ok (.getfield 18, 3) := by decide +kernel
theorem dX2_init_40 : decode cX2_init 40 = .ok (.iload_n 1, 1) := by decide +kernel
theorem dX2_init_41 : decode cX2_init 41 = .ok (.iconst (-1), 1) := by decide +kernel
theorem dX2_init_42 : decode cX2_init 42 = .ok (.iastore, 1) := by decide +kernel
theorem dX2_init_43 : decode cX2_init 43 = .ok (.iinc 1 1, 3) := by decide +kernel
theorem dX2_init_46 : decode cX2_init 46 = .ok (.goto (-16), 3) := by decide +kernel
theorem dX2_init_49 : decode cX2_init 49 = .ok (.aload_n 0, 1) := by decide +kernel
theorem dX2_init_50 : decode cX2_init 50 = .ok (.iconst 0, 1) := by decide +kernel
theorem dX2_init_51 : decode cX2_init 51 = .ok (.putfield 21, 3) := by decide +kernel
theorem dX2_init_54 : decode cX2_init 54 = .ok (.aload_n 0, 1) := by decide +kernel
theorem dX2_init_55 : decode cX2_init 55 = .ok (.iconst 1, 1) := by decide +kernel
theorem dX2_init_56 : decode cX2_init 56 = .ok (.putfield 25, 3) := by decide +kernel
theorem dX2_init_59 : decode cX2_init 59 = .ok (.aload_n 0, 1) := by decide +kernel
theorem dX2_init_60 : decode cX2_init 60 = .ok (.iconst (-1), 1) := by decide +kernel
theorem dX2_init_61 : decode cX2_init 61 = .ok (.putfield 28, 3) := by decide +kernel
theorem dX2_init_64 : decode cX2_init 64 = .ok (.return_, 1) := by decide +kernel
set_option maxRecDepth 20000 in
theorem ggX2_copy_X5_at : GoodIn wsX2_copy wsX5_at := goodIn_r _ [13] (by decide +kernel) (by decide +kernel)
set_option maxRecDepth 20000 in
theorem gX2_copy_X5_at_n31 : GoodIn wsX2_copy (wsX5_at) := ggX2_copy_X5_at
set_option maxRecDepth 20000 in
theorem ggX2_copy_X5_put : GoodIn wsX2_copy wsX5_put := goodIn_r _ [15] (by decide +kernel) (by decide +kernel)
set_option maxRecDepth 20000 in
theorem gX2_copy_X5_put_n35 : GoodIn wsX2_copy (wsX5_put) := ggX2_copy_X5_put
theorem dX2_copy_0 : decode cX2_copy 0 = .ok (.iconst 0, 1) := by decide +kernel
theorem dX2_copy_1 : decode cX2_copy 1 = .ok (.istore_n 2, 1) := by decide +kernel
theorem dX2_copy_2 : decode cX2_copy 2 = .ok (.iload_n 2, 1) := by decide +kernel
theorem dX2_copy_3 : decode cX2_copy 3 = .ok (.bipush 8, 2) := by decide +kernel
theorem dX2_copy_5 : decode cX2_copy 5 = .ok (.if_icmp .ge 57, 3) := by decide +kernel
theorem dX2_copy_8 : decode cX2_copy 8 = .ok (.aload_n 0, 1) := by decide +kernel
theorem dX2_copy_9 : decode cX2_copy 9 = .ok (.getfield 9, 3) := by decide +kernel
theorem dX2_copy_12 : decode cX2_copy 12 = .ok (.iload_n 2, 1) := by decide +kernel
theorem dX2_copy_13 : decode cX2_copy 13 = .ok (.aload_n 1, 1) := by decide +kernel
theorem dX2_copy_14 : decode cX2_copy 14 = .ok (.getfield 9, 3) := by decide +kernel
theorem dX2_copy_17 : decode cX2_copy 17 = .ok (.iload_n 2, 1) := by decide +kernel
theorem dX2_copy_18 : decode cX2_copy 18 = .ok (.invokestatic 31, 3) := by decide +kernel
theorem dX2_copy_21 : decode cX2_copy 21 = .ok (.invokestatic 35, 3) := by decide +kernel
theorem dX2_copy_24 : decode cX2_copy 24 = .ok (.aload_n 0, 1) := by decide +kernel
theorem dX2_copy_25 : decode cX2_copy 25 = .ok (.getfield 15, 3) := by decide +kernel
theorem dX2_copy_28 : decode cX2_copy 28 = .ok (.iload_n 2, 1) := by decide +kernel
theorem dX2_copy_29 : decode cX2_copy 29 = .ok (.aload_n 1, 1) := by decide +kernel
theorem dX2_copy_30 : decode cX2_copy 30 = .ok (.getfield 15, 3) := by decide +kernel
theorem dX2_copy_33 : decode cX2_copy 33 = .ok (.iload_n 2, 1) := by decide +kernel
theorem dX2_copy_34 : decode cX2_copy 34 = .ok (.invokestatic 31, 3) := by decide +kernel
theorem dX2_copy_37 : decode cX2_copy 37 = .ok (.invokestatic 35, 3) := by decide +kernel
theorem dX2_copy_40 : decode cX2_copy 40 = .ok (.aload_n 0, 1) := by decide +kernel
theorem dX2_copy_41 : decode cX2_copy 41 = .ok (.getfield 18, 3) := by decide +kernel
theorem dX2_copy_44 : decode cX2_copy 44 = .ok (.iload_n 2, 1) := by decide +kernel
theorem dX2_copy_45 : decode cX2_copy 45 = .ok (.aload_n 1, 1) := by decide +kernel
theorem dX2_copy_46 : decode cX2_copy 46 = .ok (.getfield 18, 3) := by decide +kernel
theorem dX2_copy_49 : decode cX2_copy 49 = .ok (.iload_n 2, 1) := by decide +kernel
theorem dX2_copy_50 : decode cX2_copy 50 = .ok (.invokestatic 31, 3) := by decide +kernel
theorem dX2_copy_53 : decode cX2_copy 53 = .ok (.invokestatic 35, 3) := by decide +kernel
theorem dX2_copy_56 : decode cX2_copy 56 = .ok (.iinc 2 1, 3) := by decide +kernel
theorem dX2_copy_59 : decode cX2_copy 59 = .ok (.goto (-57), 3) := by decide +kernel
theorem dX2_copy_62 : decode cX2_copy 62 = .ok (.aload_n 0, 1) := by decide +kernel
theorem dX2_copy_63 : decode cX2_copy 63 = .ok (.aload_n 1, 1) := by decide +kernel
theorem dX2_copy_64 : decode cX2_copy 64 = .ok (.getfield 21, 3) := by decide +kernel
theorem dX2_copy_67 : decode cX2_copy 67 = .ok (.putfield 21, 3) := by decide +kernel
theorem dX2_copy_70 : decode cX2_copy 70 = .ok (.aload_n 0, 1) := by decide +kernel
theorem dX2_copy_71 : decode cX2_copy 71 = .ok (.aload_n 1, 1) := by decide +kernel
theorem dX2_copy_72 : decode cX2_copy 72 = .ok (.getfield 25, 3) := by decide +kernel
theorem dX2_copy_75 : decode cX2_copy 75 = .ok (.putfield 25, 3) := by decide +kernel
theorem dX2_copy_78 : decode cX2_copy 78 = .ok (.aload_n 0, 1) := by decide +kernel
theorem dX2_copy_79 : decode cX2_copy 79 = .ok (.aload_n 1, 1) := by decide +kernel
theorem dX2_copy_80 : decode cX2_copy 80 = .ok (.getfield 39, 3) := by decide +kernel
theorem dX2_copy_83 : decode cX2_copy 83 = .ok (.putfield 39, 3) := by decide +kernel
theorem dX2_copy_86 : decode cX2_copy 86 = .ok (.aload_n 0, 1) := by decide +kernel
theorem dX2_copy_87 : decode cX2_copy 87 = .ok (.aload_n 1, 1) := by decide +kernel
theorem dX2_copy_88 : decode cX2_copy 88 = .ok (.getfield 42, 3) := by decide +kernel
theorem dX2_copy_91 : decode cX2_copy 91 = .ok (.putfield 42, 3) := by decide +kernel
theorem dX2_copy_94 : decode cX2_copy 94 = .ok (.aload_n 0, 1) := by decide +kernel
theorem dX2_copy_95 : decode cX2_copy 95 = .ok (.aload_n 1, 1) := by decide +kernel
theorem dX2_copy_96 : decode cX2_copy 96 = .ok (.getfield 28, 3) := by decide +kernel
theorem dX2_copy_99 : decode cX2_copy 99 = .ok (.putfield 28, 3) := by decide +kernel
theorem dX2_copy_102 : decode cX2_copy 102 = .ok (.aload_n 0, 1) := by decide +kernel
theorem dX2_copy_103 : decode cX2_copy 103 = .ok (.aload_n 1, 1) := by decide +kernel
theorem dX2_copy_104 : decode cX2_copy 104 = .ok (.getfield 45, 3) := by decide +kernel
theorem dX2_copy_107 : decode cX2_copy 107 = .ok (.putfield 45, 3) := by decide +kernel
theorem dX2_copy_110 : decode cX2_copy 110 = .ok (.aload_n 0, 1) := by decide +kernel
theorem dX2_copy_111 : decode cX2_copy 111 = .ok (.aload_n 1, 1) := by decide +kernel
theorem dX2_copy_112 : decode cX2_copy 112 = .ok (.getfield 48, 3) := by decide +kernel
theorem dX2_copy_115 : decode cX2_copy 115 = .ok (.putfield 48, 3) := by decide +kernel
theorem dX2_copy_118 : decode cX2_copy 118 = .ok (.return_, 1) := by decide +kernel
set_option maxRecDepth 20000 in
theorem ggX2_forgetMatchesOf_X5_put : GoodIn wsX2_forgetMatchesOf wsX5_put := goodIn_r _ [5] (by decide +kernel) (by decide +kernel)
set_option maxRecDepth 20000 in
theorem gX2_forgetMatchesOf_X5_put_n35 : GoodIn wsX2_forgetMatchesOf (wsX5_put) := ggX2_forgetMatchesOf_X5_put
theorem dX2_forgetMatchesOf_0 : decode cX2_forgetMatchesOf 0 = .ok (.aload_n 0, 1) := by decide +kernel
theorem dX2_forgetMatchesOf_1 : decode cX2_forgetMatchesOf 1 = .ok (.getfield 15, 3) := by decide +kernel
theorem dX2_forgetMatchesOf_4 : decode cX2_forgetMatchesOf 4 = .ok (.iload_n 1, 1) := by decide +kernel
theorem dX2_forgetMatchesOf_5 : decode cX2_forgetMatchesOf 5 = .ok (.iconst 0, 1) := by decide +kernel
theorem dX2_forgetMatchesOf_6 : decode cX2_forgetMatchesOf 6 = .ok (.invokestatic 35, 3) := by decide +kernel
theorem dX2_forgetMatchesOf_9 : decode cX2_forgetMatchesOf 9 = .ok (.aload_n 0, 1) := by decide +kernel
theorem dX2_forgetMatchesOf_10 : decode cX2_forgetMatchesOf 10 = .ok (.getfield 18, 3) := by decide +kernel
theorem dX2_forgetMatchesOf_13 : decode cX2_forgetMatchesOf 13 = .ok (.iload_n 1, 1) := by decide +kernel
theorem dX2_forgetMatchesOf_14 : decode cX2_forgetMatchesOf 14 = .ok (.iconst (-1), 1) := by decide +kernel
theorem dX2_forgetMatchesOf_15 : decode cX2_forgetMatchesOf 15 = .ok (.invokestatic 35, 3) := by decide +kernel
theorem dX2_forgetMatchesOf_18 : decode cX2_forgetMatchesOf 18 = .ok (.return_, 1) := by decide +kernel
set_option maxRecDepth 20000 in
theorem ggX2_forgetText_X2_forgetMatchesOf : GoodIn wsX2_forgetText wsX2_forgetMatchesOf := goodIn_r _ [11, 12, 13, 14, 15, 16, 17, 18, 19, 20, 21, 22, 23, 24, 25, 26] (by decide +kernel) (by decide +kernel)
set_option maxRecDepth 20000 in
theorem gX2_forgetText_X2_forgetMatchesOf : GoodIn wsX2_forgetText (wsV RX2 51 RX2 yX2_forgetMatchesOf wsX2_forgetMatchesOf) := goodIn_app (goodIn_of _ (by decide +kernel)) ggX2_forgetText_X2_forgetMatchesOf
theorem dX2_forgetText_0 : decode cX2_forgetText 0 = .ok (.iconst 0, 1) := by decide +kernel
theorem dX2_forgetText_1 : decode cX2_forgetText 1 = .ok (.istore_n 1, 1) := by decide +kernel
theorem dX2_forgetText_2 : decode cX2_forgetText 2 = .ok (.iload_n 1, 1) := by decide +kernel
theorem dX2_forgetText_3 : decode cX2_forgetText 3 = .ok (.bipush 8, 2) := by decide +kernel
theorem dX2_forgetText_5 : decode cX2_forgetText 5 = .ok (.if_icmp .ge 14, 3) := by decide +kernel
theorem dX2_forgetText_8 : decode cX2_forgetText 8 = .ok (.aload_n 0, 1) := by decide +kernel
theorem dX2_forgetText_9 : decode cX2_forgetText 9 = .ok (.iload_n 1, 1) := by decide +kernel
theorem dX2_forgetText_10 : decode cX2_forgetText 10 = .ok (.invokevirtual 51, 3) := by decide +kernel
theorem dX2_forgetText_13 : decode cX2_forgetText 13 = .ok (.iinc 1 1, 3) := by decide +kernel
theorem dX2_forgetText_16 : decode cX2_forgetText 16 = .ok (.goto (-14), 3) := by decide +kernel
theorem dX2_forgetText_19 : decode cX2_forgetText 19 = .ok (.aload_n 0, 1) := by decide +kernel
theorem dX2_forgetText_20 : decode cX2_forgetText 20 = .ok (.iconst 1, 1) := by decide +kernel
theorem dX2_forgetText_21 : decode cX2_forgetText 21 = .ok (.putfield 25, 3) := by decide +kernel
theorem dX2_forgetText_24 : decode cX2_forgetText 24 = .ok (.aload_n 0, 1) := by decide +kernel
theorem dX2_forgetText_25 : decode cX2_forgetText 25 = .ok (.iconst 0, 1) := by decide +kernel
theorem dX2_forgetText_26 : decode cX2_forgetText 26 = .ok (.putfield 39, 3) := by decide +kernel
theorem dX2_forgetText_29 : decode cX2_forgetText 29 = .ok (.aload_n 0, 1) := by decide +kernel
theorem dX2_forgetText_30 : decode cX2_forgetText 30 = .ok (.iconst 0, 1) := by decide +kernel
theorem dX2_forgetText_31 : decode cX2_forgetText 31 = .ok (.putfield 42, 3) := by decide +kernel
theorem dX2_forgetText_34 : decode cX2_forgetText 34 = .ok (.aload_n 0, 1) := by decide +kernel
theorem dX2_forgetText_35 : decode cX2_forgetText 35 = .ok (.iconst (-1), 1) := by decide +kernel
theorem dX2_forgetText_36 : decode cX2_forgetText 36 = .ok (.putfield 28, 3) := by decide +kernel
theorem dX2_forgetText_39 : decode cX2_forgetText 39 = .ok (.aload_n 0, 1) := by decide +kernel
theorem dX2_forgetText_40 : decode cX2_forgetText 40 = .ok (.iconst 0, 1) := by decide +kernel
theorem dX2_forgetText_41 : decode cX2_forgetText 41 = .ok (.putfield 45, 3) := by decide +kernel
theorem dX2_forgetText_44 : decode cX2_forgetText 44 = .ok (.aload_n 0, 1) := by decide +kernel
theorem dX2_forgetText_45 : decode cX2_forgetText 45 = .ok (.iconst 0, 1) := by decide +kernel
theorem dX2_forgetText_46 : decode cX2_forgetText 46 = .ok (.putfield 48, 3) := by decide +kernel
theorem dX2_forgetText_49 : decode cX2_forgetText 49 = .ok (.return_, 1) := by decide +kernel
theorem dX2_takeFalls_0 : decode cX2_takeFalls 0 = .ok (.aload_n 0, 1) := by decide +kernel
theorem dX2_takeFalls_1 : decode cX2_takeFalls 1 = .ok (.dup, 1) := by decide +kernel
theorem dX2_takeFalls_2 : decode cX2_takeFalls 2 = .ok (.getfield 45, 3) := by decide +kernel
theorem dX2_takeFalls_5 : decode cX2_takeFalls 5 = .ok (.iload_n 1, 1) := by decide +kernel
theorem dX2_takeFalls_6 : decode cX2_takeFalls 6 = .ok (.iadd, 1) := by decide +kernel
theorem dX2_takeFalls_7 : decode cX2_takeFalls 7 = .ok (.putfield 45, 3) := by decide +kernel
theorem dX2_takeFalls_10 : decode cX2_takeFalls 10 = .ok (.aload_n 0, 1) := by decide +kernel
theorem dX2_takeFalls_11 : decode cX2_takeFalls 11 = .ok (.aload_n 0, 1) := by decide +kernel
theorem dX2_takeFalls_12 : decode cX2_takeFalls 12 = .ok (.getfield 48, 3) := by decide +kernel
theorem dX2_takeFalls_15 : decode cX2_takeFalls 15 = .ok (.iload_n 1, 1) := by decide +kernel
theorem dX2_takeFalls_16 : decode cX2_takeFalls 16 = .ok (.invokestatic 55, 3) := by decide +kernel
theorem dX2_takeFalls_19 : decode cX2_takeFalls 19 = .ok (.putfield 48, 3) := by decide +kernel
theorem dX2_takeFalls_22 : decode cX2_takeFalls 22 = .ok (.return_, 1) := by decide +kernel
set_option maxRecDepth 20000 in
theorem ggX2_takeMatches_X5_at : GoodIn wsX2_takeMatches wsX5_at := goodIn_r _ [8] (by decide +kernel) (by decide +kernel)
set_option maxRecDepth 20000 in
theorem gX2_takeMatches_X5_at_n31 : GoodIn wsX2_takeMatches (wsX5_at) := ggX2_takeMatches_X5_at
set_option maxRecDepth 20000 in
theorem ggX2_takeMatches_X5_put : GoodIn wsX2_takeMatches wsX5_put := goodIn_r _ [10] (by decide +kernel) (by decide +kernel)
set_option maxRecDepth 20000 in
theorem gX2_takeMatches_X5_put_n35 : GoodIn wsX2_takeMatches (wsX5_put) := ggX2_takeMatches_X5_put
theorem dX2_takeMatches_0 : decode cX2_takeMatches 0 = .ok (.iconst 0, 1) := by decide +kernel
theorem dX2_takeMatches_1 : decode cX2_takeMatches 1 = .ok (.istore_n 2, 1) := by decide +kernel
theorem dX2_takeMatches_2 : decode cX2_takeMatches 2 = .ok (.iload_n 2, 1) := by decide +kernel
theorem dX2_takeMatches_3 : decode cX2_takeMatches 3 = .ok (.bipush 8, 2) := by decide +kernel
theorem dX2_takeMatches_5 : decode cX2_takeMatches 5 = .ok (.if_icmp .ge 65, 3) := by decide +kernel
theorem dX2_takeMatches_8 : decode cX2_takeMatches 8 = .ok (.iload_n 1, 1) := by decide +kernel
theorem dX2_takeMatches_9 : decode cX2_takeMatches 9 = .ok (.iconst 1, 1) := by decide +kernel
theorem dX2_takeMatches_10 : decode cX2_takeMatches 10 = .ok (.iload_n 2, 1) := by decide +kernel
theorem dX2_takeMatches_11 : decode cX2_takeMatches 11 = .ok (.ishl, 1) := by decide +kernel
theorem dX2_takeMatches_12 : decode cX2_takeMatches 12 = .ok (.iand, 1) := by decide +kernel
theorem dX2_takeMatches_13 : decode cX2_takeMatches 13 = .ok (.ifCond .eq 51, 3) := by decide +kernel
theorem dX2_takeMatches_16 : decode cX2_takeMatches 16 = .ok (.aload_n 0, 1) := by decide +kernel
theorem dX2_takeMatches_17 : decode cX2_takeMatches 17 = .ok (.getfield 15, 3) := by decide +kernel
theorem dX2_takeMatches_20 : decode cX2_takeMatches 20 = .ok (.iload_n 2, 1) := by decide +kernel
theorem dX2_takeMatches_21 : decode cX2_takeMatches 21 = .ok (.aload_n 0, 1) := by decide +kernel
theorem dX2_takeMatches_22 : decode cX2_takeMatches 22 = .ok (.getfield 15, 3) := by decide +kernel
theorem dX2_takeMatches_25 : decode cX2_takeMatches 25 = .ok (.iload_n 2, 1) := by decide +kernel
theorem dX2_takeMatches_26 : decode cX2_takeMatches 26 = .ok (.invokestatic 31, 3) := by decide +kernel
theorem dX2_takeMatches_29 : decode cX2_takeMatches 29 = .ok (.iconst 1, 1) := by decide +kernel
theorem dX2_takeMatches_30 : decode cX2_takeMatches 30 = .ok (.iadd, 1) := by decide +kernel
theorem dX2_takeMatches_31 : decode cX2_takeMatches 31 = .ok (.invokestatic 35, 3) := by decide +kernel
theorem dX2_takeMatches_34 : decode cX2_takeMatches 34 = .ok (.aload_n 0, 1) := by decide +kernel
theorem dX2_takeMatches_35 : decode cX2_takeMatches 35 = .ok (.getfield 18, 3) := by decide +kernel
theorem dX2_takeMatches_38 : decode cX2_takeMatches 38 = .ok (.iload_n 2, 1) := by decide +kernel
theorem dX2_takeMatches_39 : decode cX2_takeMatches 39 = .ok (.aload_n 0, 1) := by decide +kernel
theorem dX2_takeMatches_40 : decode cX2_takeMatches 40 = .ok (.getfield 39, 3) := by decide +kernel
theorem dX2_takeMatches_43 : decode cX2_takeMatches 43 = .ok (.invokestatic 35, 3) := by decide +kernel
theorem dX2_takeMatches_46 : decode cX2_takeMatches 46 = .ok (.aload_n 0, 1) := by decide +kernel
theorem dX2_takeMatches_47 : decode cX2_takeMatches 47 = .ok (.dup, 1) := by decide +kernel
theorem dX2_takeMatches_48 : decode cX2_takeMatches 48 = .ok (.getfield 42, 3) := by decide +kernel
theorem dX2_takeMatches_51 : decode cX2_takeMatches 51 = .ok (.iconst 1, 1) := by decide +kernel
theorem dX2_takeMatches_52 : decode cX2_takeMatches 52 = .ok (.iadd, 1) := by decide +kernel
theorem dX2_takeMatches_53 : decode cX2_takeMatches 53 = .ok (.putfield 42, 3) := by decide +kernel
theorem dX2_takeMatches_56 : decode cX2_takeMatches 56 = .ok (.aload_n 0, 1) := by decide +kernel
theorem dX2_takeMatches_57 : decode cX2_takeMatches 57 = .ok (.aload_n 0, 1) := by decide +kernel
theorem dX2_takeMatches_58 : decode cX2_takeMatches 58 = .ok (.getfield 39, 3) := by decide +kernel
theorem dX2_takeMatches_61 : decode cX2_takeMatches 61 = .ok (.putfield 28, 3) := by decide +kernel
theorem dX2_takeMatches_64 : decode cX2_takeMatches 64 = .ok (.iinc 2 1, 3) := by decide +kernel
theorem dX2_takeMatches_67 : decode cX2_takeMatches 67 = .ok (.goto (-65), 3) := by decide +kernel
theorem dX2_takeMatches_70 : decode cX2_takeMatches 70 = .ok (.return_, 1) := by decide +kernel
theorem dX3_lengthOf_0 : decode cX3_lengthOf 0 = .ok (.iconst 0, 1) := by decide +kernel
theorem dX3_lengthOf_1 : decode cX3_lengthOf 1 = .ok (.istore_n 1, 1) := by decide +kernel
theorem dX3_lengthOf_2 : decode cX3_lengthOf 2 = .ok (.iload_n 1, 1) := by decide +kernel
theorem dX3_lengthOf_3 : decode cX3_lengthOf 3 = .ok (.bipush 8, 2) := by decide +kernel
theorem dX3_lengthOf_5 : decode cX3_lengthOf 5 = .ok (.if_icmp .gt 18, 3) := by decide +kernel
theorem dX3_lengthOf_8 : decode cX3_lengthOf 8 = .ok (.iload_n 0, 1) := by decide +kernel
theorem dX3_lengthOf_9 : decode cX3_lengthOf 9 = .ok (.iconst 2, 1) := by decide +kernel
theorem dX3_lengthOf_10 : decode cX3_lengthOf 10 = .ok (.iload_n 1, 1) := by decide +kernel
theorem dX3_lengthOf_11 : decode cX3_lengthOf 11 = .ok (.imul, 1) := by decide +kernel
theorem dX3_lengthOf_12 : decode cX3_lengthOf 12 = .ok (.ishr, 1) := by decide +kernel
theorem dX3_lengthOf_13 : decode cX3_lengthOf 13 = .ok (.iconst 1, 1) := by decide +kernel
theorem dX3_lengthOf_14 : decode cX3_lengthOf 14 = .ok (.if_icmp .le 9, 3) := by decide +kernel
theorem dX3_lengthOf_17 : decode cX3_lengthOf 17 = .ok (.iinc 1 1, 3) := by decide +kernel
theorem dX3_lengthOf_20 : decode cX3_lengthOf 20 = .ok (.goto (-18), 3) := by decide +kernel
theorem dX3_lengthOf_23 : decode cX3_lengthOf 23 = .ok (.iload_n 1, 1) := by decide +kernel
theorem dX3_lengthOf_24 : decode cX3_lengthOf 24 = .ok (.ireturn, 1) := by decide +kernel
theorem dX3_behind_0 : decode cX3_behind 0 = .ok (.iload_n 0, 1) := by decide +kernel
theorem dX3_behind_1 : decode cX3_behind 1 = .ok (.iconst 2, 1) := by decide +kernel
theorem dX3_behind_2 : decode cX3_behind 2 = .ok (.ishl, 1) := by decide +kernel
theorem dX3_behind_3 : decode cX3_behind 3 = .ok (.iload_n 1, 1) := by decide +kernel
theorem dX3_behind_4 : decode cX3_behind 4 = .ok (.iconst 3, 1) := by decide +kernel
theorem dX3_behind_5 : decode cX3_behind 5 = .ok (.iand, 1) := by decide +kernel
theorem dX3_behind_6 : decode cX3_behind 6 = .ok (.ior, 1) := by decide +kernel
theorem dX3_behind_7 : decode cX3_behind 7 = .ok (.ireturn, 1) := by decide +kernel
theorem dX3_lastLetter_0 : decode cX3_lastLetter 0 = .ok (.iload_n 0, 1) := by decide +kernel
theorem dX3_lastLetter_1 : decode cX3_lastLetter 1 = .ok (.iconst 3, 1) := by decide +kernel
theorem dX3_lastLetter_2 : decode cX3_lastLetter 2 = .ok (.iand, 1) := by decide +kernel
theorem dX3_lastLetter_3 : decode cX3_lastLetter 3 = .ok (.ireturn, 1) := by decide +kernel
set_option maxRecDepth 20000 in
theorem ggX3_letterAt_X3_lengthOf : GoodIn wsX3_letterAt wsX3_lengthOf := goodIn_r _ [4] (by decide +kernel) (by decide +kernel)
set_option maxRecDepth 20000 in
theorem gX3_letterAt_X3_lengthOf : GoodIn wsX3_letterAt (va_wsS RX3 9 yX3_lengthOf wsX3_lengthOf) := goodIn_app (goodIn_of _ (by decide +kernel)) ggX3_letterAt_X3_lengthOf
set_option maxRecDepth 20000 in
theorem ggX3_letterAt_X3_lastLetter : GoodIn wsX3_letterAt wsX3_lastLetter := goodIn_r _ [7] (by decide +kernel) (by decide +kernel)
set_option maxRecDepth 20000 in
theorem gX3_letterAt_X3_lastLetter : GoodIn wsX3_letterAt (va_wsS RX3 15 yX3_lastLetter wsX3_lastLetter) := goodIn_app (goodIn_of _ (by decide +kernel)) ggX3_letterAt_X3_lastLetter
theorem dX3_letterAt_0 : decode cX3_letterAt 0 = .ok (.iload_n 0, 1) := by decide +kernel
theorem dX3_letterAt_1 : decode cX3_letterAt 1 = .ok (.invokestatic 9, 3) := by decide +kernel
theorem dX3_letterAt_4 : decode cX3_letterAt 4 = .ok (.istore_n 2, 1) := by decide +kernel
theorem dX3_letterAt_5 : decode cX3_letterAt 5 = .ok (.iload_n 1, 1) := by decide +kernel
theorem dX3_letterAt_6 : decode cX3_letterAt 6 = .ok (.iload_n 2, 1) := by decide +kernel
theorem dX3_letterAt_7 : decode cX3_letterAt 7 = .ok (.if_icmp .ge 18, 3) := by decide +kernel
theorem dX3_letterAt_10 : decode cX3_letterAt 10 = .ok (.iload_n 0, 1) := by decide +kernel
theorem dX3_letterAt_11 : decode cX3_letterAt 11 = .ok (.iconst 2, 1) := by decide +kernel
theorem dX3_letterAt_12 : decode cX3_letterAt 12 = .ok (.iload_n 2, 1) := by decide +kernel
theorem dX3_letterAt_13 : decode cX3_letterAt 13 = .ok (.iconst 1, 1) := by decide +kernel
theorem dX3_letterAt_14 : decode cX3_letterAt 14 = .ok (.isub, 1) := by decide +kernel
theorem dX3_letterAt_15 : decode cX3_letterAt 15 = .ok (.iload_n 1, 1) := by decide +kernel
theorem dX3_letterAt_16 : decode cX3_letterAt 16 = .ok (.isub, 1) := by decide +kernel
theorem dX3_letterAt_17 : decode cX3_letterAt 17 = .ok (.imul, 1) := by decide +kernel
theorem dX3_letterAt_18 : decode cX3_letterAt 18 = .ok (.ishr, 1) := by decide +kernel
theorem dX3_letterAt_19 : decode cX3_letterAt 19 = .ok (.invokestatic 15, 3) := by decide +kernel
theorem dX3_letterAt_22 : decode cX3_letterAt 22 = .ok (.goto 4, 3) := by decide +kernel
theorem dX3_letterAt_25 : decode cX3_letterAt 25 = .ok (.iconst (-1), 1) := by decide +kernel
theorem dX3_letterAt_26 : decode cX3_letterAt 26 = .ok (.ireturn, 1) := by decide +kernel
set_option maxRecDepth 20000 in
theorem ggX3_beginning_X3_lengthOf : GoodIn wsX3_beginning wsX3_lengthOf := goodIn_r _ [4] (by decide +kernel) (by decide +kernel)
set_option maxRecDepth 20000 in
theorem gX3_beginning_X3_lengthOf : GoodIn wsX3_beginning (va_wsS RX3 9 yX3_lengthOf wsX3_lengthOf) := goodIn_app (goodIn_of _ (by decide +kernel)) ggX3_beginning_X3_lengthOf
theorem dX3_beginning_0 : decode cX3_beginning 0 = .ok (.iload_n 0, 1) := by decide +kernel
theorem dX3_beginning_1 : decode cX3_beginning 1 = .ok (.iconst 2, 1) := by decide +kernel
theorem dX3_beginning_2 : decode cX3_beginning 2 = .ok (.iload_n 0, 1) := by decide +kernel
theorem dX3_beginning_3 : decode cX3_beginning 3 = .ok (.invokestatic 9, 3) := by decide +kernel
theorem dX3_beginning_6 : decode cX3_beginning 6 = .ok (.iload_n 1, 1) := by decide +kernel
theorem dX3_beginning_7 : decode cX3_beginning 7 = .ok (.isub, 1) := by decide +kernel
theorem dX3_beginning_8 : decode cX3_beginning 8 = .ok (.imul, 1) := by decide +kernel
theorem dX3_beginning_9 : decode cX3_beginning 9 = .ok (.ishr, 1) := by decide +kernel
theorem dX3_beginning_10 : decode cX3_beginning 10 = .ok (.ireturn, 1) := by decide +kernel
set_option maxRecDepth 20000 in
theorem ggX3_beginsWith_X3_lengthOf : GoodIn wsX3_beginsWith wsX3_lengthOf := goodIn_r _ [4] (by decide +kernel) (by decide +kernel)
set_option maxRecDepth 20000 in
theorem gX3_beginsWith_X3_lengthOf : GoodIn wsX3_beginsWith (va_wsS RX3 9 yX3_lengthOf wsX3_lengthOf) := goodIn_app (goodIn_of _ (by decide +kernel)) ggX3_beginsWith_X3_lengthOf
theorem dX3_beginsWith_0 : decode cX3_beginsWith 0 = .ok (.iload_n 0, 1) := by decide +kernel
theorem dX3_beginsWith_1 : decode cX3_beginsWith 1 = .ok (.invokestatic 9, 3) := by decide +kernel
theorem dX3_beginsWith_4 : decode cX3_beginsWith 4 = .ok (.iload_n 1, 1) := by decide +kernel
theorem dX3_beginsWith_5 : decode cX3_beginsWith 5 = .ok (.invokestatic 9, 3) := by decide +kernel
theorem dX3_beginsWith_8 : decode cX3_beginsWith 8 = .ok (.isub, 1) := by decide +kernel
theorem dX3_beginsWith_9 : decode cX3_beginsWith 9 = .ok (.istore_n 2, 1) := by decide +kernel
theorem dX3_beginsWith_10 : decode cX3_beginsWith 10 = .ok (.iload_n 2, 1) := by decide +kernel
theorem dX3_beginsWith_11 : decode cX3_beginsWith 11 = .ok (.ifCond .lt 16, 3) := by decide +kernel
theorem dX3_beginsWith_14 : decode cX3_beginsWith 14 = .ok (.iload_n 0, 1) := by decide +kernel
theorem dX3_beginsWith_15 : decode cX3_beginsWith 15 = .ok (.iconst 2, 1) := by decide +kernel
theorem dX3_beginsWith_16 : decode cX3_beginsWith 16 = .ok (.iload_n 2, 1) := by decide +kernel
theorem dX3_beginsWith_17 : decode cX3_beginsWith 17 = .ok (.imul, 1) := by decide +kernel
theorem dX3_beginsWith_18 : decode cX3_beginsWith 18 = .ok (.ishr, 1) := by decide +kernel
theorem dX3_beginsWith_19 : decode cX3_beginsWith 19 = .ok (.iload_n 1, 1) := by decide +kernel
theorem dX3_beginsWith_20 : decode cX3_beginsWith 20 = .ok (.if_icmp .ne 7, 3) := by decide +kernel
theorem dX3_beginsWith_23 : decode cX3_beginsWith 23 = .ok (.iconst 1, 1) := by decide +kernel
theorem dX3_beginsWith_24 : decode cX3_beginsWith 24 = .ok (.goto 4, 3) := by decide +kernel
theorem dX3_beginsWith_27 : decode cX3_beginsWith 27 = .ok (.iconst 0, 1) := by decide +kernel
theorem dX3_beginsWith_28 : decode cX3_beginsWith 28 = .ok (.ireturn, 1) := by decide +kernel
set_option maxRecDepth 20000 in
theorem ggX3_endsWith_X3_lengthOf : GoodIn wsX3_endsWith wsX3_lengthOf := goodIn_r _ [4] (by decide +kernel) (by decide +kernel)
set_option maxRecDepth 20000 in
theorem gX3_endsWith_X3_lengthOf : GoodIn wsX3_endsWith (va_wsS RX3 9 yX3_lengthOf wsX3_lengthOf) := goodIn_app (goodIn_of _ (by decide +kernel)) ggX3_endsWith_X3_lengthOf
set_option maxRecDepth 20000 in
theorem ggX3_endsWith_X3_end : GoodIn wsX3_endsWith wsX3_end := goodIn_r _ [7] (by decide +kernel) (by decide +kernel)
set_option maxRecDepth 20000 in
theorem gX3_endsWith_X3_end : GoodIn wsX3_endsWith (va_wsS RX3 18 yX3_end wsX3_end) := goodIn_app (goodIn_of _ (by decide +kernel)) ggX3_endsWith_X3_end
theorem dX3_endsWith_0 : decode cX3_endsWith 0 = .ok (.iload_n 1, 1) := by decide +kernel
theorem dX3_endsWith_1 : decode cX3_endsWith 1 = .ok (.invokestatic 9, 3) := by decide +kernel
theorem dX3_endsWith_4 : decode cX3_endsWith 4 = .ok (.istore_n 2, 1) := by decide +kernel
theorem dX3_endsWith_5 : decode cX3_endsWith 5 = .ok (.iload_n 2, 1) := by decide +kernel
theorem dX3_endsWith_6 : decode cX3_endsWith 6 = .ok (.iload_n 0, 1) := by decide +kernel
theorem dX3_endsWith_7 : decode cX3_endsWith 7 = .ok (.invokestatic 9, 3) := by decide +kernel
theorem dX3_endsWith_10 : decode cX3_endsWith 10 = .ok (.if_icmp .gt 16, 3) := by decide +kernel
theorem dX3_endsWith_13 : decode cX3_endsWith 13 = .ok (.iload_n 0, 1) := by decide +kernel
theorem dX3_endsWith_14 : decode cX3_endsWith 14 = .ok (.iload_n 2, 1) := by decide +kernel
theorem dX3_endsWith_15 : decode cX3_endsWith 15 = .ok (.invokestatic 18, 3) := by decide +kernel
theorem dX3_endsWith_18 : decode cX3_endsWith 18 = .ok (.iload_n 1, 1) := by decide +kernel
theorem dX3_endsWith_19 : decode cX3_endsWith 19 = .ok (.if_icmp .ne 7, 3) := by decide +kernel
theorem dX3_endsWith_22 : decode cX3_endsWith 22 = .ok (.iconst 1, 1) := by decide +kernel
theorem dX3_endsWith_23 : decode cX3_endsWith 23 = .ok (.goto 4, 3) := by decide +kernel
theorem dX3_endsWith_26 : decode cX3_endsWith 26 = .ok (.iconst 0, 1) := by decide +kernel
theorem dX3_endsWith_27 : decode cX3_endsWith 27 = .ok (.ireturn, 1) := by decide +kernel
set_option maxRecDepth 20000 in
theorem ggX3_isPart_X3_lengthOf : GoodIn wsX3_isPart wsX3_lengthOf := goodIn_r _ [4] (by decide +kernel) (by decide +kernel)
set_option maxRecDepth 20000 in
theorem gX3_isPart_X3_lengthOf : GoodIn wsX3_isPart (va_wsS RX3 9 yX3_lengthOf wsX3_lengthOf) := goodIn_app (goodIn_of _ (by decide +kernel)) ggX3_isPart_X3_lengthOf
set_option maxRecDepth 20000 in
theorem ggX3_isPart_X3_beginning : GoodIn wsX3_isPart wsX3_beginning := goodIn_r _ [7, 1, 2, 3, 4] (by decide +kernel) (by decide +kernel)
set_option maxRecDepth 20000 in
theorem gX3_isPart_X3_beginning : GoodIn wsX3_isPart (va_wsS RX3 22 yX3_beginning wsX3_beginning) := goodIn_app (goodIn_of _ (by decide +kernel)) ggX3_isPart_X3_beginning
set_option maxRecDepth 20000 in
theorem ggX3_isPart_X3_endsWith : GoodIn wsX3_isPart wsX3_endsWith := goodIn_r _ [10, 1, 2, 3, 4, 11, 12, 13] (by decide +kernel) (by decide +kernel)
set_option maxRecDepth 20000 in
theorem gX3_isPart_X3_endsWith : GoodIn wsX3_isPart (va_wsS RX3 25 yX3_endsWith wsX3_endsWith) := goodIn_app (goodIn_of _ (by decide +kernel)) ggX3_isPart_X3_endsWith
theorem dX3_isPart_0 : decode cX3_isPart 0 = .ok (.iload_n 0, 1) := by decide +kernel
theorem dX3_isPart_1 : decode cX3_isPart 1 = .ok (.ifCond .ne 5, 3) := by decide +kernel
theorem dX3_isPart_4 : decode cX3_isPart 4 = .ok (.iconst 0, 1) := by decide +kernel
theorem dX3_isPart_5 : decode cX3_isPart 5 = .ok (.ireturn, 1) := by decide +kernel
theorem dX3_isPart_6 : decode cX3_isPart 6 = .ok (.iload_n 1, 1) := by decide +kernel
theorem dX3_isPart_7 : decode cX3_isPart 7 = .ok (.invokestatic 9, 3) := by decide +kernel
theorem dX3_isPart_10 : decode cX3_isPart 10 = .ok (.istore_n 2, 1) := by decide +kernel
theorem dX3_isPart_11 : decode cX3_isPart 11 = .ok (.iload_n 0, 1) := by decide +kernel
theorem dX3_isPart_12 : decode cX3_isPart 12 = .ok (.invokestatic 9, 3) := by decide +kernel
theorem dX3_isPart_15 : decode cX3_isPart 15 = .ok (.istore_n 3, 1) := by decide +kernel
theorem dX3_isPart_16 : decode cX3_isPart 16 = .ok (.iload_n 3, 1) := by decide +kernel
theorem dX3_isPart_17 : decode cX3_isPart 17 = .ok (.iload_n 2, 1) := by decide +kernel
theorem dX3_isPart_18 : decode cX3_isPart 18 = .ok (.if_icmp .gt 23, 3) := by decide +kernel
theorem dX3_isPart_21 : decode cX3_isPart 21 = .ok (.iload_n 1, 1) := by decide +kernel
theorem dX3_isPart_22 : decode cX3_isPart 22 = .ok (.iload_n 3, 1) := by decide +kernel
theorem dX3_isPart_23 : decode cX3_isPart 23 = .ok (.invokestatic 22, 3) := by decide +kernel
theorem dX3_isPart_26 : decode cX3_isPart 26 = .ok (.iload_n 0, 1) := by decide +kernel
theorem dX3_isPart_27 : decode cX3_isPart 27 = .ok (.invokestatic 25, 3) := by decide +kernel
theorem dX3_isPart_30 : decode cX3_isPart 30 = .ok (.ifCond .eq 5, 3) := by decide +kernel
theorem dX3_isPart_33 : decode cX3_isPart 33 = .ok (.iconst 1, 1) := by decide +kernel
theorem dX3_isPart_34 : decode cX3_isPart 34 = .ok (.ireturn, 1) := by decide +kernel
theorem dX3_isPart_35 : decode cX3_isPart 35 = .ok (.iinc 3 1, 3) := by decide +kernel
theorem dX3_isPart_38 : decode cX3_isPart 38 = .ok (.goto (-22), 3) := by decide +kernel
theorem dX3_isPart_41 : decode cX3_isPart 41 = .ok (.iconst 0, 1) := by decide +kernel
theorem dX3_isPart_42 : decode cX3_isPart 42 = .ok (.ireturn, 1) := by decide +kernel
set_option maxRecDepth 20000 in
theorem ggX3_latest_X3_lengthOf : GoodIn wsX3_latest wsX3_lengthOf := goodIn_r _ [4] (by decide +kernel) (by decide +kernel)
set_option maxRecDepth 20000 in
theorem gX3_latest_X3_lengthOf : GoodIn wsX3_latest (va_wsS RX3 9 yX3_lengthOf wsX3_lengthOf) := goodIn_app (goodIn_of _ (by decide +kernel)) ggX3_latest_X3_lengthOf
set_option maxRecDepth 20000 in
theorem ggX3_latest_X3_end : GoodIn wsX3_latest wsX3_end := goodIn_r _ [7] (by decide +kernel) (by decide +kernel)
set_option maxRecDepth 20000 in
theorem gX3_latest_X3_end : GoodIn wsX3_latest (va_wsS RX3 18 yX3_end wsX3_end) := goodIn_app (goodIn_of _ (by decide +kernel)) ggX3_latest_X3_end
theorem dX3_latest_0 : decode cX3_latest 0 = .ok (.iload_n 0, 1) := by decide +kernel
theorem dX3_latest_1 : decode cX3_latest 1 = .ok (.invokestatic 9, 3) := by decide +kernel
theorem dX3_latest_4 : decode cX3_latest 4 = .ok (.bipush 8, 2) := by decide +kernel
theorem dX3_latest_6 : decode cX3_latest 6 = .ok (.if_icmp .le 12, 3) := by decide +kernel
theorem dX3_latest_9 : decode cX3_latest 9 = .ok (.iload_n 0, 1) := by decide +kernel
theorem dX3_latest_10 : decode cX3_latest 10 = .ok (.bipush 8, 2) := by decide +kernel
theorem dX3_latest_12 : decode cX3_latest 12 = .ok (.invokestatic 18, 3) := by decide +kernel
theorem dX3_latest_15 : decode cX3_latest 15 = .ok (.goto 4, 3) := by decide +kernel
theorem dX3_latest_18 : decode cX3_latest 18 = .ok (.iload_n 0, 1) := by decide +kernel
theorem dX3_latest_19 : decode cX3_latest 19 = .ok (.ireturn, 1) := by decide +kernel
theorem dX3_end_0 : decode cX3_end 0 = .ok (.iconst 1, 1) := by decide +kernel
theorem dX3_end_1 : decode cX3_end 1 = .ok (.iconst 2, 1) := by decide +kernel
theorem dX3_end_2 : decode cX3_end 2 = .ok (.iload_n 1, 1) := by decide +kernel
theorem dX3_end_3 : decode cX3_end 3 = .ok (.imul, 1) := by decide +kernel
theorem dX3_end_4 : decode cX3_end 4 = .ok (.ishl, 1) := by decide +kernel
theorem dX3_end_5 : decode cX3_end 5 = .ok (.istore_n 2, 1) := by decide +kernel
theorem dX3_end_6 : decode cX3_end 6 = .ok (.iload_n 2, 1) := by decide +kernel
theorem dX3_end_7 : decode cX3_end 7 = .ok (.iload_n 0, 1) := by decide +kernel
theorem dX3_end_8 : decode cX3_end 8 = .ok (.iload_n 2, 1) := by decide +kernel
theorem dX3_end_9 : decode cX3_end 9 = .ok (.iconst 1, 1) := by decide +kernel
theorem dX3_end_10 : decode cX3_end 10 = .ok (.isub, 1) := by decide +kernel
theorem dX3_end_11 : decode cX3_end 11 = .ok (.iand, 1) := by decide +kernel
theorem dX3_end_12 : decode cX3_end 12 = .ok (.ior, 1) := by decide +kernel
theorem dX3_end_13 : decode cX3_end 13 = .ok (.ireturn, 1) := by decide +kernel
set_option maxRecDepth 20000 in
theorem ggX4_init_X2_init : GoodIn wsX4_init wsX2_init := goodIn_r _ [10, 11, 2, 3, 12, 13, 14, 15, 16, 17, 18, 22, 23, 24, 25, 26, 27, 28, 29, 30, 31] (by decide +kernel) (by decide +kernel)
set_option maxRecDepth 20000 in
theorem gX4_init_X2_init : GoodIn wsX4_init (wsX2_init) := ggX4_init_X2_init
theorem dX4_init_0 : decode cX4_init 0 = .ok (.aload_n 0, 1) := by decide +kernel
theorem dX4_init_1 : decode cX4_init 1 = .ok (.invokespecial 3, 3) := by decide +kernel
theorem dX4_init_4 : decode cX4_init 4 = .ok (.aload_n 0, 1) := by decide +kernel
theorem dX4_init_5 : decode cX4_init 5 = .ok (.bipush 6, 2) := by decide +kernel
theorem dX4_init_7 : decode cX4_init 7 = .ok (.anewarray 9, 3) := by decide +kernel
theorem dX4_init_10 : decode cX4_init 10 = .ok (.putfield 11, 3) := by decide +kernel
theorem dX4_init_13 : decode cX4_init 13 = .ok (.iconst 0, 1) := by decide +kernel
theorem dX4_init_14 : decode cX4_init 14 = .ok (.istore_n 1, 1) := by decide +kernel
theorem dX4_init_15 : decode cX4_init 15 = .ok (.iload_n 1, 1) := by decide +kernel
theorem dX4_init_16 : decode cX4_init 16 = .ok (.bipush 6, 2) := by decide +kernel
theorem dX4_init_18 : decode cX4_init 18 = .ok (.if_icmp .ge 22, 3) := by decide +kernel
theorem dX4_init_21 : decode cX4_init 21 = .ok (.aload_n 0, 1) := by decide +kernel
theorem dX4_init_22 : decode cX4_init 22 = .ok (.getfield 11, 3) := by decide +kernel
theorem dX4_init_25 : decode cX4_init 25 = .ok (.iload_n 1, 1) := by decide +kernel
theorem dX4_init_26 : decode cX4_init 26 = .ok (.new 9, 3) := by decide +kernel
theorem dX4_init_29 : decode cX4_init 29 = .ok (.dup, 1) := by decide +kernel
theorem dX4_init_30 : decode cX4_init 30 = .ok (.invokespecial 17, 3) := by decide +kernel
theorem dX4_init_33 : decode cX4_init 33 = .ok (.aastore, 1) := by decide +kernel
theorem dX4_init_34 : decode cX4_init 34 = .ok (.iinc 1 1, 3) := by decide +kernel
theorem dX4_init_37 : decode cX4_init 37 = .ok (.goto (-22), 3) := by decide +kernel
theorem dX4_init_40 : decode cX4_init 40 = .ok (.return_, 1) := by decide +kernel
set_option maxRecDepth 20000 in
theorem ggX4_keep_X4_memoryAt : GoodIn wsX4_keep wsX4_memoryAt := goodIn_r _ [7, 2, 8, 29, 30, 31] (by decide +kernel) (by decide +kernel)
set_option maxRecDepth 20000 in
theorem gX4_keep_X4_memoryAt : GoodIn wsX4_keep (wsV RX4 25 RX4 yX4_memoryAt wsX4_memoryAt) := goodIn_app (goodIn_of _ (by decide +kernel)) ggX4_keep_X4_memoryAt
set_option maxRecDepth 20000 in
theorem ggX4_keep_X2_copy : GoodIn wsX4_keep wsX2_copy := goodIn_r _ [13, 14, 15, 16, 17, 18, 19, 20, 21, 22, 23, 24, 25, 26, 27, 28, 32, 33, 34, 35, 36, 37, 38, 39, 40, 41] (by decide +kernel) (by decide +kernel)
set_option maxRecDepth 20000 in
theorem gX4_keep_X2_copy : GoodIn wsX4_keep (wsV RX4 29 RX2 yX2_copy wsX2_copy) := goodIn_app (goodIn_of _ (by decide +kernel)) ggX4_keep_X2_copy
theorem dX4_keep_0 : decode cX4_keep 0 = .ok (.aload_n 0, 1) := by decide +kernel
theorem dX4_keep_1 : decode cX4_keep 1 = .ok (.getfield 18, 3) := by decide +kernel
theorem dX4_keep_4 : decode cX4_keep 4 = .ok (.bipush 6, 2) := by decide +kernel
theorem dX4_keep_6 : decode cX4_keep 6 = .ok (.if_icmp .ne 26, 3) := by decide +kernel
theorem dX4_keep_9 : decode cX4_keep 9 = .ok (.aload_n 0, 1) := by decide +kernel
theorem dX4_keep_10 : decode cX4_keep 10 = .ok (.aload_n 0, 1) := by decide +kernel
theorem dX4_keep_11 : decode cX4_keep 11 = .ok (.getfield 22, 3) := by decide +kernel
theorem dX4_keep_14 : decode cX4_keep 14 = .ok (.iconst 1, 1) := by decide +kernel
theorem dX4_keep_15 : decode cX4_keep 15 = .ok (.iadd, 1) := by decide +kernel
theorem dX4_keep_16 : decode cX4_keep 16 = .ok (.bipush 6, 2) := by decide +kernel
theorem dX4_keep_18 : decode cX4_keep 18 = .ok (.irem, 1) := by decide +kernel
theorem dX4_keep_19 : decode cX4_keep 19 = .ok (.putfield 22, 3) := by decide +kernel
theorem dX4_keep_22 : decode cX4_keep 22 = .ok (.aload_n 0, 1) := by decide +kernel
theorem dX4_keep_23 : decode cX4_keep 23 = .ok (.dup, 1) := by decide +kernel
theorem dX4_keep_24 : decode cX4_keep 24 = .ok (.getfield 18, 3) := by decide +kernel
theorem dX4_keep_27 : decode cX4_keep 27 = .ok (.iconst 1, 1) := by decide +kernel
theorem dX4_keep_28 : decode cX4_keep 28 = .ok (.isub, 1) := by decide +kernel
theorem dX4_keep_29 : decode cX4_keep 29 = .ok (.putfield 18, 3) := by decide +kernel
theorem dX4_keep_32 : decode cX4_keep 32 = .ok (.aload_n 0, 1) := by decide +kernel
theorem dX4_keep_33 : decode cX4_keep 33 = .ok (.aload_n 0, 1) := by decide +kernel
theorem dX4_keep_34 : decode cX4_keep 34 = .ok (.getfield 18, 3) := by decide +kernel
theorem dX4_keep_37 : decode cX4_keep 37 = .ok (.invokevirtual 25, 3) := by decide +kernel
theorem dX4_keep_40 : decode cX4_keep 40 = .ok (.astore_n 2, 1) := by decide +kernel
theorem dX4_keep_41 : decode cX4_keep 41 = .ok (.aload_n 2, 1) := by decide +kernel
theorem dX4_keep_42 : decode cX4_keep 42 = .ok (.ifnull 18, 3) := by decide +kernel
theorem dX4_keep_45 : decode cX4_keep 45 = .ok (.aload_n 2, 1) := by decide +kernel
theorem dX4_keep_46 : decode cX4_keep 46 = .ok (.aload_n 1, 1) := by decide +kernel
theorem dX4_keep_47 : decode cX4_keep 47 = .ok (.invokevirtual 29, 3) := by decide +kernel
theorem dX4_keep_50 : decode cX4_keep 50 = .ok (.aload_n 0, 1) := by decide +kernel
theorem dX4_keep_51 : decode cX4_keep 51 = .ok (.dup, 1) := by decide +kernel
theorem dX4_keep_52 : decode cX4_keep 52 = .ok (.getfield 18, 3) := by decide +kernel
theorem dX4_keep_55 : decode cX4_keep 55 = .ok (.iconst 1, 1) := by decide +kernel
theorem dX4_keep_56 : decode cX4_keep 56 = .ok (.iadd, 1) := by decide +kernel
theorem dX4_keep_57 : decode cX4_keep 57 = .ok (.putfield 18, 3) := by decide +kernel
theorem dX4_keep_60 : decode cX4_keep 60 = .ok (.return_, 1) := by decide +kernel
set_option maxRecDepth 20000 in
theorem ggX4_giveBack_X4_memoryAt : GoodIn wsX4_giveBack wsX4_memoryAt := goodIn_r _ [6, 7, 8, 29, 30, 31] (by decide +kernel) (by decide +kernel)
set_option maxRecDepth 20000 in
theorem gX4_giveBack_X4_memoryAt : GoodIn wsX4_giveBack (wsV RX4 25 RX4 yX4_memoryAt wsX4_memoryAt) := goodIn_app (goodIn_of _ (by decide +kernel)) ggX4_giveBack_X4_memoryAt
set_option maxRecDepth 20000 in
theorem ggX4_giveBack_X2_copy : GoodIn wsX4_giveBack wsX2_copy := goodIn_r _ [13, 14, 15, 16, 17, 18, 19, 20, 21, 22, 23, 24, 25, 26, 27, 28, 32, 33, 34, 35, 36, 37, 38, 39, 40, 41] (by decide +kernel) (by decide +kernel)
set_option maxRecDepth 20000 in
theorem gX4_giveBack_X2_copy : GoodIn wsX4_giveBack (wsV RX4 29 RX2 yX2_copy wsX2_copy) := goodIn_app (goodIn_of _ (by decide +kernel)) ggX4_giveBack_X2_copy
theorem dX4_giveBack_0 : decode cX4_giveBack 0 = .ok (.aload_n 0, 1) := by decide +kernel
theorem dX4_giveBack_1 : decode cX4_giveBack 1 = .ok (.aload_n 0, 1) := by decide +kernel
theorem dX4_giveBack_2 : decode cX4_giveBack 2 = .ok (.getfield 18, 3) := by decide +kernel
theorem dX4_giveBack_5 : decode cX4_giveBack 5 = .ok (.iconst 1, 1) := by decide +kernel
theorem dX4_giveBack_6 : decode cX4_giveBack 6 = .ok (.isub, 1) := by decide +kernel
theorem dX4_giveBack_7 : decode cX4_giveBack 7 = .ok (.invokevirtual 25, 3) := by decide +kernel
theorem dX4_giveBack_10 : decode cX4_giveBack 10 = .ok (.astore_n 2, 1) := by decide +kernel
theorem dX4_giveBack_11 : decode cX4_giveBack 11 = .ok (.aload_n 2, 1) := by decide +kernel
theorem dX4_giveBack_12 : decode cX4_giveBack 12 = .ok (.ifnull 18, 3) := by decide +kernel
theorem dX4_giveBack_15 : decode cX4_giveBack 15 = .ok (.aload_n 1, 1) := by decide +kernel
theorem dX4_giveBack_16 : decode cX4_giveBack 16 = .ok (.aload_n 2, 1) := by decide +kernel
theorem dX4_giveBack_17 : decode cX4_giveBack 17 = .ok (.invokevirtual 29, 3) := by decide +kernel
theorem dX4_giveBack_20 : decode cX4_giveBack 20 = .ok (.aload_n 0, 1) := by decide +kernel
theorem dX4_giveBack_21 : decode cX4_giveBack 21 = .ok (.dup, 1) := by decide +kernel
theorem dX4_giveBack_22 : decode cX4_giveBack 22 = .ok (.getfield 18, 3) := by decide +kernel
theorem dX4_giveBack_25 : decode cX4_giveBack 25 = .ok (.iconst 1, 1) := by decide +kernel
theorem dX4_giveBack_26 : decode cX4_giveBack 26 = .ok (.isub, 1) := by decide +kernel
theorem dX4_giveBack_27 : decode cX4_giveBack 27 = .ok (.putfield 18, 3) := by decide +kernel
theorem dX4_giveBack_30 : decode cX4_giveBack 30 = .ok (.return_, 1) := by decide +kernel
theorem dX4_memoryAt_0 : decode cX4_memoryAt 0 = .ok (.aload_n 0, 1) := by decide +kernel
theorem dX4_memoryAt_1 : decode cX4_memoryAt 1 = .ok (.getfield 22, 3) := by decide +kernel
theorem dX4_memoryAt_4 : decode cX4_memoryAt 4 = .ok (.iload_n 1, 1) := by decide +kernel
theorem dX4_memoryAt_5 : decode cX4_memoryAt 5 = .ok (.iadd, 1) := by decide +kernel
theorem dX4_memoryAt_6 : decode cX4_memoryAt 6 = .ok (.bipush 6, 2) := by decide +kernel
theorem dX4_memoryAt_8 : decode cX4_memoryAt 8 = .ok (.irem, 1) := by decide +kernel
theorem dX4_memoryAt_9 : decode cX4_memoryAt 9 = .ok (.istore_n 2, 1) := by decide +kernel
theorem dX4_memoryAt_10 : decode cX4_memoryAt 10 = .ok (.iload_n 2, 1) := by decide +kernel
theorem dX4_memoryAt_11 : decode cX4_memoryAt 11 = .ok (.ifCond .lt 21, 3) := by decide +kernel
theorem dX4_memoryAt_14 : decode cX4_memoryAt 14 = .ok (.iload_n 2, 1) := by decide +kernel
theorem dX4_memoryAt_15 : decode cX4_memoryAt 15 = .ok (.aload_n 0, 1) := by decide +kernel
theorem dX4_memoryAt_16 : decode cX4_memoryAt 16 = .ok (.getfield 11, 3) := by decide +kernel
theorem dX4_memoryAt_19 : decode cX4_memoryAt 19 = .ok (.arraylength, 1) := by decide +kernel
theorem dX4_memoryAt_20 : decode cX4_memoryAt 20 = .ok (.if_icmp .ge 12, 3) := by decide +kernel
theorem dX4_memoryAt_23 : decode cX4_memoryAt 23 = .ok (.aload_n 0, 1) := by decide +kernel
theorem dX4_memoryAt_24 : decode cX4_memoryAt 24 = .ok (.getfield 11, 3) := by decide +kernel
theorem dX4_memoryAt_27 : decode cX4_memoryAt 27 = .ok (.iload_n 2, 1) := by decide +kernel
theorem dX4_memoryAt_28 : decode cX4_memoryAt 28 = .ok (.aaload, 1) := by decide +kernel
theorem dX4_memoryAt_29 : decode cX4_memoryAt 29 = .ok (.goto 4, 3) := by decide +kernel
theorem dX4_memoryAt_32 : decode cX4_memoryAt 32 = .ok (.aconst_null, 1) := by decide +kernel
theorem dX4_memoryAt_33 : decode cX4_memoryAt 33 = .ok (.areturn, 1) := by decide +kernel
set_option maxRecDepth 20000 in
theorem ggX5_init_X2_init : GoodIn wsX5_init wsX2_init := goodIn_r _ [24, 25, 2, 3, 20, 26, 27, 28, 29, 30, 31, 56, 57, 58, 59, 60, 61, 62, 63, 64, 65] (by decide +kernel) (by decide +kernel)
set_option maxRecDepth 20000 in
theorem gX5_init_X2_init : GoodIn wsX5_init (wsX2_init) := ggX5_init_X2_init
set_option maxRecDepth 20000 in
theorem ggX5_init_X4_init : GoodIn wsX5_init wsX4_init := goodIn_r _ [34, 35, 2, 3, 36, 37, 5, 6, 38, 23, 24, 25, 20, 26, 27, 28, 29, 30, 31, 71, 72, 73, 56, 57, 58, 59, 60, 61, 62, 63, 64, 65] (by decide +kernel) (by decide +kernel)
set_option maxRecDepth 20000 in
theorem gX5_init_X4_init : GoodIn wsX5_init (wsX4_init) := ggX5_init_X4_init
set_option maxRecDepth 20000 in
theorem ggX5_init_X1_init : GoodIn wsX5_init wsX1_init := goodIn_r _ [41, 42, 2, 3, 20, 43, 44, 45, 46, 47, 48, 49, 50, 74, 75, 76, 77, 78] (by decide +kernel) (by decide +kernel)
set_option maxRecDepth 20000 in
theorem gX5_init_X1_init : GoodIn wsX5_init (wsX1_init) := ggX5_init_X1_init
set_option maxRecDepth 20000 in
theorem ggX5_init_X0_init : GoodIn wsX5_init wsX0_init := goodIn_r _ [53, 54, 2, 3, 20, 55, 79, 80] (by decide +kernel) (by decide +kernel)
set_option maxRecDepth 20000 in
theorem gX5_init_X0_init : GoodIn wsX5_init (wsX0_init) := ggX5_init_X0_init
theorem dX5_init_0 : decode cX5_init 0 = .ok (.aload_n 0, 1) := by decide +kernel
theorem dX5_init_1 : decode cX5_init 1 = .ok (.invokespecial 3, 3) := by decide +kernel
theorem dX5_init_4 : decode cX5_init 4 = .ok (.aload_n 0, 1) := by decide +kernel
theorem dX5_init_5 : decode cX5_init 5 = .ok (.new 9, 3) := by decide +kernel
theorem dX5_init_8 : decode cX5_init 8 = .ok (.dup, 1) := by decide +kernel
theorem dX5_init_9 : decode cX5_init 9 = .ok (.invokespecial 11, 3) := by decide +kernel
theorem dX5_init_12 : decode cX5_init 12 = .ok (.putfield 12, 3) := by decide +kernel
theorem dX5_init_15 : decode cX5_init 15 = .ok (.aload_n 0, 1) := by decide +kernel
theorem dX5_init_16 : decode cX5_init 16 = .ok (.new 16, 3) := by decide +kernel
theorem dX5_init_19 : decode cX5_init 19 = .ok (.dup, 1) := by decide +kernel
theorem dX5_init_20 : decode cX5_init 20 = .ok (.invokespecial 18, 3) := by decide +kernel
theorem dX5_init_23 : decode cX5_init 23 = .ok (.putfield 19, 3) := by decide +kernel
theorem dX5_init_26 : decode cX5_init 26 = .ok (.aload_n 0, 1) := by decide +kernel
theorem dX5_init_27 : decode cX5_init 27 = .ok (.new 23, 3) := by decide +kernel
theorem dX5_init_30 : decode cX5_init 30 = .ok (.dup, 1) := by decide +kernel
theorem dX5_init_31 : decode cX5_init 31 = .ok (.invokespecial 25, 3) := by decide +kernel
theorem dX5_init_34 : decode cX5_init 34 = .ok (.putfield 26, 3) := by decide +kernel
theorem dX5_init_37 : decode cX5_init 37 = .ok (.aload_n 0, 1) := by decide +kernel
theorem dX5_init_38 : decode cX5_init 38 = .ok (.new 30, 3) := by decide +kernel
theorem dX5_init_41 : decode cX5_init 41 = .ok (.dup, 1) := by decide +kernel
theorem dX5_init_42 : decode cX5_init 42 = .ok (.invokespecial 32, 3) := by decide +kernel
theorem dX5_init_45 : decode cX5_init 45 = .ok (.putfield 33, 3) := by decide +kernel
theorem dX5_init_48 : decode cX5_init 48 = .ok (.aload_n 0, 1) := by decide +kernel
theorem dX5_init_49 : decode cX5_init 49 = .ok (.bipush 8, 2) := by decide +kernel
theorem dX5_init_51 : decode cX5_init 51 = .ok (.newarray .int, 2) := by decide +kernel
theorem dX5_init_53 : decode cX5_init 53 = .ok (.putfield 37, 3) := by decide +kernel
theorem dX5_init_56 : decode cX5_init 56 = .ok (.return_, 1) := by decide +kernel
set_option maxRecDepth 20000 in
theorem ggX5_add_X0_holdsPatterns : GoodIn wsX5_add wsX0_holdsPatterns := goodIn_r _ [15, 16, 17, 18, 19, 14, 20, 21, 22, 23, 24, 25, 26, 27, 28, 29, 30, 31, 141, 142] (by decide +kernel) (by decide +kernel)
set_option maxRecDepth 20000 in
theorem gX5_add_X0_holdsPatterns : GoodIn wsX5_add (wsV RX5 41 RX0 yX0_holdsPatterns wsX0_holdsPatterns) := goodIn_app (goodIn_of _ (by decide +kernel)) ggX5_add_X0_holdsPatterns
set_option maxRecDepth 20000 in
theorem ggX5_add_X5_draftPatterns : GoodIn wsX5_add wsX5_draftPatterns := goodIn_r _ [35, 9, 5, 36, 37, 38, 39, 40, 23, 41, 7, 8, 42, 22, 24, 43, 44, 45, 46, 47, 48, 49, 50, 29, 30, 14, 31, 21, 16, 51, 52, 53, 54, 126, 127, 128, 129, 130, 141, 142, 131, 132, 133, 134, 135, 136, 137, 138, 139, 140] (by decide +kernel) (by decide +kernel)
set_option maxRecDepth 20000 in
theorem gX5_add_X5_draftPatterns : GoodIn wsX5_add (wsV RX5 52 RX5 yX5_draftPatterns wsX5_draftPatterns) := goodIn_app (goodIn_of _ (by decide +kernel)) ggX5_add_X5_draftPatterns
set_option maxRecDepth 20000 in
theorem ggX5_add_X4_keep : GoodIn wsX5_add wsX4_keep := goodIn_r _ [59, 60, 61, 62, 63, 64, 58, 65, 66, 67, 68, 69, 70, 71, 72, 73, 74, 75, 76, 77, 78, 79, 80, 81, 22, 23, 24, 44, 45, 143, 144, 145, 131, 132, 133, 134, 135, 136, 137, 138, 139, 140] (by decide +kernel) (by decide +kernel)
set_option maxRecDepth 20000 in
theorem gX5_add_X4_keep : GoodIn wsX5_add (wsV RX5 61 RX4 yX4_keep wsX4_keep) := goodIn_app (goodIn_of _ (by decide +kernel)) ggX5_add_X4_keep
set_option maxRecDepth 20000 in
theorem ggX5_add_X5_at : GoodIn wsX5_add wsX5_at := goodIn_r _ [24] (by decide +kernel) (by decide +kernel)
set_option maxRecDepth 20000 in
theorem gX5_add_X5_at : GoodIn wsX5_add (va_wsS RX5 68 yX5_at wsX5_at) := goodIn_app (goodIn_of _ (by decide +kernel)) ggX5_add_X5_at
set_option maxRecDepth 20000 in
theorem ggX5_add_X5_put : GoodIn wsX5_add wsX5_put := goodIn_r _ [45] (by decide +kernel) (by decide +kernel)
set_option maxRecDepth 20000 in
theorem gX5_add_X5_put : GoodIn wsX5_add (va_wsS RX5 72 yX5_put wsX5_put) := goodIn_app (goodIn_of _ (by decide +kernel)) ggX5_add_X5_put
set_option maxRecDepth 20000 in
theorem ggX5_add_X0_empty : GoodIn wsX5_add wsX0_empty := goodIn_r _ [85, 16, 141, 142] (by decide +kernel) (by decide +kernel)
set_option maxRecDepth 20000 in
theorem gX5_add_X0_empty : GoodIn wsX5_add (wsV RX5 76 RX0 yX0_empty wsX0_empty) := goodIn_app (goodIn_of _ (by decide +kernel)) ggX5_add_X0_empty
set_option maxRecDepth 20000 in
theorem ggX5_add_X1_rebuild : GoodIn wsX5_add wsX1_rebuild := goodIn_r _ [90, 91, 92, 93, 94, 95, 89, 96, 97, 22, 23, 24, 44, 45, 98, 99, 48, 100, 101, 102, 103, 104, 105, 106, 107, 108, 109, 110, 111, 112, 113, 114, 115, 116, 117, 118, 119, 120, 121, 122, 123, 124, 125, 146, 147, 148, 149, 150] (by decide +kernel) (by decide +kernel)
set_option maxRecDepth 20000 in
theorem gX5_add_X1_rebuild : GoodIn wsX5_add (wsV RX5 79 RX1 yX1_rebuild wsX1_rebuild) := goodIn_app (goodIn_of _ (by decide +kernel)) ggX5_add_X1_rebuild
theorem dX5_add_0 : decode cX5_add 0 = .ok (.aload_n 0, 1) := by decide +kernel
theorem dX5_add_1 : decode cX5_add 1 = .ok (.getfield 33, 3) := by decide +kernel
theorem dX5_add_4 : decode cX5_add 4 = .ok (.invokevirtual 41, 3) := by decide +kernel
theorem dX5_add_7 : decode cX5_add 7 = .ok (.ifCond .ne 13, 3) := by decide +kernel
theorem dX5_add_10 : decode cX5_add 10 = .ok (.new 45, 3) := by decide +kernel
theorem dX5_add_13 : decode cX5_add 13 = .ok (.dup, 1) := by decide +kernel
theorem dX5_add_14 : decode cX5_add 14 = .ok (.ldc 47, 2) := by decide +kernel
theorem dX5_add_16 : decode cX5_add 16 = .ok (.invokespecial 49, 3) := by decide +kernel
theorem dX5_add_19 : decode cX5_add 19 = .ok (.athrow, 1) := by decide +kernel
theorem dX5_add_20 : decode cX5_add 20 = .ok (.aload_n 0, 1) := by decide +kernel
theorem dX5_add_21 : decode cX5_add 21 = .ok (.invokevirtual 52, 3) := by decide +kernel
theorem dX5_add_24 : decode cX5_add 24 = .ok (.istore_n 1, 1) := by decide +kernel
theorem dX5_add_25 : decode cX5_add 25 = .ok (.iload_n 1, 1) := by decide +kernel
theorem dX5_add_26 : decode cX5_add 26 = .ok (.iconst (-1), 1) := by decide +kernel
theorem dX5_add_27 : decode cX5_add 27 = .ok (.if_icmp .ne 13, 3) := by decide +kernel
theorem dX5_add_30 : decode cX5_add 30 = .ok (.new 56, 3) := by decide +kernel
theorem dX5_add_33 : decode cX5_add 33 = .ok (.dup, 1) := by decide +kernel
theorem dX5_add_34 : decode cX5_add 34 = .ok (.ldc 58, 2) := by decide +kernel
theorem dX5_add_36 : decode cX5_add 36 = .ok (.invokespecial 60, 3) := by decide +kernel
theorem dX5_add_39 : decode cX5_add 39 = .ok (.athrow, 1) := by decide +kernel
theorem dX5_add_40 : decode cX5_add 40 = .ok (.aload_n 0, 1) := by decide +kernel
theorem dX5_add_41 : decode cX5_add 41 = .ok (.getfield 19, 3) := by decide +kernel
theorem dX5_add_44 : decode cX5_add 44 = .ok (.aload_n 0, 1) := by decide +kernel
theorem dX5_add_45 : decode cX5_add 45 = .ok (.getfield 12, 3) := by decide +kernel
theorem dX5_add_48 : decode cX5_add 48 = .ok (.invokevirtual 61, 3) := by decide +kernel
theorem dX5_add_51 : decode cX5_add 51 = .ok (.iconst 0, 1) := by decide +kernel
theorem dX5_add_52 : decode cX5_add 52 = .ok (.istore_n 2, 1) := by decide +kernel
theorem dX5_add_53 : decode cX5_add 53 = .ok (.iload_n 2, 1) := by decide +kernel
theorem dX5_add_54 : decode cX5_add 54 = .ok (.bipush 8, 2) := by decide +kernel
theorem dX5_add_56 : decode cX5_add 56 = .ok (.if_icmp .ge 28, 3) := by decide +kernel
theorem dX5_add_59 : decode cX5_add 59 = .ok (.aload_n 0, 1) := by decide +kernel
theorem dX5_add_60 : decode cX5_add 60 = .ok (.getfield 12, 3) := by decide +kernel
theorem dX5_add_63 : decode cX5_add 63 = .ok (.getfield 65, 3) := by decide +kernel
theorem dX5_add_66 : decode cX5_add 66 = .ok (.iload_n 2, 1) := by decide +kernel
theorem dX5_add_67 : decode cX5_add 67 = .ok (.aload_n 0, 1) := by decide +kernel
theorem dX5_add_68 : decode cX5_add 68 = .ok (.getfield 37, 3) := by decide +kernel
theorem dX5_add_71 : decode cX5_add 71 = .ok (.iload_n 2, 1) := by decide +kernel
theorem dX5_add_72 : decode cX5_add 72 = .ok (.invokestatic 68, 3) := by decide +kernel
theorem dX5_add_75 : decode cX5_add 75 = .ok (.invokestatic 72, 3) := by decide +kernel
theorem dX5_add_78 : decode cX5_add 78 = .ok (.iinc 2 1, 3) := by decide +kernel
theorem dX5_add_81 : decode cX5_add 81 = .ok (.goto (-28), 3) := by decide +kernel
theorem dX5_add_84 : decode cX5_add 84 = .ok (.aload_n 0, 1) := by decide +kernel
theorem dX5_add_85 : decode cX5_add 85 = .ok (.getfield 33, 3) := by decide +kernel
theorem dX5_add_88 : decode cX5_add 88 = .ok (.invokevirtual 76, 3) := by decide +kernel
theorem dX5_add_91 : decode cX5_add 91 = .ok (.aload_n 0, 1) := by decide +kernel
theorem dX5_add_92 : decode cX5_add 92 = .ok (.getfield 26, 3) := by decide +kernel
theorem dX5_add_95 : decode cX5_add 95 = .ok (.aload_n 0, 1) := by decide +kernel
theorem dX5_add_96 : decode cX5_add 96 = .ok (.getfield 12, 3) := by decide +kernel
theorem dX5_add_99 : decode cX5_add 99 = .ok (.getfield 65, 3) := by decide +kernel
theorem dX5_add_102 : decode cX5_add 102 = .ok (.invokevirtual 79, 3) := by decide +kernel
theorem dX5_add_105 : decode cX5_add 105 = .ok (.iload_n 1, 1) := by decide +kernel
theorem dX5_add_106 : decode cX5_add 106 = .ok (.ireturn, 1) := by decide +kernel
set_option maxRecDepth 20000 in
theorem ggX5_remove_X5_isSlot : GoodIn wsX5_remove wsX5_isSlot := goodIn_r _ [13] (by decide +kernel) (by decide +kernel)
set_option maxRecDepth 20000 in
theorem gX5_remove_X5_isSlot : GoodIn wsX5_remove (va_wsS RX5 83 yX5_isSlot wsX5_isSlot) := goodIn_app (goodIn_of _ (by decide +kernel)) ggX5_remove_X5_isSlot
set_option maxRecDepth 20000 in
theorem ggX5_remove_X5_patternIn : GoodIn wsX5_remove wsX5_patternIn := goodIn_r _ [17, 6, 8, 18, 19, 12, 20, 96, 97, 98, 99, 100, 101, 102, 103, 104, 105, 106, 107, 108, 109, 110] (by decide +kernel) (by decide +kernel)
set_option maxRecDepth 20000 in
theorem gX5_remove_X5_patternIn : GoodIn wsX5_remove (wsV RX5 92 RX5 yX5_patternIn wsX5_patternIn) := goodIn_app (goodIn_of _ (by decide +kernel)) ggX5_remove_X5_patternIn
set_option maxRecDepth 20000 in
theorem ggX5_remove_X4_keep : GoodIn wsX5_remove wsX4_keep := goodIn_r _ [25, 26, 27, 28, 29, 30, 24, 31, 32, 33, 34, 35, 36, 37, 38, 39, 40, 41, 42, 43, 44, 45, 46, 47, 19, 12, 20, 48, 49, 111, 112, 113, 101, 102, 103, 104, 105, 106, 107, 108, 109, 110] (by decide +kernel) (by decide +kernel)
set_option maxRecDepth 20000 in
theorem gX5_remove_X4_keep : GoodIn wsX5_remove (wsV RX5 61 RX4 yX4_keep wsX4_keep) := goodIn_app (goodIn_of _ (by decide +kernel)) ggX5_remove_X4_keep
set_option maxRecDepth 20000 in
theorem ggX5_remove_X5_at : GoodIn wsX5_remove wsX5_at := goodIn_r _ [20] (by decide +kernel) (by decide +kernel)
set_option maxRecDepth 20000 in
theorem gX5_remove_X5_at : GoodIn wsX5_remove (va_wsS RX5 68 yX5_at wsX5_at) := goodIn_app (goodIn_of _ (by decide +kernel)) ggX5_remove_X5_at
set_option maxRecDepth 20000 in
theorem ggX5_remove_X5_put : GoodIn wsX5_remove wsX5_put := goodIn_r _ [49] (by decide +kernel) (by decide +kernel)
set_option maxRecDepth 20000 in
theorem gX5_remove_X5_put : GoodIn wsX5_remove (va_wsS RX5 72 yX5_put wsX5_put) := goodIn_app (goodIn_of _ (by decide +kernel)) ggX5_remove_X5_put
set_option maxRecDepth 20000 in
theorem ggX5_remove_X2_forgetMatchesOf : GoodIn wsX5_remove wsX2_forgetMatchesOf := goodIn_r _ [54, 39, 40, 48, 12, 49, 101, 102, 103, 104, 105, 106, 107, 108, 109, 110] (by decide +kernel) (by decide +kernel)
set_option maxRecDepth 20000 in
theorem gX5_remove_X2_forgetMatchesOf : GoodIn wsX5_remove (wsV RX5 101 RX2 yX2_forgetMatchesOf wsX2_forgetMatchesOf) := goodIn_app (goodIn_of _ (by decide +kernel)) ggX5_remove_X2_forgetMatchesOf
set_option maxRecDepth 20000 in
theorem ggX5_remove_X1_rebuild : GoodIn wsX5_remove wsX1_rebuild := goodIn_r _ [59, 60, 61, 62, 63, 64, 58, 65, 66, 19, 12, 20, 48, 49, 67, 68, 69, 70, 71, 72, 73, 74, 75, 76, 77, 78, 79, 80, 81, 82, 83, 84, 85, 86, 87, 88, 89, 90, 91, 92, 93, 94, 95, 114, 115, 116, 117, 118] (by decide +kernel) (by decide +kernel)
set_option maxRecDepth 20000 in
theorem gX5_remove_X1_rebuild : GoodIn wsX5_remove (wsV RX5 79 RX1 yX1_rebuild wsX1_rebuild) := goodIn_app (goodIn_of _ (by decide +kernel)) ggX5_remove_X1_rebuild
theorem dX5_remove_0 : decode cX5_remove 0 = .ok (.iload_n 1, 1) := by decide +kernel
theorem dX5_remove_1 : decode cX5_remove 1 = .ok (.invokestatic 83, 3) := by decide +kernel
theorem dX5_remove_4 : decode cX5_remove 4 = .ok (.ifCond .ne 13, 3) := by decide +kernel
theorem dX5_remove_7 : decode cX5_remove 7 = .ok (.new 87, 3) := by decide +kernel
theorem dX5_remove_10 : decode cX5_remove 10 = .ok (.dup, 1) := by decide +kernel
theorem dX5_remove_11 : decode cX5_remove 11 = .ok (.ldc 89, 2) := by decide +kernel
theorem dX5_remove_13 : decode cX5_remove 13 = .ok (.invokespecial 91, 3) := by decide +kernel
theorem dX5_remove_16 : decode cX5_remove 16 = .ok (.athrow, 1) := by decide +kernel
theorem dX5_remove_17 : decode cX5_remove 17 = .ok (.aload_n 0, 1) := by decide +kernel
theorem dX5_remove_18 : decode cX5_remove 18 = .ok (.iload_n 1, 1) := by decide +kernel
theorem dX5_remove_19 : decode cX5_remove 19 = .ok (.invokevirtual 92, 3) := by decide +kernel
theorem dX5_remove_22 : decode cX5_remove 22 = .ok (.ifCond .ne 13, 3) := by decide +kernel
theorem dX5_remove_25 : decode cX5_remove 25 = .ok (.new 56, 3) := by decide +kernel
theorem dX5_remove_28 : decode cX5_remove 28 = .ok (.dup, 1) := by decide +kernel
theorem dX5_remove_29 : decode cX5_remove 29 = .ok (.ldc 96, 2) := by decide +kernel
theorem dX5_remove_31 : decode cX5_remove 31 = .ok (.invokespecial 60, 3) := by decide +kernel
theorem dX5_remove_34 : decode cX5_remove 34 = .ok (.athrow, 1) := by decide +kernel
theorem dX5_remove_35 : decode cX5_remove 35 = .ok (.aload_n 0, 1) := by decide +kernel
theorem dX5_remove_36 : decode cX5_remove 36 = .ok (.getfield 19, 3) := by decide +kernel
theorem dX5_remove_39 : decode cX5_remove 39 = .ok (.aload_n 0, 1) := by decide +kernel
theorem dX5_remove_40 : decode cX5_remove 40 = .ok (.getfield 12, 3) := by decide +kernel
theorem dX5_remove_43 : decode cX5_remove 43 = .ok (.invokevirtual 61, 3) := by decide +kernel
theorem dX5_remove_46 : decode cX5_remove 46 = .ok (.aload_n 0, 1) := by decide +kernel
theorem dX5_remove_47 : decode cX5_remove 47 = .ok (.getfield 12, 3) := by decide +kernel
theorem dX5_remove_50 : decode cX5_remove 50 = .ok (.getfield 98, 3) := by decide +kernel
theorem dX5_remove_53 : decode cX5_remove 53 = .ok (.iload_n 1, 1) := by decide +kernel
theorem dX5_remove_54 : decode cX5_remove 54 = .ok (.invokestatic 68, 3) := by decide +kernel
theorem dX5_remove_57 : decode cX5_remove 57 = .ok (.istore_n 2, 1) := by decide +kernel
theorem dX5_remove_58 : decode cX5_remove 58 = .ok (.aload_n 0, 1) := by decide +kernel
theorem dX5_remove_59 : decode cX5_remove 59 = .ok (.getfield 12, 3) := by decide +kernel
theorem dX5_remove_62 : decode cX5_remove 62 = .ok (.getfield 65, 3) := by decide +kernel
theorem dX5_remove_65 : decode cX5_remove 65 = .ok (.iload_n 1, 1) := by decide +kernel
theorem dX5_remove_66 : decode cX5_remove 66 = .ok (.iconst 0, 1) := by decide +kernel
theorem dX5_remove_67 : decode cX5_remove 67 = .ok (.invokestatic 72, 3) := by decide +kernel
theorem dX5_remove_70 : decode cX5_remove 70 = .ok (.aload_n 0, 1) := by decide +kernel
theorem dX5_remove_71 : decode cX5_remove 71 = .ok (.getfield 12, 3) := by decide +kernel
theorem dX5_remove_74 : decode cX5_remove 74 = .ok (.iload_n 1, 1) := by decide +kernel
theorem dX5_remove_75 : decode cX5_remove 75 = .ok (.invokevirtual 101, 3) := by decide +kernel
theorem dX5_remove_78 : decode cX5_remove 78 = .ok (.aload_n 0, 1) := by decide +kernel
theorem dX5_remove_79 : decode cX5_remove 79 = .ok (.getfield 26, 3) := by decide +kernel
theorem dX5_remove_82 : decode cX5_remove 82 = .ok (.aload_n 0, 1) := by decide +kernel
theorem dX5_remove_83 : decode cX5_remove 83 = .ok (.getfield 12, 3) := by decide +kernel
theorem dX5_remove_86 : decode cX5_remove 86 = .ok (.getfield 65, 3) := by decide +kernel
theorem dX5_remove_89 : decode cX5_remove 89 = .ok (.invokevirtual 79, 3) := by decide +kernel
theorem dX5_remove_92 : decode cX5_remove 92 = .ok (.iload_n 2, 1) := by decide +kernel
theorem dX5_remove_93 : decode cX5_remove 93 = .ok (.ireturn, 1) := by decide +kernel
set_option maxRecDepth 20000 in
theorem ggX5_rule_X4_keep : GoodIn wsX5_rule wsX4_keep := goodIn_r _ [10, 11, 12, 13, 14, 15, 9, 16, 17, 18, 19, 20, 21, 22, 23, 24, 25, 26, 27, 28, 29, 30, 31, 32, 33, 34, 35, 36, 37, 53, 54, 55, 43, 44, 45, 46, 47, 48, 49, 50, 51, 52] (by decide +kernel) (by decide +kernel)
set_option maxRecDepth 20000 in
theorem gX5_rule_X4_keep : GoodIn wsX5_rule (wsV RX5 61 RX4 yX4_keep wsX4_keep) := goodIn_app (goodIn_of _ (by decide +kernel)) ggX5_rule_X4_keep
theorem dX5_rule_0 : decode cX5_rule 0 = .ok (.iload_n 1, 1) := by decide +kernel
theorem dX5_rule_1 : decode cX5_rule 1 = .ok (.ifCond .lt 8, 3) := by decide +kernel
theorem dX5_rule_4 : decode cX5_rule 4 = .ok (.iload_n 1, 1) := by decide +kernel
theorem dX5_rule_5 : decode cX5_rule 5 = .ok (.iconst 2, 1) := by decide +kernel
theorem dX5_rule_6 : decode cX5_rule 6 = .ok (.if_icmp .le 13, 3) := by decide +kernel
theorem dX5_rule_9 : decode cX5_rule 9 = .ok (.new 45, 3) := by decide +kernel
theorem dX5_rule_12 : decode cX5_rule 12 = .ok (.dup, 1) := by decide +kernel
theorem dX5_rule_13 : decode cX5_rule 13 = .ok (.ldc 105, 2) := by decide +kernel
theorem dX5_rule_15 : decode cX5_rule 15 = .ok (.invokespecial 49, 3) := by decide +kernel
theorem dX5_rule_18 : decode cX5_rule 18 = .ok (.athrow, 1) := by decide +kernel
theorem dX5_rule_19 : decode cX5_rule 19 = .ok (.aload_n 0, 1) := by decide +kernel
