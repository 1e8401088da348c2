theorem dX5_ifFed_17 : decode cX5_ifFed 17 = .ok (.iload_n 2, 1) := by decide +kernel
theorem dX5_ifFed_18 : decode cX5_ifFed 18 = .ok (.ifCond .lt 8, 3) := by decide +kernel
theorem dX5_ifFed_21 : decode cX5_ifFed 21 = .ok (.iload_n 2, 1) := by decide +kernel
theorem dX5_ifFed_22 : decode cX5_ifFed 22 = .ok (.iconst 4, 1) := by decide +kernel
theorem dX5_ifFed_23 : decode cX5_ifFed 23 = .ok (.if_icmp .lt 13, 3) := by decide +kernel
theorem dX5_ifFed_26 : decode cX5_ifFed 26 = .ok (.new 45, 3) := by decide +kernel
theorem dX5_ifFed_29 : decode cX5_ifFed 29 = .ok (.dup, 1) := by decide +kernel
theorem dX5_ifFed_30 : decode cX5_ifFed 30 = .ok (.ldc 190, 2) := by decide +kernel
theorem dX5_ifFed_32 : decode cX5_ifFed 32 = .ok (.invokespecial 49, 3) := by decide +kernel
theorem dX5_ifFed_35 : decode cX5_ifFed 35 = .ok (.athrow, 1) := by decide +kernel
theorem dX5_ifFed_36 : decode cX5_ifFed 36 = .ok (.aload_n 0, 1) := by decide +kernel
theorem dX5_ifFed_37 : decode cX5_ifFed 37 = .ok (.iload_n 1, 1) := by decide +kernel
theorem dX5_ifFed_38 : decode cX5_ifFed 38 = .ok (.iload_n 2, 1) := by decide +kernel
theorem dX5_ifFed_39 : decode cX5_ifFed 39 = .ok (.invokevirtual 192, 3) := by decide +kernel
theorem dX5_ifFed_42 : decode cX5_ifFed 42 = .ok (.ireturn, 1) := by decide +kernel
set_option maxRecDepth 20000 in
theorem ggX5_lettersTo_X5_isSlot : GoodIn wsX5_lettersTo wsX5_isSlot := goodIn_r _ [6] (by decide +kernel) (by decide +kernel)
set_option maxRecDepth 20000 in
theorem gX5_lettersTo_X5_isSlot : GoodIn wsX5_lettersTo (va_wsS RX5 83 yX5_isSlot wsX5_isSlot) := goodIn_app (goodIn_of _ (by decide +kernel)) ggX5_lettersTo_X5_isSlot
set_option maxRecDepth 20000 in
theorem ggX5_lettersTo_X5_patternIn : GoodIn wsX5_lettersTo wsX5_patternIn := goodIn_r _ [10, 11, 12, 13, 14, 5, 15, 58, 59, 60, 61, 62, 63, 64, 65, 66, 67, 68, 69, 70, 71, 72] (by decide +kernel) (by decide +kernel)
set_option maxRecDepth 20000 in
theorem gX5_lettersTo_X5_patternIn : GoodIn wsX5_lettersTo (wsV RX5 92 RX5 yX5_patternIn wsX5_patternIn) := goodIn_app (goodIn_of _ (by decide +kernel)) ggX5_lettersTo_X5_patternIn
set_option maxRecDepth 20000 in
theorem ggX5_lettersTo_X5_fewestLettersTo : GoodIn wsX5_lettersTo wsX5_fewestLettersTo := goodIn_r _ [19, 20, 21, 22, 23, 24, 5, 25, 11, 26, 27, 28, 29, 30, 31, 32, 33, 34, 35, 36, 37, 38, 39, 40, 41, 42, 43, 44, 45, 46, 47, 14, 15, 13, 48, 49, 50, 51, 52, 53, 54, 55, 56, 57, 58, 59, 60, 61, 62, 73, 74, 75, 76, 77, 63, 64, 65, 66, 67, 68, 69, 70, 71, 72] (by decide +kernel) (by decide +kernel)
set_option maxRecDepth 20000 in
theorem gX5_lettersTo_X5_fewestLettersTo : GoodIn wsX5_lettersTo (wsV RX5 195 RX5 yX5_fewestLettersTo wsX5_fewestLettersTo) := goodIn_app (goodIn_of _ (by decide +kernel)) ggX5_lettersTo_X5_fewestLettersTo
theorem dX5_lettersTo_0 : decode cX5_lettersTo 0 = .ok (.iload_n 1, 1) := by decide +kernel
theorem dX5_lettersTo_1 : decode cX5_lettersTo 1 = .ok (.invokestatic 83, 3) := by decide +kernel
theorem dX5_lettersTo_4 : decode cX5_lettersTo 4 = .ok (.ifCond .ne 13, 3) := by decide +kernel
theorem dX5_lettersTo_7 : decode cX5_lettersTo 7 = .ok (.new 87, 3) := by decide +kernel
theorem dX5_lettersTo_10 : decode cX5_lettersTo 10 = .ok (.dup, 1) := by decide +kernel
theorem dX5_lettersTo_11 : decode cX5_lettersTo 11 = .ok (.ldc 89, 2) := by decide +kernel
theorem dX5_lettersTo_13 : decode cX5_lettersTo 13 = .ok (.invokespecial 91, 3) := by decide +kernel
theorem dX5_lettersTo_16 : decode cX5_lettersTo 16 = .ok (.athrow, 1) := by decide +kernel
theorem dX5_lettersTo_17 : decode cX5_lettersTo 17 = .ok (.aload_n 0, 1) := by decide +kernel
theorem dX5_lettersTo_18 : decode cX5_lettersTo 18 = .ok (.aload_n 0, 1) := by decide +kernel
theorem dX5_lettersTo_19 : decode cX5_lettersTo 19 = .ok (.iload_n 1, 1) := by decide +kernel
theorem dX5_lettersTo_20 : decode cX5_lettersTo 20 = .ok (.invokevirtual 92, 3) := by decide +kernel
theorem dX5_lettersTo_23 : decode cX5_lettersTo 23 = .ok (.invokevirtual 195, 3) := by decide +kernel
theorem dX5_lettersTo_26 : decode cX5_lettersTo 26 = .ok (.ireturn, 1) := by decide +kernel
set_option maxRecDepth 20000 in
theorem ggX5_ifRepeated_X5_isLetter : GoodIn wsX5_ifRepeated wsX5_isLetter := goodIn_r _ [6] (by decide +kernel) (by decide +kernel)
set_option maxRecDepth 20000 in
theorem gX5_ifRepeated_X5_isLetter : GoodIn wsX5_ifRepeated (va_wsS RX5 111 yX5_isLetter wsX5_isLetter) := goodIn_app (goodIn_of _ (by decide +kernel)) ggX5_ifRepeated_X5_isLetter
set_option maxRecDepth 20000 in
theorem ggX5_ifRepeated_X5_matchesIfRepeated : GoodIn wsX5_ifRepeated wsX5_matchesIfRepeated := goodIn_r _ [10, 11, 12, 13, 14, 15, 16, 17, 5, 18, 19, 20, 21, 22, 23, 24, 25, 26, 27, 28, 29, 30, 31, 32, 33, 34, 35, 36, 37, 38, 39, 40, 41, 42, 43, 44, 45, 46, 47, 48, 49, 50, 51, 52, 53, 54, 55, 56, 57, 58, 59, 60, 61, 62, 63, 64, 65, 66, 67, 68, 69, 70, 71, 72, 73, 74, 75, 76, 77, 78, 79, 80, 81, 82, 83] (by decide +kernel) (by decide +kernel)
set_option maxRecDepth 20000 in
theorem gX5_ifRepeated_X5_matchesIfRepeated : GoodIn wsX5_ifRepeated (wsV RX5 200 RX5 yX5_matchesIfRepeated wsX5_matchesIfRepeated) := goodIn_app (goodIn_of _ (by decide +kernel)) ggX5_ifRepeated_X5_matchesIfRepeated
theorem dX5_ifRepeated_0 : decode cX5_ifRepeated 0 = .ok (.iload_n 1, 1) := by decide +kernel
theorem dX5_ifRepeated_1 : decode cX5_ifRepeated 1 = .ok (.invokestatic 111, 3) := by decide +kernel
theorem dX5_ifRepeated_4 : decode cX5_ifRepeated 4 = .ok (.ifCond .ne 13, 3) := by decide +kernel
theorem dX5_ifRepeated_7 : decode cX5_ifRepeated 7 = .ok (.new 45, 3) := by decide +kernel
theorem dX5_ifRepeated_10 : decode cX5_ifRepeated 10 = .ok (.dup, 1) := by decide +kernel
theorem dX5_ifRepeated_11 : decode cX5_ifRepeated 11 = .ok (.ldc 114, 2) := by decide +kernel
theorem dX5_ifRepeated_13 : decode cX5_ifRepeated 13 = .ok (.invokespecial 49, 3) := by decide +kernel
theorem dX5_ifRepeated_16 : decode cX5_ifRepeated 16 = .ok (.athrow, 1) := by decide +kernel
theorem dX5_ifRepeated_17 : decode cX5_ifRepeated 17 = .ok (.iload_n 2, 1) := by decide +kernel
theorem dX5_ifRepeated_18 : decode cX5_ifRepeated 18 = .ok (.iconst 1, 1) := by decide +kernel
theorem dX5_ifRepeated_19 : decode cX5_ifRepeated 19 = .ok (.if_icmp .lt 10, 3) := by decide +kernel
theorem dX5_ifRepeated_22 : decode cX5_ifRepeated 22 = .ok (.iload_n 2, 1) := by decide +kernel
theorem dX5_ifRepeated_23 : decode cX5_ifRepeated 23 = .ok (.sipush 200, 3) := by decide +kernel
theorem dX5_ifRepeated_26 : decode cX5_ifRepeated 26 = .ok (.if_icmp .le 13, 3) := by decide +kernel
theorem dX5_ifRepeated_29 : decode cX5_ifRepeated 29 = .ok (.new 45, 3) := by decide +kernel
theorem dX5_ifRepeated_32 : decode cX5_ifRepeated 32 = .ok (.dup, 1) := by decide +kernel
theorem dX5_ifRepeated_33 : decode cX5_ifRepeated 33 = .ok (.ldc 198, 2) := by decide +kernel
theorem dX5_ifRepeated_35 : decode cX5_ifRepeated 35 = .ok (.invokespecial 49, 3) := by decide +kernel
theorem dX5_ifRepeated_38 : decode cX5_ifRepeated 38 = .ok (.athrow, 1) := by decide +kernel
theorem dX5_ifRepeated_39 : decode cX5_ifRepeated 39 = .ok (.aload_n 0, 1) := by decide +kernel
theorem dX5_ifRepeated_40 : decode cX5_ifRepeated 40 = .ok (.iload_n 1, 1) := by decide +kernel
theorem dX5_ifRepeated_41 : decode cX5_ifRepeated 41 = .ok (.iload_n 2, 1) := by decide +kernel
theorem dX5_ifRepeated_42 : decode cX5_ifRepeated 42 = .ok (.invokevirtual 200, 3) := by decide +kernel
theorem dX5_ifRepeated_45 : decode cX5_ifRepeated 45 = .ok (.ireturn, 1) := by decide +kernel
set_option maxRecDepth 20000 in
theorem ggX5_heaviest_X5_patternIn : GoodIn wsX5_heaviest wsX5_patternIn := goodIn_r _ [5, 6, 7, 8, 9, 4, 10, 30, 31, 32, 33, 34, 35, 36, 37, 38, 39, 40, 41, 42, 43, 44] (by decide +kernel) (by decide +kernel)
set_option maxRecDepth 20000 in
theorem gX5_heaviest_X5_patternIn : GoodIn wsX5_heaviest (wsV RX5 92 RX5 yX5_patternIn wsX5_patternIn) := goodIn_app (goodIn_of _ (by decide +kernel)) ggX5_heaviest_X5_patternIn
set_option maxRecDepth 20000 in
theorem ggX5_heaviest_X5_statesOfItsOwn : GoodIn wsX5_heaviest wsX5_statesOfItsOwn := goodIn_r _ [14, 15, 16, 17, 18, 19, 20, 21, 22, 23, 24, 25, 4, 26, 1, 2, 3, 5, 6, 7, 8, 9, 10, 27, 28, 29, 30, 31, 32, 33, 34, 35, 36, 37, 38, 39, 40, 41, 42, 43, 44] (by decide +kernel) (by decide +kernel)
set_option maxRecDepth 20000 in
theorem gX5_heaviest_X5_statesOfItsOwn : GoodIn wsX5_heaviest (wsV RX5 203 RX5 yX5_statesOfItsOwn wsX5_statesOfItsOwn) := goodIn_app (goodIn_of _ (by decide +kernel)) ggX5_heaviest_X5_statesOfItsOwn
theorem dX5_heaviest_0 : decode cX5_heaviest 0 = .ok (.iconst (-1), 1) := by decide +kernel
theorem dX5_heaviest_1 : decode cX5_heaviest 1 = .ok (.istore_n 1, 1) := by decide +kernel
theorem dX5_heaviest_2 : decode cX5_heaviest 2 = .ok (.iconst (-1), 1) := by decide +kernel
theorem dX5_heaviest_3 : decode cX5_heaviest 3 = .ok (.istore_n 2, 1) := by decide +kernel
theorem dX5_heaviest_4 : decode cX5_heaviest 4 = .ok (.iconst 0, 1) := by decide +kernel
theorem dX5_heaviest_5 : decode cX5_heaviest 5 = .ok (.istore_n 3, 1) := by decide +kernel
theorem dX5_heaviest_6 : decode cX5_heaviest 6 = .ok (.iload_n 3, 1) := by decide +kernel
theorem dX5_heaviest_7 : decode cX5_heaviest 7 = .ok (.bipush 8, 2) := by decide +kernel
theorem dX5_heaviest_9 : decode cX5_heaviest 9 = .ok (.if_icmp .ge 39, 3) := by decide +kernel
theorem dX5_heaviest_12 : decode cX5_heaviest 12 = .ok (.aload_n 0, 1) := by decide +kernel
theorem dX5_heaviest_13 : decode cX5_heaviest 13 = .ok (.aload_n 0, 1) := by decide +kernel
theorem dX5_heaviest_14 : decode cX5_heaviest 14 = .ok (.iload_n 3, 1) := by decide +kernel
theorem dX5_heaviest_15 : decode cX5_heaviest 15 = .ok (.invokevirtual 92, 3) := by decide +kernel
theorem dX5_heaviest_18 : decode cX5_heaviest 18 = .ok (.invokevirtual 203, 3) := by decide +kernel
theorem dX5_heaviest_21 : decode cX5_heaviest 21 = .ok (.istore 4, 2) := by decide +kernel
theorem dX5_heaviest_23 : decode cX5_heaviest 23 = .ok (.iload 4, 2) := by decide +kernel
theorem dX5_heaviest_25 : decode cX5_heaviest 25 = .ok (.iload_n 1, 1) := by decide +kernel
theorem dX5_heaviest_26 : decode cX5_heaviest 26 = .ok (.if_icmp .le 16, 3) := by decide +kernel
theorem dX5_heaviest_29 : decode cX5_heaviest 29 = .ok (.aload_n 0, 1) := by decide +kernel
theorem dX5_heaviest_30 : decode cX5_heaviest 30 = .ok (.iload_n 3, 1) := by decide +kernel
theorem dX5_heaviest_31 : decode cX5_heaviest 31 = .ok (.invokevirtual 92, 3) := by decide +kernel
theorem dX5_heaviest_34 : decode cX5_heaviest 34 = .ok (.ifCond .eq 8, 3) := by decide +kernel
theorem dX5_heaviest_37 : decode cX5_heaviest 37 = .ok (.iload 4, 2) := by decide +kernel
theorem dX5_heaviest_39 : decode cX5_heaviest 39 = .ok (.istore_n 1, 1) := by decide +kernel
theorem dX5_heaviest_40 : decode cX5_heaviest 40 = .ok (.iload_n 3, 1) := by decide +kernel
theorem dX5_heaviest_41 : decode cX5_heaviest 41 = .ok (.istore_n 2, 1) := by decide +kernel
theorem dX5_heaviest_42 : decode cX5_heaviest 42 = .ok (.iinc 3 1, 3) := by decide +kernel
theorem dX5_heaviest_45 : decode cX5_heaviest 45 = .ok (.goto (-39), 3) := by decide +kernel
theorem dX5_heaviest_48 : decode cX5_heaviest 48 = .ok (.iload_n 2, 1) := by decide +kernel
theorem dX5_heaviest_49 : decode cX5_heaviest 49 = .ok (.iconst (-1), 1) := by decide +kernel
theorem dX5_heaviest_50 : decode cX5_heaviest 50 = .ok (.if_icmp .ne 7, 3) := by decide +kernel
theorem dX5_heaviest_53 : decode cX5_heaviest 53 = .ok (.iconst (-1), 1) := by decide +kernel
theorem dX5_heaviest_54 : decode cX5_heaviest 54 = .ok (.goto 9, 3) := by decide +kernel
theorem dX5_heaviest_57 : decode cX5_heaviest 57 = .ok (.bipush 100, 2) := by decide +kernel
theorem dX5_heaviest_59 : decode cX5_heaviest 59 = .ok (.iload_n 1, 1) := by decide +kernel
theorem dX5_heaviest_60 : decode cX5_heaviest 60 = .ok (.imul, 1) := by decide +kernel
theorem dX5_heaviest_61 : decode cX5_heaviest 61 = .ok (.iload_n 2, 1) := by decide +kernel
theorem dX5_heaviest_62 : decode cX5_heaviest 62 = .ok (.iadd, 1) := by decide +kernel
theorem dX5_heaviest_63 : decode cX5_heaviest 63 = .ok (.ireturn, 1) := by decide +kernel
set_option maxRecDepth 20000 in
theorem ggX5_sharing_X5_sumOfLengths : GoodIn wsX5_sharing wsX5_sumOfLengths := goodIn_r _ [7, 8, 9, 10, 6, 11, 12, 13, 14, 15, 16, 17, 18, 19, 20, 21, 22, 23, 24, 25, 31, 32, 33, 34, 35, 36, 37, 38, 39, 40] (by decide +kernel) (by decide +kernel)
set_option maxRecDepth 20000 in
theorem gX5_sharing_X5_sumOfLengths : GoodIn wsX5_sharing (wsV RX5 206 RX5 yX5_sumOfLengths wsX5_sumOfLengths) := goodIn_app (goodIn_of _ (by decide +kernel)) ggX5_sharing_X5_sumOfLengths
theorem dX5_sharing_0 : decode cX5_sharing 0 = .ok (.aload_n 0, 1) := by decide +kernel
theorem dX5_sharing_1 : decode cX5_sharing 1 = .ok (.invokevirtual 206, 3) := by decide +kernel
theorem dX5_sharing_4 : decode cX5_sharing 4 = .ok (.istore_n 1, 1) := by decide +kernel
theorem dX5_sharing_5 : decode cX5_sharing 5 = .ok (.iload_n 1, 1) := by decide +kernel
theorem dX5_sharing_6 : decode cX5_sharing 6 = .ok (.ifCond .le 19, 3) := by decide +kernel
theorem dX5_sharing_9 : decode cX5_sharing 9 = .ok (.aload_n 0, 1) := by decide +kernel
theorem dX5_sharing_10 : decode cX5_sharing 10 = .ok (.getfield 26, 3) := by decide +kernel
theorem dX5_sharing_13 : decode cX5_sharing 13 = .ok (.getfield 177, 3) := by decide +kernel
theorem dX5_sharing_16 : decode cX5_sharing 16 = .ok (.iconst 1, 1) := by decide +kernel
theorem dX5_sharing_17 : decode cX5_sharing 17 = .ok (.isub, 1) := by decide +kernel
theorem dX5_sharing_18 : decode cX5_sharing 18 = .ok (.i2d, 1) := by decide +kernel
theorem dX5_sharing_19 : decode cX5_sharing 19 = .ok (.iload_n 1, 1) := by decide +kernel
theorem dX5_sharing_20 : decode cX5_sharing 20 = .ok (.i2d, 1) := by decide +kernel
theorem dX5_sharing_21 : decode cX5_sharing 21 = .ok (.ddiv, 1) := by decide +kernel
theorem dX5_sharing_22 : decode cX5_sharing 22 = .ok (.goto 4, 3) := by decide +kernel
theorem dX5_sharing_25 : decode cX5_sharing 25 = .ok (.dconst 1, 1) := by decide +kernel
theorem dX5_sharing_26 : decode cX5_sharing 26 = .ok (.dreturn, 1) := by decide +kernel
set_option maxRecDepth 20000 in
theorem ggX5_digest_X5_numberTold : GoodIn wsX5_digest wsX5_numberTold := goodIn_r _ [10, 4, 5, 2, 11, 12, 13, 14, 15, 16, 17, 18, 19, 20, 9, 21, 22, 23, 24, 25, 26, 27, 28, 29, 30, 31, 32, 33, 34, 35, 36, 37, 38, 39, 40, 41, 42, 43, 44, 45, 46, 47, 48, 49, 50, 51, 52, 53, 54, 55, 56, 57, 58, 59, 60, 186, 187, 188, 189, 190, 201, 202, 203, 204, 205, 191, 192, 193, 194, 195, 196, 197, 198, 199, 200, 206, 207, 208] (by decide +kernel) (by decide +kernel)
set_option maxRecDepth 20000 in
theorem gX5_digest_X5_numberTold : GoodIn wsX5_digest (wsV RX5 187 RX5 yX5_numberTold wsX5_numberTold) := goodIn_app (goodIn_of _ (by decide +kernel)) ggX5_digest_X5_numberTold
set_option maxRecDepth 20000 in
theorem ggX5_digest_X5_hashed : GoodIn wsX5_digest wsX5_hashed := goodIn_r _ [63, 64] (by decide +kernel) (by decide +kernel)
set_option maxRecDepth 20000 in
theorem gX5_digest_X5_hashed : GoodIn wsX5_digest (va_wsS RX5 211 yX5_hashed wsX5_hashed) := goodIn_app (goodIn_of _ (by decide +kernel)) ggX5_digest_X5_hashed
set_option maxRecDepth 20000 in
theorem ggX5_digest_X5_withPattern : GoodIn wsX5_digest wsX5_withPattern := goodIn_r _ [68, 69, 70, 71, 9, 72, 2, 73, 74, 4, 22, 23, 24, 25, 26, 27, 28, 29, 60, 41, 42, 43, 35, 36, 37, 38, 39, 40, 44, 45, 46, 47, 48, 49, 50, 51, 52, 53, 54, 55, 75, 76, 77, 78, 79, 80, 81, 82, 83, 84, 85, 86, 87, 88, 89, 90, 91, 92, 93, 94, 61, 62, 63, 64, 95, 96, 97, 98, 99, 100, 30, 31, 32, 33, 34, 101, 102, 186, 187, 188, 189, 190, 191, 192, 193, 194, 195, 196, 197, 198, 199, 200, 201, 202, 203, 204, 205] (by decide +kernel) (by decide +kernel)
set_option maxRecDepth 20000 in
theorem gX5_digest_X5_withPattern : GoodIn wsX5_digest (wsV RX5 215 RX5 yX5_withPattern wsX5_withPattern) := goodIn_app (goodIn_of _ (by decide +kernel)) ggX5_digest_X5_withPattern
set_option maxRecDepth 20000 in
theorem ggX5_digest_X5_withState : GoodIn wsX5_digest wsX5_withState := goodIn_r _ [106, 107, 108, 109, 9, 110, 4, 100, 111, 112, 27, 28, 29, 60, 41, 42, 43, 113, 49, 50, 114, 115, 116, 117, 22, 23, 24, 25, 2, 26, 118, 119, 120, 47, 121, 52, 53, 38, 54, 55, 61, 62, 63, 64, 186, 187, 188, 189, 190, 201, 202, 203, 204, 205, 191, 192, 193, 194, 195, 196, 197, 198, 199, 200] (by decide +kernel) (by decide +kernel)
set_option maxRecDepth 20000 in
theorem gX5_digest_X5_withState : GoodIn wsX5_digest (wsV RX5 219 RX5 yX5_withState wsX5_withState) := goodIn_app (goodIn_of _ (by decide +kernel)) ggX5_digest_X5_withState
set_option maxRecDepth 20000 in
theorem ggX5_digest_X5_withLettersThatWouldBe : GoodIn wsX5_digest wsX5_withLettersThatWouldBe := goodIn_r _ [125, 126, 127, 128, 9, 129, 4, 2, 11, 13, 30, 31, 32, 33, 34, 35, 36, 37, 38, 39, 40, 41, 42, 43, 44, 45, 46, 47, 48, 49, 50, 51, 52, 53, 54, 55, 28, 29, 121, 130, 131, 132, 133, 134, 135, 136, 137, 138, 139, 140, 141, 142, 143, 144, 145, 146, 112, 3, 27, 22, 23, 24, 25, 26, 60, 147, 148, 149, 150, 151, 152, 153, 154, 155, 156, 61, 62, 63, 64, 157, 158, 159, 160, 186, 187, 188, 189, 190, 191, 192, 193, 194, 195, 196, 197, 198, 199, 200, 201, 202, 203, 204, 205] (by decide +kernel) (by decide +kernel)
set_option maxRecDepth 20000 in
theorem gX5_digest_X5_withLettersThatWouldBe : GoodIn wsX5_digest (wsV RX5 222 RX5 yX5_withLettersThatWouldBe wsX5_withLettersThatWouldBe) := goodIn_app (goodIn_of _ (by decide +kernel)) ggX5_digest_X5_withLettersThatWouldBe
set_option maxRecDepth 20000 in
theorem ggX5_digest_X5_heaviest : GoodIn wsX5_digest wsX5_heaviest := goodIn_r _ [164, 22, 23, 24, 9, 25, 2, 26, 27, 28, 29, 165, 166, 167, 168, 60, 41, 42, 43, 101, 83, 84, 47, 114, 115, 116, 117, 118, 119, 120, 186, 187, 188, 189, 190, 191, 192, 193, 194, 195, 196, 197, 198, 199, 200] (by decide +kernel) (by decide +kernel)
set_option maxRecDepth 20000 in
theorem gX5_digest_X5_heaviest : GoodIn wsX5_digest (wsV RX5 226 RX5 yX5_heaviest wsX5_heaviest) := goodIn_app (goodIn_of _ (by decide +kernel)) ggX5_digest_X5_heaviest
set_option maxRecDepth 20000 in
theorem ggX5_digest_X5_sharing : GoodIn wsX5_digest wsX5_sharing := goodIn_r _ [172, 4, 5, 56, 57, 58, 9, 59, 22, 23, 24, 25, 2, 26, 27, 28, 29, 60, 41, 42, 43, 186, 187, 188, 189, 190, 201, 202, 203, 204, 205, 191, 192, 193, 194, 195, 196, 197, 198, 199, 200] (by decide +kernel) (by decide +kernel)
set_option maxRecDepth 20000 in
theorem gX5_digest_X5_sharing : GoodIn wsX5_digest (wsV RX5 229 RX5 yX5_sharing wsX5_sharing) := goodIn_app (goodIn_of _ (by decide +kernel)) ggX5_digest_X5_sharing
set_option maxRecDepth 20000 in
theorem ggX5_digest_X5_bitsOf : GoodIn wsX5_digest wsX5_bitsOf := goodIn_r _ [175, 176, 177, 178] (by decide +kernel) (by decide +kernel)
set_option maxRecDepth 20000 in
theorem gX5_digest_X5_bitsOf : GoodIn wsX5_digest (va_wsS RX5 233 yX5_bitsOf wsX5_bitsOf) := goodIn_app (goodIn_of _ (by decide +kernel)) ggX5_digest_X5_bitsOf
set_option maxRecDepth 20000 in
theorem ggX5_digest_X5_withBuffer : GoodIn wsX5_digest wsX5_withBuffer := goodIn_r _ [182, 183, 184, 185, 61, 62, 9, 63, 64, 27, 28, 29, 186, 187, 188, 189, 190, 209, 210] (by decide +kernel) (by decide +kernel)
set_option maxRecDepth 20000 in
theorem gX5_digest_X5_withBuffer : GoodIn wsX5_digest (wsV RX5 237 RX5 yX5_withBuffer wsX5_withBuffer) := goodIn_app (goodIn_of _ (by decide +kernel)) ggX5_digest_X5_withBuffer
theorem dX5_digest_0 : decode cX5_digest 0 = .ok (.ldc2_w 209, 3) := by decide +kernel
theorem dX5_digest_3 : decode cX5_digest 3 = .ok (.lstore_n 1, 1) := by decide +kernel
theorem dX5_digest_4 : decode cX5_digest 4 = .ok (.iconst 0, 1) := by decide +kernel
theorem dX5_digest_5 : decode cX5_digest 5 = .ok (.istore_n 3, 1) := by decide +kernel
theorem dX5_digest_6 : decode cX5_digest 6 = .ok (.iload_n 3, 1) := by decide +kernel
theorem dX5_digest_7 : decode cX5_digest 7 = .ok (.bipush 10, 2) := by decide +kernel
theorem dX5_digest_9 : decode cX5_digest 9 = .ok (.if_icmp .ge 20, 3) := by decide +kernel
theorem dX5_digest_12 : decode cX5_digest 12 = .ok (.lload_n 1, 1) := by decide +kernel
theorem dX5_digest_13 : decode cX5_digest 13 = .ok (.aload_n 0, 1) := by decide +kernel
theorem dX5_digest_14 : decode cX5_digest 14 = .ok (.iload_n 3, 1) := by decide +kernel
theorem dX5_digest_15 : decode cX5_digest 15 = .ok (.invokevirtual 187, 3) := by decide +kernel
theorem dX5_digest_18 : decode cX5_digest 18 = .ok (.i2l, 1) := by decide +kernel
theorem dX5_digest_19 : decode cX5_digest 19 = .ok (.invokestatic 211, 3) := by decide +kernel
theorem dX5_digest_22 : decode cX5_digest 22 = .ok (.lstore_n 1, 1) := by decide +kernel
theorem dX5_digest_23 : decode cX5_digest 23 = .ok (.iinc 3 1, 3) := by decide +kernel
theorem dX5_digest_26 : decode cX5_digest 26 = .ok (.goto (-20), 3) := by decide +kernel
theorem dX5_digest_29 : decode cX5_digest 29 = .ok (.lload_n 1, 1) := by decide +kernel
theorem dX5_digest_30 : decode cX5_digest 30 = .ok (.aload_n 0, 1) := by decide +kernel
theorem dX5_digest_31 : decode cX5_digest 31 = .ok (.getfield 12, 3) := by decide +kernel
theorem dX5_digest_34 : decode cX5_digest 34 = .ok (.getfield 107, 3) := by decide +kernel
theorem dX5_digest_37 : decode cX5_digest 37 = .ok (.i2l, 1) := by decide +kernel
theorem dX5_digest_38 : decode cX5_digest 38 = .ok (.invokestatic 211, 3) := by decide +kernel
theorem dX5_digest_41 : decode cX5_digest 41 = .ok (.lstore_n 1, 1) := by decide +kernel
theorem dX5_digest_42 : decode cX5_digest 42 = .ok (.iconst 0, 1) := by decide +kernel
theorem dX5_digest_43 : decode cX5_digest 43 = .ok (.istore_n 3, 1) := by decide +kernel
theorem dX5_digest_44 : decode cX5_digest 44 = .ok (.iload_n 3, 1) := by decide +kernel
theorem dX5_digest_45 : decode cX5_digest 45 = .ok (.bipush 8, 2) := by decide +kernel
theorem dX5_digest_47 : decode cX5_digest 47 = .ok (.if_icmp .ge 16, 3) := by decide +kernel
theorem dX5_digest_50 : decode cX5_digest 50 = .ok (.aload_n 0, 1) := by decide +kernel
theorem dX5_digest_51 : decode cX5_digest 51 = .ok (.lload_n 1, 1) := by decide +kernel
theorem dX5_digest_52 : decode cX5_digest 52 = .ok (.iload_n 3, 1) := by decide +kernel
theorem dX5_digest_53 : decode cX5_digest 53 = .ok (.invokevirtual 215, 3) := by decide +kernel
theorem dX5_digest_56 : decode cX5_digest 56 = .ok (.lstore_n 1, 1) := by decide +kernel
theorem dX5_digest_57 : decode cX5_digest 57 = .ok (.iinc 3 1, 3) := by decide +kernel
theorem dX5_digest_60 : decode cX5_digest 60 = .ok (.goto (-16), 3) := by decide +kernel
theorem dX5_digest_63 : decode cX5_digest 63 = .ok (.iconst 0, 1) := by decide +kernel
theorem dX5_digest_64 : decode cX5_digest 64 = .ok (.istore_n 3, 1) := by decide +kernel
theorem dX5_digest_65 : decode cX5_digest 65 = .ok (.iload_n 3, 1) := by decide +kernel
theorem dX5_digest_66 : decode cX5_digest 66 = .ok (.aload_n 0, 1) := by decide +kernel
theorem dX5_digest_67 : decode cX5_digest 67 = .ok (.getfield 26, 3) := by decide +kernel
theorem dX5_digest_70 : decode cX5_digest 70 = .ok (.getfield 177, 3) := by decide +kernel
theorem dX5_digest_73 : decode cX5_digest 73 = .ok (.if_icmp .ge 16, 3) := by decide +kernel
theorem dX5_digest_76 : decode cX5_digest 76 = .ok (.aload_n 0, 1) := by decide +kernel
theorem dX5_digest_77 : decode cX5_digest 77 = .ok (.lload_n 1, 1) := by decide +kernel
theorem dX5_digest_78 : decode cX5_digest 78 = .ok (.iload_n 3, 1) := by decide +kernel
theorem dX5_digest_79 : decode cX5_digest 79 = .ok (.invokevirtual 219, 3) := by decide +kernel
theorem dX5_digest_82 : decode cX5_digest 82 = .ok (.lstore_n 1, 1) := by decide +kernel
theorem dX5_digest_83 : decode cX5_digest 83 = .ok (.iinc 3 1, 3) := by decide +kernel
theorem dX5_digest_86 : decode cX5_digest 86 = .ok (.goto (-21), 3) := by decide +kernel
theorem dX5_digest_89 : decode cX5_digest 89 = .ok (.aload_n 0, 1) := by decide +kernel
theorem dX5_digest_90 : decode cX5_digest 90 = .ok (.lload_n 1, 1) := by decide +kernel
theorem dX5_digest_91 : decode cX5_digest 91 = .ok (.invokevirtual 222, 3) := by decide +kernel
theorem dX5_digest_94 : decode cX5_digest 94 = .ok (.lstore_n 1, 1) := by decide +kernel
theorem dX5_digest_95 : decode cX5_digest 95 = .ok (.lload_n 1, 1) := by decide +kernel
theorem dX5_digest_96 : decode cX5_digest 96 = .ok (.aload_n 0, 1) := by decide +kernel
theorem dX5_digest_97 : decode cX5_digest 97 = .ok (.invokevirtual 226, 3) := by decide +kernel
theorem dX5_digest_100 : decode cX5_digest 100 = .ok (.i2l, 1) := by decide +kernel
theorem dX5_digest_101 : decode cX5_digest 101 = .ok (.invokestatic 211, 3) := by decide +kernel
theorem dX5_digest_104 : decode cX5_digest 104 = .ok (.lstore_n 1, 1) := by decide +kernel
theorem dX5_digest_105 : decode cX5_digest 105 = .ok (.lload_n 1, 1) := by decide +kernel
theorem dX5_digest_106 : decode cX5_digest 106 = .ok (.aload_n 0, 1) := by decide +kernel
theorem dX5_digest_107 : decode cX5_digest 107 = .ok (.invokevirtual 229, 3) := by decide +kernel
theorem dX5_digest_110 : decode cX5_digest 110 = .ok (.invokestatic 233, 3) := by decide +kernel
theorem dX5_digest_113 : decode cX5_digest 113 = .ok (.invokestatic 211, 3) := by decide +kernel
theorem dX5_digest_116 : decode cX5_digest 116 = .ok (.lstore_n 1, 1) := by decide +kernel
theorem dX5_digest_117 : decode cX5_digest 117 = .ok (.aload_n 0, 1) := by decide +kernel
theorem dX5_digest_118 : decode cX5_digest 118 = .ok (.lload_n 1, 1) := by decide +kernel
theorem dX5_digest_119 : decode cX5_digest 119 = .ok (.invokevirtual 237, 3) := by decide +kernel
theorem dX5_digest_122 : decode cX5_digest 122 = .ok (.lreturn, 1) := by decide +kernel
theorem dX5_at_0 : decode cX5_at 0 = .ok (.aload_n 0, 1) := by decide +kernel
theorem dX5_at_1 : decode cX5_at 1 = .ok (.ifnull 19, 3) := by decide +kernel
theorem dX5_at_4 : decode cX5_at 4 = .ok (.iload_n 1, 1) := by decide +kernel
theorem dX5_at_5 : decode cX5_at 5 = .ok (.ifCond .lt 15, 3) := by decide +kernel
theorem dX5_at_8 : decode cX5_at 8 = .ok (.iload_n 1, 1) := by decide +kernel
theorem dX5_at_9 : decode cX5_at 9 = .ok (.aload_n 0, 1) := by decide +kernel
theorem dX5_at_10 : decode cX5_at 10 = .ok (.arraylength, 1) := by decide +kernel
theorem dX5_at_11 : decode cX5_at 11 = .ok (.if_icmp .ge 9, 3) := by decide +kernel
theorem dX5_at_14 : decode cX5_at 14 = .ok (.aload_n 0, 1) := by decide +kernel
theorem dX5_at_15 : decode cX5_at 15 = .ok (.iload_n 1, 1) := by decide +kernel
theorem dX5_at_16 : decode cX5_at 16 = .ok (.iaload, 1) := by decide +kernel
theorem dX5_at_17 : decode cX5_at 17 = .ok (.goto 4, 3) := by decide +kernel
theorem dX5_at_20 : decode cX5_at 20 = .ok (.iconst 0, 1) := by decide +kernel
theorem dX5_at_21 : decode cX5_at 21 = .ok (.ireturn, 1) := by decide +kernel
theorem dX5_put_0 : decode cX5_put 0 = .ok (.aload_n 0, 1) := by decide +kernel
theorem dX5_put_1 : decode cX5_put 1 = .ok (.ifnull 17, 3) := by decide +kernel
theorem dX5_put_4 : decode cX5_put 4 = .ok (.iload_n 1, 1) := by decide +kernel
theorem dX5_put_5 : decode cX5_put 5 = .ok (.ifCond .lt 13, 3) := by decide +kernel
theorem dX5_put_8 : decode cX5_put 8 = .ok (.iload_n 1, 1) := by decide +kernel
theorem dX5_put_9 : decode cX5_put 9 = .ok (.aload_n 0, 1) := by decide +kernel
theorem dX5_put_10 : decode cX5_put 10 = .ok (.arraylength, 1) := by decide +kernel
theorem dX5_put_11 : decode cX5_put 11 = .ok (.if_icmp .ge 7, 3) := by decide +kernel
theorem dX5_put_14 : decode cX5_put 14 = .ok (.aload_n 0, 1) := by decide +kernel
theorem dX5_put_15 : decode cX5_put 15 = .ok (.iload_n 1, 1) := by decide +kernel
theorem dX5_put_16 : decode cX5_put 16 = .ok (.iload_n 2, 1) := by decide +kernel
theorem dX5_put_17 : decode cX5_put 17 = .ok (.iastore, 1) := by decide +kernel
theorem dX5_put_18 : decode cX5_put 18 = .ok (.return_, 1) := by decide +kernel
theorem dX5_isSlot_0 : decode cX5_isSlot 0 = .ok (.iload_n 0, 1) := by decide +kernel
theorem dX5_isSlot_1 : decode cX5_isSlot 1 = .ok (.ifCond .lt 13, 3) := by decide +kernel
theorem dX5_isSlot_4 : decode cX5_isSlot 4 = .ok (.iload_n 0, 1) := by decide +kernel
theorem dX5_isSlot_5 : decode cX5_isSlot 5 = .ok (.bipush 8, 2) := by decide +kernel
theorem dX5_isSlot_7 : decode cX5_isSlot 7 = .ok (.if_icmp .ge 7, 3) := by decide +kernel
theorem dX5_isSlot_10 : decode cX5_isSlot 10 = .ok (.iconst 1, 1) := by decide +kernel
theorem dX5_isSlot_11 : decode cX5_isSlot 11 = .ok (.goto 4, 3) := by decide +kernel
theorem dX5_isSlot_14 : decode cX5_isSlot 14 = .ok (.iconst 0, 1) := by decide +kernel
theorem dX5_isSlot_15 : decode cX5_isSlot 15 = .ok (.ireturn, 1) := by decide +kernel
theorem dX5_isLetter_0 : decode cX5_isLetter 0 = .ok (.iload_n 0, 1) := by decide +kernel
theorem dX5_isLetter_1 : decode cX5_isLetter 1 = .ok (.ifCond .lt 12, 3) := by decide +kernel
theorem dX5_isLetter_4 : decode cX5_isLetter 4 = .ok (.iload_n 0, 1) := by decide +kernel
theorem dX5_isLetter_5 : decode cX5_isLetter 5 = .ok (.iconst 4, 1) := by decide +kernel
theorem dX5_isLetter_6 : decode cX5_isLetter 6 = .ok (.if_icmp .ge 7, 3) := by decide +kernel
theorem dX5_isLetter_9 : decode cX5_isLetter 9 = .ok (.iconst 1, 1) := by decide +kernel
theorem dX5_isLetter_10 : decode cX5_isLetter 10 = .ok (.goto 4, 3) := by decide +kernel
theorem dX5_isLetter_13 : decode cX5_isLetter 13 = .ok (.iconst 0, 1) := by decide +kernel
theorem dX5_isLetter_14 : decode cX5_isLetter 14 = .ok (.ireturn, 1) := by decide +kernel
set_option maxRecDepth 20000 in
theorem ggX5_patternIn_X5_at : GoodIn wsX5_patternIn wsX5_at := goodIn_r _ [6] (by decide +kernel) (by decide +kernel)
set_option maxRecDepth 20000 in
theorem gX5_patternIn_X5_at : GoodIn wsX5_patternIn (va_wsS RX5 68 yX5_at wsX5_at) := goodIn_app (goodIn_of _ (by decide +kernel)) ggX5_patternIn_X5_at
theorem dX5_patternIn_0 : decode cX5_patternIn 0 = .ok (.aload_n 0, 1) := by decide +kernel
theorem dX5_patternIn_1 : decode cX5_patternIn 1 = .ok (.getfield 12, 3) := by decide +kernel
theorem dX5_patternIn_4 : decode cX5_patternIn 4 = .ok (.getfield 65, 3) := by decide +kernel
theorem dX5_patternIn_7 : decode cX5_patternIn 7 = .ok (.iload_n 1, 1) := by decide +kernel
theorem dX5_patternIn_8 : decode cX5_patternIn 8 = .ok (.invokestatic 68, 3) := by decide +kernel
theorem dX5_patternIn_11 : decode cX5_patternIn 11 = .ok (.ireturn, 1) := by decide +kernel
set_option maxRecDepth 20000 in
theorem ggX5_draftPatterns_X5_patternIn : GoodIn wsX5_draftPatterns wsX5_patternIn := goodIn_r _ [9, 10, 11, 12, 13, 8, 14, 33, 34, 35, 36, 37, 40, 41, 42, 43, 44, 45, 46, 47, 48, 49] (by decide +kernel) (by decide +kernel)
set_option maxRecDepth 20000 in
theorem gX5_draftPatterns_X5_patternIn : GoodIn wsX5_draftPatterns (wsV RX5 92 RX5 yX5_patternIn wsX5_patternIn) := goodIn_app (goodIn_of _ (by decide +kernel)) ggX5_draftPatterns_X5_patternIn
set_option maxRecDepth 20000 in
theorem ggX5_draftPatterns_X5_put : GoodIn wsX5_draftPatterns wsX5_put := goodIn_r _ [17] (by decide +kernel) (by decide +kernel)
set_option maxRecDepth 20000 in
theorem gX5_draftPatterns_X5_put : GoodIn wsX5_draftPatterns (va_wsS RX5 72 yX5_put wsX5_put) := goodIn_app (goodIn_of _ (by decide +kernel)) ggX5_draftPatterns_X5_put
set_option maxRecDepth 20000 in
theorem ggX5_draftPatterns_X5_at : GoodIn wsX5_draftPatterns wsX5_at := goodIn_r _ [14] (by decide +kernel) (by decide +kernel)
set_option maxRecDepth 20000 in
theorem gX5_draftPatterns_X5_at : GoodIn wsX5_draftPatterns (va_wsS RX5 68 yX5_at wsX5_at) := goodIn_app (goodIn_of _ (by decide +kernel)) ggX5_draftPatterns_X5_at
set_option maxRecDepth 20000 in
theorem ggX5_draftPatterns_X3_behind : GoodIn wsX5_draftPatterns wsX3_behind := goodIn_r _ [21] (by decide +kernel) (by decide +kernel)
set_option maxRecDepth 20000 in
theorem gX5_draftPatterns_X3_behind : GoodIn wsX5_draftPatterns (va_wsS RX5 243 yX3_behind wsX3_behind) := goodIn_app (goodIn_of _ (by decide +kernel)) ggX5_draftPatterns_X3_behind
set_option maxRecDepth 20000 in
theorem ggX5_draftPatterns_X0_endsPart : GoodIn wsX5_draftPatterns wsX0_endsPart := goodIn_r _ [26, 27, 28, 13, 8, 14, 38, 39] (by decide +kernel) (by decide +kernel)
set_option maxRecDepth 20000 in
theorem gX5_draftPatterns_X0_endsPart : GoodIn wsX5_draftPatterns (wsV RX5 246 RX0 yX0_endsPart wsX0_endsPart) := goodIn_app (goodIn_of _ (by decide +kernel)) ggX5_draftPatterns_X0_endsPart
set_option maxRecDepth 20000 in
theorem ggX5_draftPatterns_X5_draftSlotOf : GoodIn wsX5_draftPatterns wsX5_draftSlotOf := goodIn_r _ [32, 1, 12, 13, 8, 14, 33, 34, 35, 36, 37] (by decide +kernel) (by decide +kernel)
set_option maxRecDepth 20000 in
theorem gX5_draftPatterns_X5_draftSlotOf : GoodIn wsX5_draftPatterns (wsV RX5 249 RX5 yX5_draftSlotOf wsX5_draftSlotOf) := goodIn_app (goodIn_of _ (by decide +kernel)) ggX5_draftPatterns_X5_draftSlotOf
theorem dX5_draftPatterns_0 : decode cX5_draftPatterns 0 = .ok (.iconst 0, 1) := by decide +kernel
theorem dX5_draftPatterns_1 : decode cX5_draftPatterns 1 = .ok (.istore_n 1, 1) := by decide +kernel
theorem dX5_draftPatterns_2 : decode cX5_draftPatterns 2 = .ok (.iload_n 1, 1) := by decide +kernel
theorem dX5_draftPatterns_3 : decode cX5_draftPatterns 3 = .ok (.bipush 8, 2) := by decide +kernel
theorem dX5_draftPatterns_5 : decode cX5_draftPatterns 5 = .ok (.if_icmp .ge 22, 3) := by decide +kernel
theorem dX5_draftPatterns_8 : decode cX5_draftPatterns 8 = .ok (.aload_n 0, 1) := by decide +kernel
theorem dX5_draftPatterns_9 : decode cX5_draftPatterns 9 = .ok (.getfield 37, 3) := by decide +kernel
theorem dX5_draftPatterns_12 : decode cX5_draftPatterns 12 = .ok (.iload_n 1, 1) := by decide +kernel
theorem dX5_draftPatterns_13 : decode cX5_draftPatterns 13 = .ok (.aload_n 0, 1) := by decide +kernel
theorem dX5_draftPatterns_14 : decode cX5_draftPatterns 14 = .ok (.iload_n 1, 1) := by decide +kernel
theorem dX5_draftPatterns_15 : decode cX5_draftPatterns 15 = .ok (.invokevirtual 92, 3) := by decide +kernel
theorem dX5_draftPatterns_18 : decode cX5_draftPatterns 18 = .ok (.invokestatic 72, 3) := by decide +kernel
theorem dX5_draftPatterns_21 : decode cX5_draftPatterns 21 = .ok (.iinc 1 1, 3) := by decide +kernel
theorem dX5_draftPatterns_24 : decode cX5_draftPatterns 24 = .ok (.goto (-22), 3) := by decide +kernel
theorem dX5_draftPatterns_27 : decode cX5_draftPatterns 27 = .ok (.iconst 0, 1) := by decide +kernel
theorem dX5_draftPatterns_28 : decode cX5_draftPatterns 28 = .ok (.istore_n 1, 1) := by decide +kernel
theorem dX5_draftPatterns_29 : decode cX5_draftPatterns 29 = .ok (.iconst 1, 1) := by decide +kernel
theorem dX5_draftPatterns_30 : decode cX5_draftPatterns 30 = .ok (.istore_n 2, 1) := by decide +kernel
theorem dX5_draftPatterns_31 : decode cX5_draftPatterns 31 = .ok (.iconst 0, 1) := by decide +kernel
theorem dX5_draftPatterns_32 : decode cX5_draftPatterns 32 = .ok (.istore_n 3, 1) := by decide +kernel
theorem dX5_draftPatterns_33 : decode cX5_draftPatterns 33 = .ok (.iload_n 3, 1) := by decide +kernel
theorem dX5_draftPatterns_34 : decode cX5_draftPatterns 34 = .ok (.aload_n 0, 1) := by decide +kernel
theorem dX5_draftPatterns_35 : decode cX5_draftPatterns 35 = .ok (.getfield 33, 3) := by decide +kernel
theorem dX5_draftPatterns_38 : decode cX5_draftPatterns 38 = .ok (.getfield 142, 3) := by decide +kernel
theorem dX5_draftPatterns_41 : decode cX5_draftPatterns 41 = .ok (.if_icmp .ge 91, 3) := by decide +kernel
theorem dX5_draftPatterns_44 : decode cX5_draftPatterns 44 = .ok (.aload_n 0, 1) := by decide +kernel
theorem dX5_draftPatterns_45 : decode cX5_draftPatterns 45 = .ok (.getfield 33, 3) := by decide +kernel
theorem dX5_draftPatterns_48 : decode cX5_draftPatterns 48 = .ok (.getfield 240, 3) := by decide +kernel
theorem dX5_draftPatterns_51 : decode cX5_draftPatterns 51 = .ok (.iload_n 3, 1) := by decide +kernel
theorem dX5_draftPatterns_52 : decode cX5_draftPatterns 52 = .ok (.invokestatic 68, 3) := by decide +kernel
theorem dX5_draftPatterns_55 : decode cX5_draftPatterns 55 = .ok (.istore 4, 2) := by decide +kernel
theorem dX5_draftPatterns_57 : decode cX5_draftPatterns 57 = .ok (.iload 4, 2) := by decide +kernel
theorem dX5_draftPatterns_59 : decode cX5_draftPatterns 59 = .ok (.bipush 59, 2) := by decide +kernel
theorem dX5_draftPatterns_61 : decode cX5_draftPatterns 61 = .ok (.if_icmp .ne 7, 3) := by decide +kernel
theorem dX5_draftPatterns_64 : decode cX5_draftPatterns 64 = .ok (.iconst 1, 1) := by decide +kernel
theorem dX5_draftPatterns_65 : decode cX5_draftPatterns 65 = .ok (.goto 12, 3) := by decide +kernel
theorem dX5_draftPatterns_68 : decode cX5_draftPatterns 68 = .ok (.iload_n 2, 1) := by decide +kernel
theorem dX5_draftPatterns_69 : decode cX5_draftPatterns 69 = .ok (.iload 4, 2) := by decide +kernel
theorem dX5_draftPatterns_71 : decode cX5_draftPatterns 71 = .ok (.bipush 97, 2) := by decide +kernel
theorem dX5_draftPatterns_73 : decode cX5_draftPatterns 73 = .ok (.isub, 1) := by decide +kernel
theorem dX5_draftPatterns_74 : decode cX5_draftPatterns 74 = .ok (.invokestatic 243, 3) := by decide +kernel
theorem dX5_draftPatterns_77 : decode cX5_draftPatterns 77 = .ok (.istore_n 2, 1) := by decide +kernel
theorem dX5_draftPatterns_78 : decode cX5_draftPatterns 78 = .ok (.aload_n 0, 1) := by decide +kernel
theorem dX5_draftPatterns_79 : decode cX5_draftPatterns 79 = .ok (.getfield 33, 3) := by decide +kernel
theorem dX5_draftPatterns_82 : decode cX5_draftPatterns 82 = .ok (.iload_n 3, 1) := by decide +kernel
theorem dX5_draftPatterns_83 : decode cX5_draftPatterns 83 = .ok (.invokevirtual 246, 3) := by decide +kernel
theorem dX5_draftPatterns_86 : decode cX5_draftPatterns 86 = .ok (.ifCond .eq 40, 3) := by decide +kernel
theorem dX5_draftPatterns_89 : decode cX5_draftPatterns 89 = .ok (.aload_n 0, 1) := by decide +kernel
theorem dX5_draftPatterns_90 : decode cX5_draftPatterns 90 = .ok (.iload_n 2, 1) := by decide +kernel
theorem dX5_draftPatterns_91 : decode cX5_draftPatterns 91 = .ok (.invokevirtual 249, 3) := by decide +kernel
theorem dX5_draftPatterns_94 : decode cX5_draftPatterns 94 = .ok (.iconst (-1), 1) := by decide +kernel
theorem dX5_draftPatterns_95 : decode cX5_draftPatterns 95 = .ok (.if_icmp .ne 31, 3) := by decide +kernel
theorem dX5_draftPatterns_98 : decode cX5_draftPatterns 98 = .ok (.aload_n 0, 1) := by decide +kernel
theorem dX5_draftPatterns_99 : decode cX5_draftPatterns 99 = .ok (.iconst 0, 1) := by decide +kernel
theorem dX5_draftPatterns_100 : decode cX5_draftPatterns 100 = .ok (.invokevirtual 249, 3) := by decide +kernel
theorem dX5_draftPatterns_103 : decode cX5_draftPatterns 103 = .ok (.istore 5, 2) := by decide +kernel
theorem dX5_draftPatterns_105 : decode cX5_draftPatterns 105 = .ok (.iload 5, 2) := by decide +kernel
theorem dX5_draftPatterns_107 : decode cX5_draftPatterns 107 = .ok (.iconst (-1), 1) := by decide +kernel
theorem dX5_draftPatterns_108 : decode cX5_draftPatterns 108 = .ok (.if_icmp .ne 5, 3) := by decide +kernel
theorem dX5_draftPatterns_111 : decode cX5_draftPatterns 111 = .ok (.iconst (-1), 1) := by decide +kernel
theorem dX5_draftPatterns_112 : decode cX5_draftPatterns 112 = .ok (.ireturn, 1) := by decide +kernel
theorem dX5_draftPatterns_113 : decode cX5_draftPatterns 113 = .ok (.aload_n 0, 1) := by decide +kernel
theorem dX5_draftPatterns_114 : decode cX5_draftPatterns 114 = .ok (.getfield 37, 3) := by decide +kernel
theorem dX5_draftPatterns_117 : decode cX5_draftPatterns 117 = .ok (.iload 5, 2) := by decide +kernel
theorem dX5_draftPatterns_119 : decode cX5_draftPatterns 119 = .ok (.iload_n 2, 1) := by decide +kernel
theorem dX5_draftPatterns_120 : decode cX5_draftPatterns 120 = .ok (.invokestatic 72, 3) := by decide +kernel
theorem dX5_draftPatterns_123 : decode cX5_draftPatterns 123 = .ok (.iinc 1 1, 3) := by decide +kernel
theorem dX5_draftPatterns_126 : decode cX5_draftPatterns 126 = .ok (.iinc 3 1, 3) := by decide +kernel
theorem dX5_draftPatterns_129 : decode cX5_draftPatterns 129 = .ok (.goto (-96), 3) := by decide +kernel
theorem dX5_draftPatterns_132 : decode cX5_draftPatterns 132 = .ok (.iload_n 1, 1) := by decide +kernel
theorem dX5_draftPatterns_133 : decode cX5_draftPatterns 133 = .ok (.ireturn, 1) := by decide +kernel
set_option maxRecDepth 20000 in
theorem ggX5_draftSlotOf_X5_at : GoodIn wsX5_draftSlotOf wsX5_at := goodIn_r _ [5] (by decide +kernel) (by decide +kernel)
set_option maxRecDepth 20000 in
theorem gX5_draftSlotOf_X5_at : GoodIn wsX5_draftSlotOf (va_wsS RX5 68 yX5_at wsX5_at) := goodIn_app (goodIn_of _ (by decide +kernel)) ggX5_draftSlotOf_X5_at
theorem dX5_draftSlotOf_0 : decode cX5_draftSlotOf 0 = .ok (.iconst 0, 1) := by decide +kernel
theorem dX5_draftSlotOf_1 : decode cX5_draftSlotOf 1 = .ok (.istore_n 2, 1) := by decide +kernel
theorem dX5_draftSlotOf_2 : decode cX5_draftSlotOf 2 = .ok (.iload_n 2, 1) := by decide +kernel
theorem dX5_draftSlotOf_3 : decode cX5_draftSlotOf 3 = .ok (.bipush 8, 2) := by decide +kernel
theorem dX5_draftSlotOf_5 : decode cX5_draftSlotOf 5 = .ok (.if_icmp .ge 23, 3) := by decide +kernel
theorem dX5_draftSlotOf_8 : decode cX5_draftSlotOf 8 = .ok (.aload_n 0, 1) := by decide +kernel
theorem dX5_draftSlotOf_9 : decode cX5_draftSlotOf 9 = .ok (.getfield 37, 3) := by decide +kernel
theorem dX5_draftSlotOf_12 : decode cX5_draftSlotOf 12 = .ok (.iload_n 2, 1) := by decide +kernel
theorem dX5_draftSlotOf_13 : decode cX5_draftSlotOf 13 = .ok (.invokestatic 68, 3) := by decide +kernel
theorem dX5_draftSlotOf_16 : decode cX5_draftSlotOf 16 = .ok (.iload_n 1, 1) := by decide +kernel
theorem dX5_draftSlotOf_17 : decode cX5_draftSlotOf 17 = .ok (.if_icmp .ne 5, 3) := by decide +kernel
theorem dX5_draftSlotOf_20 : decode cX5_draftSlotOf 20 = .ok (.iload_n 2, 1) := by decide +kernel
theorem dX5_draftSlotOf_21 : decode cX5_draftSlotOf 21 = .ok (.ireturn, 1) := by decide +kernel
theorem dX5_draftSlotOf_22 : decode cX5_draftSlotOf 22 = .ok (.iinc 2 1, 3) := by decide +kernel
theorem dX5_draftSlotOf_25 : decode cX5_draftSlotOf 25 = .ok (.goto (-23), 3) := by decide +kernel
theorem dX5_draftSlotOf_28 : decode cX5_draftSlotOf 28 = .ok (.iconst (-1), 1) := by decide +kernel
theorem dX5_draftSlotOf_29 : decode cX5_draftSlotOf 29 = .ok (.ireturn, 1) := by decide +kernel
set_option maxRecDepth 20000 in
theorem ggX5_patternProperty_X5_patternIn : GoodIn wsX5_patternProperty wsX5_patternIn := goodIn_r _ [9, 1, 10, 11, 12, 8, 13, 56, 57, 58, 59, 60, 61, 62, 63, 64, 65, 66, 67, 68, 69, 70] (by decide +kernel) (by decide +kernel)
set_option maxRecDepth 20000 in
theorem gX5_patternProperty_X5_patternIn : GoodIn wsX5_patternProperty (wsV RX5 92 RX5 yX5_patternIn wsX5_patternIn) := goodIn_app (goodIn_of _ (by decide +kernel)) ggX5_patternProperty_X5_patternIn
set_option maxRecDepth 20000 in
theorem ggX5_patternProperty_X3_lengthOf : GoodIn wsX5_patternProperty wsX3_lengthOf := goodIn_r _ [17] (by decide +kernel) (by decide +kernel)
set_option maxRecDepth 20000 in
theorem gX5_patternProperty_X3_lengthOf : GoodIn wsX5_patternProperty (va_wsS RX5 252 yX3_lengthOf wsX3_lengthOf) := goodIn_app (goodIn_of _ (by decide +kernel)) ggX5_patternProperty_X3_lengthOf
set_option maxRecDepth 20000 in
theorem ggX5_patternProperty_X5_at : GoodIn wsX5_patternProperty wsX5_at := goodIn_r _ [13] (by decide +kernel) (by decide +kernel)
set_option maxRecDepth 20000 in
theorem gX5_patternProperty_X5_at : GoodIn wsX5_patternProperty (va_wsS RX5 68 yX5_at wsX5_at) := goodIn_app (goodIn_of _ (by decide +kernel)) ggX5_patternProperty_X5_at
set_option maxRecDepth 20000 in
theorem ggX5_patternProperty_X1_stateBehind : GoodIn wsX5_patternProperty wsX1_stateBehind := goodIn_r _ [22, 23, 15, 16, 17, 24, 25, 26, 27, 28, 29, 30, 31, 32, 33, 21, 34, 35, 12, 8, 13, 71, 72, 73, 74, 75] (by decide +kernel) (by decide +kernel)
set_option maxRecDepth 20000 in
theorem gX5_patternProperty_X1_stateBehind : GoodIn wsX5_patternProperty (wsV RX5 258 RX1 yX1_stateBehind wsX1_stateBehind) := goodIn_app (goodIn_of _ (by decide +kernel)) ggX5_patternProperty_X1_stateBehind
set_option maxRecDepth 20000 in
theorem ggX5_patternProperty_X5_othersInside : GoodIn wsX5_patternProperty wsX5_othersInside := goodIn_r _ [39, 5, 6, 7, 8, 9, 1, 10, 11, 12, 13, 40, 41, 16, 42, 27, 15, 17, 43, 44, 45, 46, 47, 48, 49, 50, 51, 56, 57, 58, 59, 60, 61, 62, 63, 64, 65, 66, 67, 68, 69, 70] (by decide +kernel) (by decide +kernel)
set_option maxRecDepth 20000 in
theorem gX5_patternProperty_X5_othersInside : GoodIn wsX5_patternProperty (wsV RX5 261 RX5 yX5_othersInside wsX5_othersInside) := goodIn_app (goodIn_of _ (by decide +kernel)) ggX5_patternProperty_X5_othersInside
set_option maxRecDepth 20000 in
theorem ggX5_patternProperty_X5_othersAround : GoodIn wsX5_patternProperty wsX5_othersAround := goodIn_r _ [55, 5, 6, 7, 8, 9, 1, 10, 11, 12, 13, 40, 41, 16, 42, 27, 15, 17, 43, 44, 45, 46, 47, 48, 49, 50, 51, 56, 57, 58, 59, 60, 61, 62, 63, 64, 65, 66, 67, 68, 69, 70] (by decide +kernel) (by decide +kernel)
set_option maxRecDepth 20000 in
theorem gX5_patternProperty_X5_othersAround : GoodIn wsX5_patternProperty (wsV RX5 264 RX5 yX5_othersAround wsX5_othersAround) := goodIn_app (goodIn_of _ (by decide +kernel)) ggX5_patternProperty_X5_othersAround
theorem dX5_patternProperty_0 : decode cX5_patternProperty 0 = .ok (.aload_n 0, 1) := by decide +kernel
theorem dX5_patternProperty_1 : decode cX5_patternProperty 1 = .ok (.iload_n 1, 1) := by decide +kernel
theorem dX5_patternProperty_2 : decode cX5_patternProperty 2 = .ok (.invokevirtual 92, 3) := by decide +kernel
theorem dX5_patternProperty_5 : decode cX5_patternProperty 5 = .ok (.istore_n 3, 1) := by decide +kernel
theorem dX5_patternProperty_6 : decode cX5_patternProperty 6 = .ok (.iload_n 2, 1) := by decide +kernel
theorem dX5_patternProperty_7 : decode cX5_patternProperty 7 = .ok (.tableswitch 85 0 4 #[33, 38, 50, 62, 79], 33) := by decide +kernel
theorem dX5_patternProperty_40 : decode cX5_patternProperty 40 = .ok (.iload_n 3, 1) := by decide +kernel
theorem dX5_patternProperty_41 : decode cX5_patternProperty 41 = .ok (.invokestatic 252, 3) := by decide +kernel
theorem dX5_patternProperty_44 : decode cX5_patternProperty 44 = .ok (.ireturn, 1) := by decide +kernel
theorem dX5_patternProperty_45 : decode cX5_patternProperty 45 = .ok (.aload_n 0, 1) := by decide +kernel
theorem dX5_patternProperty_46 : decode cX5_patternProperty 46 = .ok (.getfield 12, 3) := by decide +kernel
theorem dX5_patternProperty_49 : decode cX5_patternProperty 49 = .ok (.getfield 98, 3) := by decide +kernel
theorem dX5_patternProperty_52 : decode cX5_patternProperty 52 = .ok (.iload_n 1, 1) := by decide +kernel
theorem dX5_patternProperty_53 : decode cX5_patternProperty 53 = .ok (.invokestatic 68, 3) := by decide +kernel
theorem dX5_patternProperty_56 : decode cX5_patternProperty 56 = .ok (.ireturn, 1) := by decide +kernel
theorem dX5_patternProperty_57 : decode cX5_patternProperty 57 = .ok (.aload_n 0, 1) := by decide +kernel
theorem dX5_patternProperty_58 : decode cX5_patternProperty 58 = .ok (.getfield 12, 3) := by decide +kernel
theorem dX5_patternProperty_61 : decode cX5_patternProperty 61 = .ok (.getfield 255, 3) := by decide +kernel
theorem dX5_patternProperty_64 : decode cX5_patternProperty 64 = .ok (.iload_n 1, 1) := by decide +kernel
theorem dX5_patternProperty_65 : decode cX5_patternProperty 65 = .ok (.invokestatic 68, 3) := by decide +kernel
theorem dX5_patternProperty_68 : decode cX5_patternProperty 68 = .ok (.ireturn, 1) := by decide +kernel
theorem dX5_patternProperty_69 : decode cX5_patternProperty 69 = .ok (.iload_n 3, 1) := by decide +kernel
theorem dX5_patternProperty_70 : decode cX5_patternProperty 70 = .ok (.ifCond .ne 7, 3) := by decide +kernel
theorem dX5_patternProperty_73 : decode cX5_patternProperty 73 = .ok (.iconst (-1), 1) := by decide +kernel
theorem dX5_patternProperty_74 : decode cX5_patternProperty 74 = .ok (.goto 11, 3) := by decide +kernel
theorem dX5_patternProperty_77 : decode cX5_patternProperty 77 = .ok (.aload_n 0, 1) := by decide +kernel
theorem dX5_patternProperty_78 : decode cX5_patternProperty 78 = .ok (.getfield 26, 3) := by decide +kernel
theorem dX5_patternProperty_81 : decode cX5_patternProperty 81 = .ok (.iload_n 3, 1) := by decide +kernel
theorem dX5_patternProperty_82 : decode cX5_patternProperty 82 = .ok (.invokevirtual 258, 3) := by decide +kernel
theorem dX5_patternProperty_85 : decode cX5_patternProperty 85 = .ok (.ireturn, 1) := by decide +kernel
theorem dX5_patternProperty_86 : decode cX5_patternProperty 86 = .ok (.aload_n 0, 1) := by decide +kernel
theorem dX5_patternProperty_87 : decode cX5_patternProperty 87 = .ok (.iload_n 1, 1) := by decide +kernel
theorem dX5_patternProperty_88 : decode cX5_patternProperty 88 = .ok (.invokevirtual 261, 3) := by decide +kernel
theorem dX5_patternProperty_91 : decode cX5_patternProperty 91 = .ok (.ireturn, 1) := by decide +kernel
theorem dX5_patternProperty_92 : decode cX5_patternProperty 92 = .ok (.aload_n 0, 1) := by decide +kernel
theorem dX5_patternProperty_93 : decode cX5_patternProperty 93 = .ok (.iload_n 1, 1) := by decide +kernel
theorem dX5_patternProperty_94 : decode cX5_patternProperty 94 = .ok (.invokevirtual 264, 3) := by decide +kernel
theorem dX5_patternProperty_97 : decode cX5_patternProperty 97 = .ok (.ireturn, 1) := by decide +kernel
set_option maxRecDepth 20000 in
theorem ggX5_othersInside_X5_patternIn : GoodIn wsX5_othersInside wsX5_patternIn := goodIn_r _ [5, 6, 7, 8, 9, 4, 10, 27, 28, 29, 30, 31, 32, 33, 34, 35, 36, 37, 38, 39, 40, 41] (by decide +kernel) (by decide +kernel)
set_option maxRecDepth 20000 in
theorem gX5_othersInside_X5_patternIn : GoodIn wsX5_othersInside (wsV RX5 92 RX5 yX5_patternIn wsX5_patternIn) := goodIn_app (goodIn_of _ (by decide +kernel)) ggX5_othersInside_X5_patternIn
set_option maxRecDepth 20000 in
theorem ggX5_othersInside_X3_isPart : GoodIn wsX5_othersInside wsX3_isPart := goodIn_r _ [14, 15, 16, 13, 17, 18, 19, 20, 21, 22, 23, 24, 25, 26] (by decide +kernel) (by decide +kernel)
set_option maxRecDepth 20000 in
theorem gX5_othersInside_X3_isPart : GoodIn wsX5_othersInside (va_wsS RX5 267 yX3_isPart wsX3_isPart) := goodIn_app (goodIn_of _ (by decide +kernel)) ggX5_othersInside_X3_isPart
theorem dX5_othersInside_0 : decode cX5_othersInside 0 = .ok (.iconst 0, 1) := by decide +kernel
theorem dX5_othersInside_1 : decode cX5_othersInside 1 = .ok (.istore_n 2, 1) := by decide +kernel
theorem dX5_othersInside_2 : decode cX5_othersInside 2 = .ok (.iconst 0, 1) := by decide +kernel
theorem dX5_othersInside_3 : decode cX5_othersInside 3 = .ok (.istore_n 3, 1) := by decide +kernel
theorem dX5_othersInside_4 : decode cX5_othersInside 4 = .ok (.iload_n 3, 1) := by decide +kernel
theorem dX5_othersInside_5 : decode cX5_othersInside 5 = .ok (.bipush 8, 2) := by decide +kernel
theorem dX5_othersInside_7 : decode cX5_othersInside 7 = .ok (.if_icmp .ge 33, 3) := by decide +kernel
theorem dX5_othersInside_10 : decode cX5_othersInside 10 = .ok (.iload_n 3, 1) := by decide +kernel
theorem dX5_othersInside_11 : decode cX5_othersInside 11 = .ok (.iload_n 1, 1) := by decide +kernel
theorem dX5_othersInside_12 : decode cX5_othersInside 12 = .ok (.if_icmp .eq 22, 3) := by decide +kernel
theorem dX5_othersInside_15 : decode cX5_othersInside 15 = .ok (.aload_n 0, 1) := by decide +kernel
theorem dX5_othersInside_16 : decode cX5_othersInside 16 = .ok (.iload_n 3, 1) := by decide +kernel
theorem dX5_othersInside_17 : decode cX5_othersInside 17 = .ok (.invokevirtual 92, 3) := by decide +kernel
theorem dX5_othersInside_20 : decode cX5_othersInside 20 = .ok (.aload_n 0, 1) := by decide +kernel
theorem dX5_othersInside_21 : decode cX5_othersInside 21 = .ok (.iload_n 1, 1) := by decide +kernel
theorem dX5_othersInside_22 : decode cX5_othersInside 22 = .ok (.invokevirtual 92, 3) := by decide +kernel
theorem dX5_othersInside_25 : decode cX5_othersInside 25 = .ok (.invokestatic 267, 3) := by decide +kernel
theorem dX5_othersInside_28 : decode cX5_othersInside 28 = .ok (.ifCond .eq 6, 3) := by decide +kernel
theorem dX5_othersInside_31 : decode cX5_othersInside 31 = .ok (.iinc 2 1, 3) := by decide +kernel
theorem dX5_othersInside_34 : decode cX5_othersInside 34 = .ok (.iinc 3 1, 3) := by decide +kernel
theorem dX5_othersInside_37 : decode cX5_othersInside 37 = .ok (.goto (-33), 3) := by decide +kernel
theorem dX5_othersInside_40 : decode cX5_othersInside 40 = .ok (.iload_n 2, 1) := by decide +kernel
theorem dX5_othersInside_41 : decode cX5_othersInside 41 = .ok (.ireturn, 1) := by decide +kernel
set_option maxRecDepth 20000 in
theorem ggX5_othersAround_X5_patternIn : GoodIn wsX5_othersAround wsX5_patternIn := goodIn_r _ [5, 6, 7, 8, 9, 4, 10, 27, 28, 29, 30, 31, 32, 33, 34, 35, 36, 37, 38, 39, 40, 41] (by decide +kernel) (by decide +kernel)
set_option maxRecDepth 20000 in
theorem gX5_othersAround_X5_patternIn : GoodIn wsX5_othersAround (wsV RX5 92 RX5 yX5_patternIn wsX5_patternIn) := goodIn_app (goodIn_of _ (by decide +kernel)) ggX5_othersAround_X5_patternIn
set_option maxRecDepth 20000 in
theorem ggX5_othersAround_X3_isPart : GoodIn wsX5_othersAround wsX3_isPart := goodIn_r _ [14, 15, 16, 13, 17, 18, 19, 20, 21, 22, 23, 24, 25, 26] (by decide +kernel) (by decide +kernel)
set_option maxRecDepth 20000 in
theorem gX5_othersAround_X3_isPart : GoodIn wsX5_othersAround (va_wsS RX5 267 yX3_isPart wsX3_isPart) := goodIn_app (goodIn_of _ (by decide +kernel)) ggX5_othersAround_X3_isPart
theorem dX5_othersAround_0 : decode cX5_othersAround 0 = .ok (.iconst 0, 1) := by decide +kernel
theorem dX5_othersAround_1 : decode cX5_othersAround 1 = .ok (.istore_n 2, 1) := by decide +kernel
theorem dX5_othersAround_2 : decode cX5_othersAround 2 = .ok (.iconst 0, 1) := by decide +kernel
theorem dX5_othersAround_3 : decode cX5_othersAround 3 = .ok (.istore_n 3, 1) := by decide +kernel
theorem dX5_othersAround_4 : decode cX5_othersAround 4 = .ok (.iload_n 3, 1) := by decide +kernel
theorem dX5_othersAround_5 : decode cX5_othersAround 5 = .ok (.bipush 8, 2) := by decide +kernel
theorem dX5_othersAround_7 : decode cX5_othersAround 7 = .ok (.if_icmp .ge 33, 3) := by decide +kernel
theorem dX5_othersAround_10 : decode cX5_othersAround 10 = .ok (.iload_n 3, 1) := by decide +kernel
theorem dX5_othersAround_11 : decode cX5_othersAround 11 = .ok (.iload_n 1, 1) := by decide +kernel
theorem dX5_othersAround_12 : decode cX5_othersAround 12 = .ok (.if_icmp .eq 22, 3) := by decide +kernel
theorem dX5_othersAround_15 : decode cX5_othersAround 15 = .ok (.aload_n 0, 1) := by decide +kernel
theorem dX5_othersAround_16 : decode cX5_othersAround 16 = .ok (.iload_n 1, 1) := by decide +kernel
theorem dX5_othersAround_17 : decode cX5_othersAround 17 = .ok (.invokevirtual 92, 3) := by decide +kernel
theorem dX5_othersAround_20 : decode cX5_othersAround 20 = .ok (.aload_n 0, 1) := by decide +kernel
theorem dX5_othersAround_21 : decode cX5_othersAround 21 = .ok (.iload_n 3, 1) := by decide +kernel
theorem dX5_othersAround_22 : decode cX5_othersAround 22 = .ok (.invokevirtual 92, 3) := by decide +kernel
theorem dX5_othersAround_25 : decode cX5_othersAround 25 = .ok (.invokestatic 267, 3) := by decide +kernel
theorem dX5_othersAround_28 : decode cX5_othersAround 28 = .ok (.ifCond .eq 6, 3) := by decide +kernel
theorem dX5_othersAround_31 : decode cX5_othersAround 31 = .ok (.iinc 2 1, 3) := by decide +kernel
theorem dX5_othersAround_34 : decode cX5_othersAround 34 = .ok (.iinc 3 1, 3) := by decide +kernel
theorem dX5_othersAround_37 : decode cX5_othersAround 37 = .ok (.goto (-33), 3) := by decide +kernel
theorem dX5_othersAround_40 : decode cX5_othersAround 40 = .ok (.iload_n 2, 1) := by decide +kernel
theorem dX5_othersAround_41 : decode cX5_othersAround 41 = .ok (.ireturn, 1) := by decide +kernel
set_option maxRecDepth 20000 in
theorem ggX5_patternsThatBeginWith_X5_patternIn : GoodIn wsX5_patternsThatBeginWith wsX5_patternIn := goodIn_r _ [5, 6, 7, 8, 9, 4, 10, 18, 19, 20, 21, 22, 23, 24, 25, 26, 27, 28, 29, 30, 31, 32] (by decide +kernel) (by decide +kernel)
set_option maxRecDepth 20000 in
theorem gX5_patternsThatBeginWith_X5_patternIn : GoodIn wsX5_patternsThatBeginWith (wsV RX5 92 RX5 yX5_patternIn wsX5_patternIn) := goodIn_app (goodIn_of _ (by decide +kernel)) ggX5_patternsThatBeginWith_X5_patternIn
set_option maxRecDepth 20000 in
theorem ggX5_patternsThatBeginWith_X3_beginsWith : GoodIn wsX5_patternsThatBeginWith wsX3_beginsWith := goodIn_r _ [14, 15, 16, 13, 17] (by decide +kernel) (by decide +kernel)
set_option maxRecDepth 20000 in
theorem gX5_patternsThatBeginWith_X3_beginsWith : GoodIn wsX5_patternsThatBeginWith (va_wsS RX5 271 yX3_beginsWith wsX3_beginsWith) := goodIn_app (goodIn_of _ (by decide +kernel)) ggX5_patternsThatBeginWith_X3_beginsWith
theorem dX5_patternsThatBeginWith_0 : decode cX5_patternsThatBeginWith 0 = .ok (.iconst 0, 1) := by decide +kernel
theorem dX5_patternsThatBeginWith_1 : decode cX5_patternsThatBeginWith 1 = .ok (.istore_n 2, 1) := by decide +kernel
theorem dX5_patternsThatBeginWith_2 : decode cX5_patternsThatBeginWith 2 = .ok (.iconst 0, 1) := by decide +kernel
theorem dX5_patternsThatBeginWith_3 : decode cX5_patternsThatBeginWith 3 = .ok (.istore_n 3, 1) := by decide +kernel
theorem dX5_patternsThatBeginWith_4 : decode cX5_patternsThatBeginWith 4 = .ok (.iload_n 3, 1) := by decide +kernel
theorem dX5_patternsThatBeginWith_5 : decode cX5_patternsThatBeginWith 5 = .ok (.bipush 8, 2) := by decide +kernel
theorem dX5_patternsThatBeginWith_7 : decode cX5_patternsThatBeginWith 7 = .ok (.if_icmp .ge 33, 3) := by decide +kernel
theorem dX5_patternsThatBeginWith_10 : decode cX5_patternsThatBeginWith 10 = .ok (.aload_n 0, 1) := by decide +kernel
theorem dX5_patternsThatBeginWith_11 : decode cX5_patternsThatBeginWith 11 = .ok (.iload_n 3, 1) := by decide +kernel
theorem dX5_patternsThatBeginWith_12 : decode cX5_patternsThatBeginWith 12 = .ok (.invokevirtual 92, 3) := by decide +kernel
theorem dX5_patternsThatBeginWith_15 : decode cX5_patternsThatBeginWith 15 = .ok (.istore 4, 2) := by decide +kernel
theorem dX5_patternsThatBeginWith_17 : decode cX5_patternsThatBeginWith 17 = .ok (.iload 4, 2) := by decide +kernel
theorem dX5_patternsThatBeginWith_19 : decode cX5_patternsThatBeginWith 19 = .ok (.ifCond .eq 15, 3) := by decide +kernel
theorem dX5_patternsThatBeginWith_22 : decode cX5_patternsThatBeginWith 22 = .ok (.iload 4, 2) := by decide +kernel
theorem dX5_patternsThatBeginWith_24 : decode cX5_patternsThatBeginWith 24 = .ok (.iload_n 1, 1) := by decide +kernel
theorem dX5_patternsThatBeginWith_25 : decode cX5_patternsThatBeginWith 25 = .ok (.invokestatic 271, 3) := by decide +kernel
theorem dX5_patternsThatBeginWith_28 : decode cX5_patternsThatBeginWith 28 = .ok (.ifCond .eq 6, 3) := by decide +kernel
theorem dX5_patternsThatBeginWith_31 : decode cX5_patternsThatBeginWith 31 = .ok (.iinc 2 1, 3) := by decide +kernel
theorem dX5_patternsThatBeginWith_34 : decode cX5_patternsThatBeginWith 34 = .ok (.iinc 3 1, 3) := by decide +kernel
theorem dX5_patternsThatBeginWith_37 : decode cX5_patternsThatBeginWith 37 = .ok (.goto (-33), 3) := by decide +kernel
theorem dX5_patternsThatBeginWith_40 : decode cX5_patternsThatBeginWith 40 = .ok (.iload_n 2, 1) := by decide +kernel
theorem dX5_patternsThatBeginWith_41 : decode cX5_patternsThatBeginWith 41 = .ok (.ireturn, 1) := by decide +kernel
set_option maxRecDepth 20000 in
theorem ggX5_statesOfItsOwn_X3_lengthOf : GoodIn wsX5_statesOfItsOwn wsX3_lengthOf := goodIn_r _ [4] (by decide +kernel) (by decide +kernel)
set_option maxRecDepth 20000 in
theorem gX5_statesOfItsOwn_X3_lengthOf : GoodIn wsX5_statesOfItsOwn (va_wsS RX5 252 yX3_lengthOf wsX3_lengthOf) := goodIn_app (goodIn_of _ (by decide +kernel)) ggX5_statesOfItsOwn_X3_lengthOf
set_option maxRecDepth 20000 in
theorem ggX5_statesOfItsOwn_X3_beginning : GoodIn wsX5_statesOfItsOwn wsX3_beginning := goodIn_r _ [7, 8, 2, 3, 4] (by decide +kernel) (by decide +kernel)
set_option maxRecDepth 20000 in
theorem gX5_statesOfItsOwn_X3_beginning : GoodIn wsX5_statesOfItsOwn (va_wsS RX5 274 yX3_beginning wsX3_beginning) := goodIn_app (goodIn_of _ (by decide +kernel)) ggX5_statesOfItsOwn_X3_beginning
set_option maxRecDepth 20000 in
theorem ggX5_statesOfItsOwn_X5_patternsThatBeginWith : GoodIn wsX5_statesOfItsOwn wsX5_patternsThatBeginWith := goodIn_r _ [13, 14, 15, 16, 12, 17, 18, 19, 20, 21, 22, 23, 24, 3, 25, 8, 2, 4, 26, 27, 28, 29, 30, 31, 32, 33, 34, 35, 36, 37, 38, 39, 40] (by decide +kernel) (by decide +kernel)
set_option maxRecDepth 20000 in
theorem gX5_statesOfItsOwn_X5_patternsThatBeginWith : GoodIn wsX5_statesOfItsOwn (wsV RX5 277 RX5 yX5_patternsThatBeginWith wsX5_patternsThatBeginWith) := goodIn_app (goodIn_of _ (by decide +kernel)) ggX5_statesOfItsOwn_X5_patternsThatBeginWith
theorem dX5_statesOfItsOwn_0 : decode cX5_statesOfItsOwn 0 = .ok (.iconst 0, 1) := by decide +kernel
theorem dX5_statesOfItsOwn_1 : decode cX5_statesOfItsOwn 1 = .ok (.istore_n 2, 1) := by decide +kernel
theorem dX5_statesOfItsOwn_2 : decode cX5_statesOfItsOwn 2 = .ok (.iload_n 1, 1) := by decide +kernel
theorem dX5_statesOfItsOwn_3 : decode cX5_statesOfItsOwn 3 = .ok (.invokestatic 252, 3) := by decide +kernel
theorem dX5_statesOfItsOwn_6 : decode cX5_statesOfItsOwn 6 = .ok (.istore_n 3, 1) := by decide +kernel
theorem dX5_statesOfItsOwn_7 : decode cX5_statesOfItsOwn 7 = .ok (.iconst 1, 1) := by decide +kernel
theorem dX5_statesOfItsOwn_8 : decode cX5_statesOfItsOwn 8 = .ok (.istore 4, 2) := by decide +kernel
theorem dX5_statesOfItsOwn_10 : decode cX5_statesOfItsOwn 10 = .ok (.iload 4, 2) := by decide +kernel
theorem dX5_statesOfItsOwn_12 : decode cX5_statesOfItsOwn 12 = .ok (.iload_n 3, 1) := by decide +kernel
theorem dX5_statesOfItsOwn_13 : decode cX5_statesOfItsOwn 13 = .ok (.if_icmp .gt 26, 3) := by decide +kernel
theorem dX5_statesOfItsOwn_16 : decode cX5_statesOfItsOwn 16 = .ok (.aload_n 0, 1) := by decide +kernel
theorem dX5_statesOfItsOwn_17 : decode cX5_statesOfItsOwn 17 = .ok (.iload_n 1, 1) := by decide +kernel
theorem dX5_statesOfItsOwn_18 : decode cX5_statesOfItsOwn 18 = .ok (.iload 4, 2) := by decide +kernel
theorem dX5_statesOfItsOwn_20 : decode cX5_statesOfItsOwn 20 = .ok (.invokestatic 274, 3) := by decide +kernel
theorem dX5_statesOfItsOwn_23 : decode cX5_statesOfItsOwn 23 = .ok (.invokevirtual 277, 3) := by decide +kernel
theorem dX5_statesOfItsOwn_26 : decode cX5_statesOfItsOwn 26 = .ok (.iconst 1, 1) := by decide +kernel
theorem dX5_statesOfItsOwn_27 : decode cX5_statesOfItsOwn 27 = .ok (.if_icmp .ne 6, 3) := by decide +kernel
theorem dX5_statesOfItsOwn_30 : decode cX5_statesOfItsOwn 30 = .ok (.iinc 2 1, 3) := by decide +kernel
theorem dX5_statesOfItsOwn_33 : decode cX5_statesOfItsOwn 33 = .ok (.iinc 4 1, 3) := by decide +kernel
theorem dX5_statesOfItsOwn_36 : decode cX5_statesOfItsOwn 36 = .ok (.goto (-26), 3) := by decide +kernel
theorem dX5_statesOfItsOwn_39 : decode cX5_statesOfItsOwn 39 = .ok (.iload_n 2, 1) := by decide +kernel
theorem dX5_statesOfItsOwn_40 : decode cX5_statesOfItsOwn 40 = .ok (.ireturn, 1) := by decide +kernel
set_option maxRecDepth 20000 in
theorem ggX5_numberOfPatterns_X5_patternIn : GoodIn wsX5_numberOfPatterns wsX5_patternIn := goodIn_r _ [5, 6, 7, 8, 9, 4, 10, 11, 12, 13, 14, 15, 16, 17, 18, 19, 20, 21, 22, 23, 24, 25] (by decide +kernel) (by decide +kernel)
set_option maxRecDepth 20000 in
theorem gX5_numberOfPatterns_X5_patternIn : GoodIn wsX5_numberOfPatterns (wsV RX5 92 RX5 yX5_patternIn wsX5_patternIn) := goodIn_app (goodIn_of _ (by decide +kernel)) ggX5_numberOfPatterns_X5_patternIn
theorem dX5_numberOfPatterns_0 : decode cX5_numberOfPatterns 0 = .ok (.iconst 0, 1) := by decide +kernel
theorem dX5_numberOfPatterns_1 : decode cX5_numberOfPatterns 1 = .ok (.istore_n 1, 1) := by decide +kernel
theorem dX5_numberOfPatterns_2 : decode cX5_numberOfPatterns 2 = .ok (.iconst 0, 1) := by decide +kernel
theorem dX5_numberOfPatterns_3 : decode cX5_numberOfPatterns 3 = .ok (.istore_n 2, 1) := by decide +kernel
theorem dX5_numberOfPatterns_4 : decode cX5_numberOfPatterns 4 = .ok (.iload_n 2, 1) := by decide +kernel
theorem dX5_numberOfPatterns_5 : decode cX5_numberOfPatterns 5 = .ok (.bipush 8, 2) := by decide +kernel
theorem dX5_numberOfPatterns_7 : decode cX5_numberOfPatterns 7 = .ok (.if_icmp .ge 20, 3) := by decide +kernel
theorem dX5_numberOfPatterns_10 : decode cX5_numberOfPatterns 10 = .ok (.aload_n 0, 1) := by decide +kernel
theorem dX5_numberOfPatterns_11 : decode cX5_numberOfPatterns 11 = .ok (.iload_n 2, 1) := by decide +kernel
theorem dX5_numberOfPatterns_12 : decode cX5_numberOfPatterns 12 = .ok (.invokevirtual 92, 3) := by decide +kernel
theorem dX5_numberOfPatterns_15 : decode cX5_numberOfPatterns 15 = .ok (.ifCond .eq 6, 3) := by decide +kernel
theorem dX5_numberOfPatterns_18 : decode cX5_numberOfPatterns 18 = .ok (.iinc 1 1, 3) := by decide +kernel
theorem dX5_numberOfPatterns_21 : decode cX5_numberOfPatterns 21 = .ok (.iinc 2 1, 3) := by decide +kernel
theorem dX5_numberOfPatterns_24 : decode cX5_numberOfPatterns 24 = .ok (.goto (-20), 3) := by decide +kernel
theorem dX5_numberOfPatterns_27 : decode cX5_numberOfPatterns 27 = .ok (.iload_n 1, 1) := by decide +kernel
theorem dX5_numberOfPatterns_28 : decode cX5_numberOfPatterns 28 = .ok (.ireturn, 1) := by decide +kernel
set_option maxRecDepth 20000 in
theorem ggX5_sumOfLengths_X5_patternIn : GoodIn wsX5_sumOfLengths wsX5_patternIn := goodIn_r _ [5, 6, 7, 8, 9, 4, 10, 15, 16, 17, 18, 19, 20, 21, 22, 23, 24, 25, 26, 27, 28, 29] (by decide +kernel) (by decide +kernel)
set_option maxRecDepth 20000 in
theorem gX5_sumOfLengths_X5_patternIn : GoodIn wsX5_sumOfLengths (wsV RX5 92 RX5 yX5_patternIn wsX5_patternIn) := goodIn_app (goodIn_of _ (by decide +kernel)) ggX5_sumOfLengths_X5_patternIn
set_option maxRecDepth 20000 in
theorem ggX5_sumOfLengths_X3_lengthOf : GoodIn wsX5_sumOfLengths wsX3_lengthOf := goodIn_r _ [14] (by decide +kernel) (by decide +kernel)
set_option maxRecDepth 20000 in
theorem gX5_sumOfLengths_X3_lengthOf : GoodIn wsX5_sumOfLengths (va_wsS RX5 252 yX3_lengthOf wsX3_lengthOf) := goodIn_app (goodIn_of _ (by decide +kernel)) ggX5_sumOfLengths_X3_lengthOf
theorem dX5_sumOfLengths_0 : decode cX5_sumOfLengths 0 = .ok (.iconst 0, 1) := by decide +kernel
theorem dX5_sumOfLengths_1 : decode cX5_sumOfLengths 1 = .ok (.istore_n 1, 1) := by decide +kernel
theorem dX5_sumOfLengths_2 : decode cX5_sumOfLengths 2 = .ok (.iconst 0, 1) := by decide +kernel
theorem dX5_sumOfLengths_3 : decode cX5_sumOfLengths 3 = .ok (.istore_n 2, 1) := by decide +kernel
theorem dX5_sumOfLengths_4 : decode cX5_sumOfLengths 4 = .ok (.iload_n 2, 1) := by decide +kernel
theorem dX5_sumOfLengths_5 : decode cX5_sumOfLengths 5 = .ok (.bipush 8, 2) := by decide +kernel
theorem dX5_sumOfLengths_7 : decode cX5_sumOfLengths 7 = .ok (.if_icmp .ge 20, 3) := by decide +kernel
theorem dX5_sumOfLengths_10 : decode cX5_sumOfLengths 10 = .ok (.iload_n 1, 1) := by decide +kernel
theorem dX5_sumOfLengths_11 : decode cX5_sumOfLengths 11 = .ok (.aload_n 0, 1) := by decide +kernel
theorem dX5_sumOfLengths_12 : decode cX5_sumOfLengths 12 = .ok (.iload_n 2, 1) := by decide +kernel
theorem dX5_sumOfLengths_13 : decode cX5_sumOfLengths 13 = .ok (.invokevirtual 92, 3) := by decide +kernel
theorem dX5_sumOfLengths_16 : decode cX5_sumOfLengths 16 = .ok (.invokestatic 252, 3) := by decide +kernel
theorem dX5_sumOfLengths_19 : decode cX5_sumOfLengths 19 = .ok (.iadd, 1) := by decide +kernel
theorem dX5_sumOfLengths_20 : decode cX5_sumOfLengths 20 = .ok (.istore_n 1, 1) := by decide +kernel
theorem dX5_sumOfLengths_21 : decode cX5_sumOfLengths 21 = .ok (.iinc 2 1, 3) := by decide +kernel
theorem dX5_sumOfLengths_24 : decode cX5_sumOfLengths 24 = .ok (.goto (-20), 3) := by decide +kernel
theorem dX5_sumOfLengths_27 : decode cX5_sumOfLengths 27 = .ok (.iload_n 1, 1) := by decide +kernel
theorem dX5_sumOfLengths_28 : decode cX5_sumOfLengths 28 = .ok (.ireturn, 1) := by decide +kernel
set_option maxRecDepth 20000 in
theorem ggX5_currentState_X1_stateBehind : GoodIn wsX5_currentState wsX1_stateBehind := goodIn_r _ [8, 9, 10, 11, 12, 13, 14, 15, 16, 17, 18, 19, 20, 21, 22, 7, 23, 24, 25, 26, 27, 43, 44, 45, 46, 47] (by decide +kernel) (by decide +kernel)
set_option maxRecDepth 20000 in
theorem gX5_currentState_X1_stateBehind : GoodIn wsX5_currentState (wsV RX5 258 RX1 yX1_stateBehind wsX1_stateBehind) := goodIn_app (goodIn_of _ (by decide +kernel)) ggX5_currentState_X1_stateBehind
theorem dX5_currentState_0 : decode cX5_currentState 0 = .ok (.aload_n 0, 1) := by decide +kernel
theorem dX5_currentState_1 : decode cX5_currentState 1 = .ok (.getfield 26, 3) := by decide +kernel
theorem dX5_currentState_4 : decode cX5_currentState 4 = .ok (.aload_n 0, 1) := by decide +kernel
theorem dX5_currentState_5 : decode cX5_currentState 5 = .ok (.getfield 12, 3) := by decide +kernel
theorem dX5_currentState_8 : decode cX5_currentState 8 = .ok (.getfield 280, 3) := by decide +kernel
theorem dX5_currentState_11 : decode cX5_currentState 11 = .ok (.invokevirtual 258, 3) := by decide +kernel
theorem dX5_currentState_14 : decode cX5_currentState 14 = .ok (.ireturn, 1) := by decide +kernel
set_option maxRecDepth 20000 in
theorem ggX5_readLetter_X5_currentState : GoodIn wsX5_readLetter wsX5_currentState := goodIn_r _ [10, 1, 2, 5, 11, 12, 13, 14, 15, 16, 17, 18, 19, 20, 21, 22, 23, 24, 25, 26, 27, 28, 29, 30, 31, 32, 9, 33, 97, 98, 99, 100, 101, 102, 103, 104, 105, 106, 107, 108, 109, 110, 111, 112, 113, 114, 115, 116] (by decide +kernel) (by decide +kernel)
set_option maxRecDepth 20000 in
theorem gX5_readLetter_X5_currentState : GoodIn wsX5_readLetter (wsV RX5 283 RX5 yX5_currentState wsX5_currentState) := goodIn_app (goodIn_of _ (by decide +kernel)) ggX5_readLetter_X5_currentState
set_option maxRecDepth 20000 in
theorem ggX5_readLetter_X1_leadsTo : GoodIn wsX5_readLetter wsX1_leadsTo := goodIn_r _ [30, 31, 32, 9, 33, 112, 113, 114, 115, 116] (by decide +kernel) (by decide +kernel)
set_option maxRecDepth 20000 in
theorem gX5_readLetter_X1_leadsTo : GoodIn wsX5_readLetter (wsV RX5 286 RX1 yX1_leadsTo wsX1_leadsTo) := goodIn_app (goodIn_of _ (by decide +kernel)) ggX5_readLetter_X1_leadsTo
set_option maxRecDepth 20000 in
theorem ggX5_readLetter_X5_matchesThatCount : GoodIn wsX5_readLetter wsX5_matchesThatCount := goodIn_r _ [38, 1, 39, 2, 40, 41, 32, 9, 33, 42, 43, 44, 45, 46, 47, 17, 18, 19, 97, 98, 99, 100, 101, 112, 113, 114, 115, 116, 102, 103, 104, 105, 106, 107, 108, 109, 110, 111] (by decide +kernel) (by decide +kernel)
set_option maxRecDepth 20000 in
theorem gX5_readLetter_X5_matchesThatCount : GoodIn wsX5_readLetter (wsV RX5 292 RX5 yX5_matchesThatCount wsX5_matchesThatCount) := goodIn_app (goodIn_of _ (by decide +kernel)) ggX5_readLetter_X5_matchesThatCount
set_option maxRecDepth 20000 in
theorem ggX5_readLetter_X1_fallsBefore : GoodIn wsX5_readLetter wsX1_fallsBefore := goodIn_r _ [51, 52, 53, 54, 55, 14, 56, 57, 27, 28, 29, 30, 31, 32, 9, 33, 58, 59, 18, 60, 112, 113, 114, 115, 116] (by decide +kernel) (by decide +kernel)
set_option maxRecDepth 20000 in
theorem gX5_readLetter_X1_fallsBefore : GoodIn wsX5_readLetter (wsV RX5 296 RX1 yX1_fallsBefore wsX1_fallsBefore) := goodIn_app (goodIn_of _ (by decide +kernel)) ggX5_readLetter_X1_fallsBefore
set_option maxRecDepth 20000 in
theorem ggX5_readLetter_X2_takeFalls : GoodIn wsX5_readLetter wsX2_takeFalls := goodIn_r _ [65, 66, 67, 68, 69, 70, 71, 102, 103, 104, 105, 106, 107, 108, 109, 110, 111] (by decide +kernel) (by decide +kernel)
set_option maxRecDepth 20000 in
theorem gX5_readLetter_X2_takeFalls : GoodIn wsX5_readLetter (wsV RX5 299 RX2 yX2_takeFalls wsX2_takeFalls) := goodIn_app (goodIn_of _ (by decide +kernel)) ggX5_readLetter_X2_takeFalls
set_option maxRecDepth 20000 in
theorem ggX5_readLetter_X2_takeMatches : GoodIn wsX5_readLetter wsX2_takeMatches := goodIn_r _ [75, 76, 77, 78, 79, 80, 32, 9, 33, 81, 82, 102, 103, 104, 105, 106, 107, 108, 109, 110, 111] (by decide +kernel) (by decide +kernel)
set_option maxRecDepth 20000 in
theorem gX5_readLetter_X2_takeMatches : GoodIn wsX5_readLetter (wsV RX5 302 RX2 yX2_takeMatches wsX2_takeMatches) := goodIn_app (goodIn_of _ (by decide +kernel)) ggX5_readLetter_X2_takeMatches
set_option maxRecDepth 20000 in
theorem ggX5_readLetter_X3_behind : GoodIn wsX5_readLetter wsX3_behind := goodIn_r _ [60] (by decide +kernel) (by decide +kernel)
set_option maxRecDepth 20000 in
theorem gX5_readLetter_X3_behind : GoodIn wsX5_readLetter (va_wsS RX5 243 yX3_behind wsX3_behind) := goodIn_app (goodIn_of _ (by decide +kernel)) ggX5_readLetter_X3_behind
set_option maxRecDepth 20000 in
theorem ggX5_readLetter_X3_latest : GoodIn wsX5_readLetter wsX3_latest := goodIn_r _ [86, 23, 17, 18, 19, 87, 88, 89] (by decide +kernel) (by decide +kernel)
set_option maxRecDepth 20000 in
theorem gX5_readLetter_X3_latest : GoodIn wsX5_readLetter (va_wsS RX5 305 yX3_latest wsX3_latest) := goodIn_app (goodIn_of _ (by decide +kernel)) ggX5_readLetter_X3_latest
set_option maxRecDepth 20000 in
theorem ggX5_readLetter_J6_bitCount_0f7a4 : GoodIn wsX5_readLetter wsJ6_bitCount_0f7a4 := goodIn_r _ [93, 94, 95, 96] (by decide +kernel) (by decide +kernel)
set_option maxRecDepth 20000 in
theorem gX5_readLetter_J6_bitCount_0f7a4 : GoodIn wsX5_readLetter (va_wsS RX5 307 yJ6_bitCount_0f7a4 wsJ6_bitCount_0f7a4) := goodIn_app (goodIn_of _ (by decide +kernel)) ggX5_readLetter_J6_bitCount_0f7a4
theorem dX5_readLetter_0 : decode cX5_readLetter 0 = .ok (.aload_n 0, 1) := by decide +kernel
theorem dX5_readLetter_1 : decode cX5_readLetter 1 = .ok (.invokevirtual 283, 3) := by decide +kernel
theorem dX5_readLetter_4 : decode cX5_readLetter 4 = .ok (.istore_n 2, 1) := by decide +kernel
theorem dX5_readLetter_5 : decode cX5_readLetter 5 = .ok (.aload_n 0, 1) := by decide +kernel
theorem dX5_readLetter_6 : decode cX5_readLetter 6 = .ok (.aload_n 0, 1) := by decide +kernel
theorem dX5_readLetter_7 : decode cX5_readLetter 7 = .ok (.getfield 26, 3) := by decide +kernel
theorem dX5_readLetter_10 : decode cX5_readLetter 10 = .ok (.iload_n 2, 1) := by decide +kernel
theorem dX5_readLetter_11 : decode cX5_readLetter 11 = .ok (.iload_n 1, 1) := by decide +kernel
theorem dX5_readLetter_12 : decode cX5_readLetter 12 = .ok (.invokevirtual 286, 3) := by decide +kernel
theorem dX5_readLetter_15 : decode cX5_readLetter 15 = .ok (.aload_n 0, 1) := by decide +kernel
theorem dX5_readLetter_16 : decode cX5_readLetter 16 = .ok (.getfield 12, 3) := by decide +kernel
theorem dX5_readLetter_19 : decode cX5_readLetter 19 = .ok (.getfield 116, 3) := by decide +kernel
theorem dX5_readLetter_22 : decode cX5_readLetter 22 = .ok (.aload_n 0, 1) := by decide +kernel
theorem dX5_readLetter_23 : decode cX5_readLetter 23 = .ok (.getfield 12, 3) := by decide +kernel
theorem dX5_readLetter_26 : decode cX5_readLetter 26 = .ok (.getfield 289, 3) := by decide +kernel
theorem dX5_readLetter_29 : decode cX5_readLetter 29 = .ok (.invokevirtual 292, 3) := by decide +kernel
theorem dX5_readLetter_32 : decode cX5_readLetter 32 = .ok (.istore_n 3, 1) := by decide +kernel
theorem dX5_readLetter_33 : decode cX5_readLetter 33 = .ok (.aload_n 0, 1) := by decide +kernel
theorem dX5_readLetter_34 : decode cX5_readLetter 34 = .ok (.getfield 12, 3) := by decide +kernel
theorem dX5_readLetter_37 : decode cX5_readLetter 37 = .ok (.aload_n 0, 1) := by decide +kernel
theorem dX5_readLetter_38 : decode cX5_readLetter 38 = .ok (.getfield 26, 3) := by decide +kernel
theorem dX5_readLetter_41 : decode cX5_readLetter 41 = .ok (.iload_n 2, 1) := by decide +kernel
theorem dX5_readLetter_42 : decode cX5_readLetter 42 = .ok (.iload_n 1, 1) := by decide +kernel
theorem dX5_readLetter_43 : decode cX5_readLetter 43 = .ok (.invokevirtual 296, 3) := by decide +kernel
theorem dX5_readLetter_46 : decode cX5_readLetter 46 = .ok (.invokevirtual 299, 3) := by decide +kernel
theorem dX5_readLetter_49 : decode cX5_readLetter 49 = .ok (.aload_n 0, 1) := by decide +kernel
theorem dX5_readLetter_50 : decode cX5_readLetter 50 = .ok (.getfield 12, 3) := by decide +kernel
theorem dX5_readLetter_53 : decode cX5_readLetter 53 = .ok (.iload_n 3, 1) := by decide +kernel
theorem dX5_readLetter_54 : decode cX5_readLetter 54 = .ok (.invokevirtual 302, 3) := by decide +kernel
theorem dX5_readLetter_57 : decode cX5_readLetter 57 = .ok (.aload_n 0, 1) := by decide +kernel
theorem dX5_readLetter_58 : decode cX5_readLetter 58 = .ok (.getfield 12, 3) := by decide +kernel
theorem dX5_readLetter_61 : decode cX5_readLetter 61 = .ok (.aload_n 0, 1) := by decide +kernel
theorem dX5_readLetter_62 : decode cX5_readLetter 62 = .ok (.getfield 12, 3) := by decide +kernel
theorem dX5_readLetter_65 : decode cX5_readLetter 65 = .ok (.getfield 280, 3) := by decide +kernel
theorem dX5_readLetter_68 : decode cX5_readLetter 68 = .ok (.iload_n 1, 1) := by decide +kernel
theorem dX5_readLetter_69 : decode cX5_readLetter 69 = .ok (.invokestatic 243, 3) := by decide +kernel
theorem dX5_readLetter_72 : decode cX5_readLetter 72 = .ok (.invokestatic 305, 3) := by decide +kernel
theorem dX5_readLetter_75 : decode cX5_readLetter 75 = .ok (.putfield 280, 3) := by decide +kernel
theorem dX5_readLetter_78 : decode cX5_readLetter 78 = .ok (.aload_n 0, 1) := by decide +kernel
theorem dX5_readLetter_79 : decode cX5_readLetter 79 = .ok (.getfield 12, 3) := by decide +kernel
theorem dX5_readLetter_82 : decode cX5_readLetter 82 = .ok (.dup, 1) := by decide +kernel
theorem dX5_readLetter_83 : decode cX5_readLetter 83 = .ok (.getfield 116, 3) := by decide +kernel
theorem dX5_readLetter_86 : decode cX5_readLetter 86 = .ok (.iconst 1, 1) := by decide +kernel
theorem dX5_readLetter_87 : decode cX5_readLetter 87 = .ok (.iadd, 1) := by decide +kernel
theorem dX5_readLetter_88 : decode cX5_readLetter 88 = .ok (.putfield 116, 3) := by decide +kernel
theorem dX5_readLetter_91 : decode cX5_readLetter 91 = .ok (.iload_n 3, 1) := by decide +kernel
theorem dX5_readLetter_92 : decode cX5_readLetter 92 = .ok (.invokestatic 307, 3) := by decide +kernel
theorem dX5_readLetter_95 : decode cX5_readLetter 95 = .ok (.ireturn, 1) := by decide +kernel
set_option maxRecDepth 20000 in
theorem ggX5_readBuffer_X5_at : GoodIn wsX5_readBuffer wsX5_at := goodIn_r _ [7] (by decide +kernel) (by decide +kernel)
set_option maxRecDepth 20000 in
theorem gX5_readBuffer_X5_at : GoodIn wsX5_readBuffer (va_wsS RX5 68 yX5_at wsX5_at) := goodIn_app (goodIn_of _ (by decide +kernel)) ggX5_readBuffer_X5_at
set_option maxRecDepth 20000 in
theorem ggX5_readBuffer_X0_isLetterCode : GoodIn wsX5_readBuffer wsX0_isLetterCode := goodIn_r _ [11] (by decide +kernel) (by decide +kernel)
set_option maxRecDepth 20000 in
theorem gX5_readBuffer_X0_isLetterCode : GoodIn wsX5_readBuffer (va_wsS RX5 312 yX0_isLetterCode wsX0_isLetterCode) := goodIn_app (goodIn_of _ (by decide +kernel)) ggX5_readBuffer_X0_isLetterCode
set_option maxRecDepth 20000 in
theorem ggX5_readBuffer_X0_lettersOf : GoodIn wsX5_readBuffer wsX0_lettersOf := goodIn_r _ [14, 15, 16, 10, 17] (by decide +kernel) (by decide +kernel)
set_option maxRecDepth 20000 in
theorem gX5_readBuffer_X0_lettersOf : GoodIn wsX5_readBuffer (va_wsS RX5 315 yX0_lettersOf wsX0_lettersOf) := goodIn_app (goodIn_of _ (by decide +kernel)) ggX5_readBuffer_X0_lettersOf
set_option maxRecDepth 20000 in
theorem ggX5_readBuffer_X5_readLetter : GoodIn wsX5_readBuffer wsX5_readLetter := goodIn_r _ [21, 22, 23, 24, 25, 26, 27, 28, 29, 6, 30, 31, 32, 33, 34, 35, 36, 37, 38, 39, 40, 41, 42, 43, 44, 45, 46, 47, 48, 49, 50, 51, 5, 7, 52, 53, 54, 55, 56, 57, 58, 4, 59, 60, 61, 62, 63, 64, 65, 66, 67, 68, 69, 70, 71, 72, 73, 74, 75, 76, 77, 78, 79, 80, 81, 82, 83, 84, 85, 86, 87, 88, 89, 90, 91, 92, 93, 94, 95, 96, 97, 98, 99, 100, 101, 102, 103, 104, 105, 106, 107, 108, 109, 110, 111, 112, 113, 114, 115, 116, 117, 118, 121, 122, 123, 124, 125, 126, 127, 128, 129, 130, 131, 132, 133, 134, 135] (by decide +kernel) (by decide +kernel)
set_option maxRecDepth 20000 in
theorem gX5_readBuffer_X5_readLetter : GoodIn wsX5_readBuffer (wsV RX5 121 RX5 yX5_readLetter wsX5_readLetter) := goodIn_app (goodIn_of _ (by decide +kernel)) ggX5_readBuffer_X5_readLetter
theorem dX5_readBuffer_0 : decode cX5_readBuffer 0 = .ok (.iconst 0, 1) := by decide +kernel
theorem dX5_readBuffer_1 : decode cX5_readBuffer 1 = .ok (.istore_n 1, 1) := by decide +kernel
theorem dX5_readBuffer_2 : decode cX5_readBuffer 2 = .ok (.iconst 0, 1) := by decide +kernel
theorem dX5_readBuffer_3 : decode cX5_readBuffer 3 = .ok (.istore_n 2, 1) := by decide +kernel
theorem dX5_readBuffer_4 : decode cX5_readBuffer 4 = .ok (.iconst 0, 1) := by decide +kernel
theorem dX5_readBuffer_5 : decode cX5_readBuffer 5 = .ok (.istore_n 3, 1) := by decide +kernel
theorem dX5_readBuffer_6 : decode cX5_readBuffer 6 = .ok (.iload_n 3, 1) := by decide +kernel
theorem dX5_readBuffer_7 : decode cX5_readBuffer 7 = .ok (.aload_n 0, 1) := by decide +kernel
theorem dX5_readBuffer_8 : decode cX5_readBuffer 8 = .ok (.getfield 33, 3) := by decide +kernel
theorem dX5_readBuffer_11 : decode cX5_readBuffer 11 = .ok (.getfield 142, 3) := by decide +kernel
theorem dX5_readBuffer_14 : decode cX5_readBuffer 14 = .ok (.if_icmp .ge 67, 3) := by decide +kernel
theorem dX5_readBuffer_17 : decode cX5_readBuffer 17 = .ok (.aload_n 0, 1) := by decide +kernel
theorem dX5_readBuffer_18 : decode cX5_readBuffer 18 = .ok (.getfield 33, 3) := by decide +kernel
theorem dX5_readBuffer_21 : decode cX5_readBuffer 21 = .ok (.getfield 240, 3) := by decide +kernel
theorem dX5_readBuffer_24 : decode cX5_readBuffer 24 = .ok (.iload_n 3, 1) := by decide +kernel
theorem dX5_readBuffer_25 : decode cX5_readBuffer 25 = .ok (.invokestatic 68, 3) := by decide +kernel
theorem dX5_readBuffer_28 : decode cX5_readBuffer 28 = .ok (.istore 4, 2) := by decide +kernel
theorem dX5_readBuffer_30 : decode cX5_readBuffer 30 = .ok (.iload 4, 2) := by decide +kernel
theorem dX5_readBuffer_32 : decode cX5_readBuffer 32 = .ok (.invokestatic 312, 3) := by decide +kernel
theorem dX5_readBuffer_35 : decode cX5_readBuffer 35 = .ok (.ifCond .eq 9, 3) := by decide +kernel
theorem dX5_readBuffer_38 : decode cX5_readBuffer 38 = .ok (.iload 4, 2) := by decide +kernel
theorem dX5_readBuffer_40 : decode cX5_readBuffer 40 = .ok (.bipush 97, 2) := by decide +kernel
theorem dX5_readBuffer_42 : decode cX5_readBuffer 42 = .ok (.isub, 1) := by decide +kernel
theorem dX5_readBuffer_43 : decode cX5_readBuffer 43 = .ok (.istore_n 2, 1) := by decide +kernel
theorem dX5_readBuffer_44 : decode cX5_readBuffer 44 = .ok (.iload 4, 2) := by decide +kernel
theorem dX5_readBuffer_46 : decode cX5_readBuffer 46 = .ok (.invokestatic 315, 3) := by decide +kernel
theorem dX5_readBuffer_49 : decode cX5_readBuffer 49 = .ok (.istore 5, 2) := by decide +kernel
theorem dX5_readBuffer_51 : decode cX5_readBuffer 51 = .ok (.iconst 0, 1) := by decide +kernel
theorem dX5_readBuffer_52 : decode cX5_readBuffer 52 = .ok (.istore 6, 2) := by decide +kernel
theorem dX5_readBuffer_54 : decode cX5_readBuffer 54 = .ok (.iload 6, 2) := by decide +kernel
theorem dX5_readBuffer_56 : decode cX5_readBuffer 56 = .ok (.iload 5, 2) := by decide +kernel
theorem dX5_readBuffer_58 : decode cX5_readBuffer 58 = .ok (.if_icmp .ge 17, 3) := by decide +kernel
theorem dX5_readBuffer_61 : decode cX5_readBuffer 61 = .ok (.iload_n 1, 1) := by decide +kernel
theorem dX5_readBuffer_62 : decode cX5_readBuffer 62 = .ok (.aload_n 0, 1) := by decide +kernel
theorem dX5_readBuffer_63 : decode cX5_readBuffer 63 = .ok (.iload_n 2, 1) := by decide +kernel
theorem dX5_readBuffer_64 : decode cX5_readBuffer 64 = .ok (.invokevirtual 121, 3) := by decide +kernel
theorem dX5_readBuffer_67 : decode cX5_readBuffer 67 = .ok (.iadd, 1) := by decide +kernel
theorem dX5_readBuffer_68 : decode cX5_readBuffer 68 = .ok (.istore_n 1, 1) := by decide +kernel
theorem dX5_readBuffer_69 : decode cX5_readBuffer 69 = .ok (.iinc 6 1, 3) := by decide +kernel
theorem dX5_readBuffer_72 : decode cX5_readBuffer 72 = .ok (.goto (-18), 3) := by decide +kernel
theorem dX5_readBuffer_75 : decode cX5_readBuffer 75 = .ok (.iinc 3 1, 3) := by decide +kernel
theorem dX5_readBuffer_78 : decode cX5_readBuffer 78 = .ok (.goto (-72), 3) := by decide +kernel
theorem dX5_readBuffer_81 : decode cX5_readBuffer 81 = .ok (.iload_n 1, 1) := by decide +kernel
theorem dX5_readBuffer_82 : decode cX5_readBuffer 82 = .ok (.ireturn, 1) := by decide +kernel
set_option maxRecDepth 20000 in
theorem ggX5_matchesThatCount_X5_at : GoodIn wsX5_matchesThatCount wsX5_at := goodIn_r _ [8] (by decide +kernel) (by decide +kernel)
set_option maxRecDepth 20000 in
theorem gX5_matchesThatCount_X5_at : GoodIn wsX5_matchesThatCount (va_wsS RX5 68 yX5_at wsX5_at) := goodIn_app (goodIn_of _ (by decide +kernel)) ggX5_matchesThatCount_X5_at
set_option maxRecDepth 20000 in
theorem ggX5_matchesThatCount_X5_patternIn : GoodIn wsX5_matchesThatCount wsX5_patternIn := goodIn_r _ [12, 3, 13, 5, 6, 7, 8, 18, 19, 20, 21, 22, 28, 29, 30, 31, 32, 33, 34, 35, 36, 37] (by decide +kernel) (by decide +kernel)
set_option maxRecDepth 20000 in
theorem gX5_matchesThatCount_X5_patternIn : GoodIn wsX5_matchesThatCount (wsV RX5 92 RX5 yX5_patternIn wsX5_patternIn) := goodIn_app (goodIn_of _ (by decide +kernel)) ggX5_matchesThatCount_X5_patternIn
set_option maxRecDepth 20000 in
theorem ggX5_matchesThatCount_X3_lengthOf : GoodIn wsX5_matchesThatCount wsX3_lengthOf := goodIn_r _ [17] (by decide +kernel) (by decide +kernel)
set_option maxRecDepth 20000 in
theorem gX5_matchesThatCount_X3_lengthOf : GoodIn wsX5_matchesThatCount (va_wsS RX5 252 yX3_lengthOf wsX3_lengthOf) := goodIn_app (goodIn_of _ (by decide +kernel)) ggX5_matchesThatCount_X3_lengthOf
theorem dX5_matchesThatCount_0 : decode cX5_matchesThatCount 0 = .ok (.aload_n 0, 1) := by decide +kernel
theorem dX5_matchesThatCount_1 : decode cX5_matchesThatCount 1 = .ok (.getfield 26, 3) := by decide +kernel
theorem dX5_matchesThatCount_4 : decode cX5_matchesThatCount 4 = .ok (.getfield 318, 3) := by decide +kernel
theorem dX5_matchesThatCount_7 : decode cX5_matchesThatCount 7 = .ok (.iload_n 1, 1) := by decide +kernel
theorem dX5_matchesThatCount_8 : decode cX5_matchesThatCount 8 = .ok (.invokestatic 68, 3) := by decide +kernel
theorem dX5_matchesThatCount_11 : decode cX5_matchesThatCount 11 = .ok (.istore 4, 2) := by decide +kernel
theorem dX5_matchesThatCount_13 : decode cX5_matchesThatCount 13 = .ok (.aload_n 0, 1) := by decide +kernel
theorem dX5_matchesThatCount_14 : decode cX5_matchesThatCount 14 = .ok (.getfield 12, 3) := by decide +kernel
theorem dX5_matchesThatCount_17 : decode cX5_matchesThatCount 17 = .ok (.getfield 107, 3) := by decide +kernel
theorem dX5_matchesThatCount_20 : decode cX5_matchesThatCount 20 = .ok (.ifCond .ne 6, 3) := by decide +kernel
theorem dX5_matchesThatCount_23 : decode cX5_matchesThatCount 23 = .ok (.iload 4, 2) := by decide +kernel
theorem dX5_matchesThatCount_25 : decode cX5_matchesThatCount 25 = .ok (.ireturn, 1) := by decide +kernel
theorem dX5_matchesThatCount_26 : decode cX5_matchesThatCount 26 = .ok (.iconst 0, 1) := by decide +kernel
theorem dX5_matchesThatCount_27 : decode cX5_matchesThatCount 27 = .ok (.istore 5, 2) := by decide +kernel
theorem dX5_matchesThatCount_29 : decode cX5_matchesThatCount 29 = .ok (.iconst 0, 1) := by decide +kernel
theorem dX5_matchesThatCount_30 : decode cX5_matchesThatCount 30 = .ok (.istore 6, 2) := by decide +kernel
theorem dX5_matchesThatCount_32 : decode cX5_matchesThatCount 32 = .ok (.iconst 0, 1) := by decide +kernel
theorem dX5_matchesThatCount_33 : decode cX5_matchesThatCount 33 = .ok (.istore 7, 2) := by decide +kernel
theorem dX5_matchesThatCount_35 : decode cX5_matchesThatCount 35 = .ok (.iload 7, 2) := by decide +kernel
theorem dX5_matchesThatCount_37 : decode cX5_matchesThatCount 37 = .ok (.bipush 8, 2) := by decide +kernel
theorem dX5_matchesThatCount_39 : decode cX5_matchesThatCount 39 = .ok (.if_icmp .ge 80, 3) := by decide +kernel
theorem dX5_matchesThatCount_42 : decode cX5_matchesThatCount 42 = .ok (.aload_n 0, 1) := by decide +kernel
theorem dX5_matchesThatCount_43 : decode cX5_matchesThatCount 43 = .ok (.iload 7, 2) := by decide +kernel
theorem dX5_matchesThatCount_45 : decode cX5_matchesThatCount 45 = .ok (.invokevirtual 92, 3) := by decide +kernel
theorem dX5_matchesThatCount_48 : decode cX5_matchesThatCount 48 = .ok (.invokestatic 252, 3) := by decide +kernel
theorem dX5_matchesThatCount_51 : decode cX5_matchesThatCount 51 = .ok (.istore 8, 2) := by decide +kernel
theorem dX5_matchesThatCount_53 : decode cX5_matchesThatCount 53 = .ok (.aload_n 0, 1) := by decide +kernel
theorem dX5_matchesThatCount_54 : decode cX5_matchesThatCount 54 = .ok (.getfield 12, 3) := by decide +kernel
theorem dX5_matchesThatCount_57 : decode cX5_matchesThatCount 57 = .ok (.getfield 107, 3) := by decide +kernel
theorem dX5_matchesThatCount_60 : decode cX5_matchesThatCount 60 = .ok (.iconst 2, 1) := by decide +kernel
theorem dX5_matchesThatCount_61 : decode cX5_matchesThatCount 61 = .ok (.if_icmp .ne 13, 3) := by decide +kernel
theorem dX5_matchesThatCount_64 : decode cX5_matchesThatCount 64 = .ok (.iload_n 2, 1) := by decide +kernel
theorem dX5_matchesThatCount_65 : decode cX5_matchesThatCount 65 = .ok (.iload 8, 2) := by decide +kernel
theorem dX5_matchesThatCount_67 : decode cX5_matchesThatCount 67 = .ok (.isub, 1) := by decide +kernel
theorem dX5_matchesThatCount_68 : decode cX5_matchesThatCount 68 = .ok (.iconst 1, 1) := by decide +kernel
theorem dX5_matchesThatCount_69 : decode cX5_matchesThatCount 69 = .ok (.iadd, 1) := by decide +kernel
theorem dX5_matchesThatCount_70 : decode cX5_matchesThatCount 70 = .ok (.iload_n 3, 1) := by decide +kernel
theorem dX5_matchesThatCount_71 : decode cX5_matchesThatCount 71 = .ok (.if_icmp .le 7, 3) := by decide +kernel
theorem dX5_matchesThatCount_74 : decode cX5_matchesThatCount 74 = .ok (.iconst 1, 1) := by decide +kernel
theorem dX5_matchesThatCount_75 : decode cX5_matchesThatCount 75 = .ok (.goto 4, 3) := by decide +kernel
theorem dX5_matchesThatCount_78 : decode cX5_matchesThatCount 78 = .ok (.iconst 0, 1) := by decide +kernel
theorem dX5_matchesThatCount_79 : decode cX5_matchesThatCount 79 = .ok (.istore 9, 2) := by decide +kernel
theorem dX5_matchesThatCount_81 : decode cX5_matchesThatCount 81 = .ok (.iload 4, 2) := by decide +kernel
theorem dX5_matchesThatCount_83 : decode cX5_matchesThatCount 83 = .ok (.iconst 1, 1) := by decide +kernel
theorem dX5_matchesThatCount_84 : decode cX5_matchesThatCount 84 = .ok (.iload 7, 2) := by decide +kernel
theorem dX5_matchesThatCount_86 : decode cX5_matchesThatCount 86 = .ok (.ishl, 1) := by decide +kernel
theorem dX5_matchesThatCount_87 : decode cX5_matchesThatCount 87 = .ok (.iand, 1) := by decide +kernel
theorem dX5_matchesThatCount_88 : decode cX5_matchesThatCount 88 = .ok (.ifCond .eq 25, 3) := by decide +kernel
theorem dX5_matchesThatCount_91 : decode cX5_matchesThatCount 91 = .ok (.iload 9, 2) := by decide +kernel
theorem dX5_matchesThatCount_93 : decode cX5_matchesThatCount 93 = .ok (.ifCond .eq 20, 3) := by decide +kernel
theorem dX5_matchesThatCount_96 : decode cX5_matchesThatCount 96 = .ok (.iload 8, 2) := by decide +kernel
theorem dX5_matchesThatCount_98 : decode cX5_matchesThatCount 98 = .ok (.iload 5, 2) := by decide +kernel
theorem dX5_matchesThatCount_100 : decode cX5_matchesThatCount 100 = .ok (.if_icmp .le 13, 3) := by decide +kernel
theorem dX5_matchesThatCount_103 : decode cX5_matchesThatCount 103 = .ok (.iload 8, 2) := by decide +kernel
theorem dX5_matchesThatCount_105 : decode cX5_matchesThatCount 105 = .ok (.istore 5, 2) := by decide +kernel
theorem dX5_matchesThatCount_107 : decode cX5_matchesThatCount 107 = .ok (.iconst 1, 1) := by decide +kernel
theorem dX5_matchesThatCount_108 : decode cX5_matchesThatCount 108 = .ok (.iload 7, 2) := by decide +kernel
theorem dX5_matchesThatCount_110 : decode cX5_matchesThatCount 110 = .ok (.ishl, 1) := by decide +kernel
theorem dX5_matchesThatCount_111 : decode cX5_matchesThatCount 111 = .ok (.istore 6, 2) := by decide +kernel
theorem dX5_matchesThatCount_113 : decode cX5_matchesThatCount 113 = .ok (.iinc 7 1, 3) := by decide +kernel
theorem dX5_matchesThatCount_116 : decode cX5_matchesThatCount 116 = .ok (.goto (-81), 3) := by decide +kernel
theorem dX5_matchesThatCount_119 : decode cX5_matchesThatCount 119 = .ok (.iload 6, 2) := by decide +kernel
theorem dX5_matchesThatCount_121 : decode cX5_matchesThatCount 121 = .ok (.ireturn, 1) := by decide +kernel
set_option maxRecDepth 20000 in
theorem ggX5_stateProperty_X5_at : GoodIn wsX5_stateProperty wsX5_at := goodIn_r _ [8] (by decide +kernel) (by decide +kernel)
set_option maxRecDepth 20000 in
theorem gX5_stateProperty_X5_at : GoodIn wsX5_stateProperty (va_wsS RX5 68 yX5_at wsX5_at) := goodIn_app (goodIn_of _ (by decide +kernel)) ggX5_stateProperty_X5_at
set_option maxRecDepth 20000 in
theorem ggX5_stateProperty_X3_lengthOf : GoodIn wsX5_stateProperty wsX3_lengthOf := goodIn_r _ [12] (by decide +kernel) (by decide +kernel)
set_option maxRecDepth 20000 in
theorem gX5_stateProperty_X3_lengthOf : GoodIn wsX5_stateProperty (va_wsS RX5 252 yX3_lengthOf wsX3_lengthOf) := goodIn_app (goodIn_of _ (by decide +kernel)) ggX5_stateProperty_X3_lengthOf
set_option maxRecDepth 20000 in
theorem ggX5_stateProperty_X3_lastLetter : GoodIn wsX5_stateProperty wsX3_lastLetter := goodIn_r _ [15] (by decide +kernel) (by decide +kernel)
set_option maxRecDepth 20000 in
theorem gX5_stateProperty_X3_lastLetter : GoodIn wsX5_stateProperty (va_wsS RX5 324 yX3_lastLetter wsX3_lastLetter) := goodIn_app (goodIn_of _ (by decide +kernel)) ggX5_stateProperty_X3_lastLetter
set_option maxRecDepth 20000 in
theorem ggX5_stateProperty_X5_patternsThatBeginWith : GoodIn wsX5_stateProperty wsX5_patternsThatBeginWith := goodIn_r _ [19, 20, 21, 22, 7, 23, 24, 25, 5, 6, 8, 26, 27, 11, 28, 29, 10, 12, 36, 37, 38, 39, 40, 46, 47, 48, 49, 50, 51, 52, 53, 54, 55] (by decide +kernel) (by decide +kernel)
set_option maxRecDepth 20000 in
theorem gX5_stateProperty_X5_patternsThatBeginWith : GoodIn wsX5_stateProperty (wsV RX5 277 RX5 yX5_patternsThatBeginWith wsX5_patternsThatBeginWith) := goodIn_app (goodIn_of _ (by decide +kernel)) ggX5_stateProperty_X5_patternsThatBeginWith
set_option maxRecDepth 20000 in
theorem ggX5_stateProperty_X1_leadsTo : GoodIn wsX5_stateProperty wsX1_leadsTo := goodIn_r _ [34, 35, 6, 7, 8, 41, 42, 43, 44, 45] (by decide +kernel) (by decide +kernel)
set_option maxRecDepth 20000 in
theorem gX5_stateProperty_X1_leadsTo : GoodIn wsX5_stateProperty (wsV RX5 286 RX1 yX1_leadsTo wsX1_leadsTo) := goodIn_app (goodIn_of _ (by decide +kernel)) ggX5_stateProperty_X1_leadsTo
theorem dX5_stateProperty_0 : decode cX5_stateProperty 0 = .ok (.iload_n 2, 1) := by decide +kernel
theorem dX5_stateProperty_1 : decode cX5_stateProperty 1 = .ok (.tableswitch 113 0 4 #[35, 50, 73, 85, 97], 35) := by decide +kernel
theorem dX5_stateProperty_36 : decode cX5_stateProperty 36 = .ok (.aload_n 0, 1) := by decide +kernel
theorem dX5_stateProperty_37 : decode cX5_stateProperty 37 = .ok (.getfield 26, 3) := by decide +kernel
theorem dX5_stateProperty_40 : decode cX5_stateProperty 40 = .ok (.getfield 321, 3) := by decide +kernel
theorem dX5_stateProperty_43 : decode cX5_stateProperty 43 = .ok (.iload_n 1, 1) := by decide +kernel
theorem dX5_stateProperty_44 : decode cX5_stateProperty 44 = .ok (.invokestatic 68, 3) := by decide +kernel
theorem dX5_stateProperty_47 : decode cX5_stateProperty 47 = .ok (.invokestatic 252, 3) := by decide +kernel
theorem dX5_stateProperty_50 : decode cX5_stateProperty 50 = .ok (.ireturn, 1) := by decide +kernel
theorem dX5_stateProperty_51 : decode cX5_stateProperty 51 = .ok (.iload_n 1, 1) := by decide +kernel
theorem dX5_stateProperty_52 : decode cX5_stateProperty 52 = .ok (.ifCond .ne 7, 3) := by decide +kernel
theorem dX5_stateProperty_55 : decode cX5_stateProperty 55 = .ok (.iconst (-1), 1) := by decide +kernel
theorem dX5_stateProperty_56 : decode cX5_stateProperty 56 = .ok (.goto 17, 3) := by decide +kernel
theorem dX5_stateProperty_59 : decode cX5_stateProperty 59 = .ok (.aload_n 0, 1) := by decide +kernel
theorem dX5_stateProperty_60 : decode cX5_stateProperty 60 = .ok (.getfield 26, 3) := by decide +kernel
theorem dX5_stateProperty_63 : decode cX5_stateProperty 63 = .ok (.getfield 321, 3) := by decide +kernel
theorem dX5_stateProperty_66 : decode cX5_stateProperty 66 = .ok (.iload_n 1, 1) := by decide +kernel
theorem dX5_stateProperty_67 : decode cX5_stateProperty 67 = .ok (.invokestatic 68, 3) := by decide +kernel
theorem dX5_stateProperty_70 : decode cX5_stateProperty 70 = .ok (.invokestatic 324, 3) := by decide +kernel
theorem dX5_stateProperty_73 : decode cX5_stateProperty 73 = .ok (.ireturn, 1) := by decide +kernel
theorem dX5_stateProperty_74 : decode cX5_stateProperty 74 = .ok (.aload_n 0, 1) := by decide +kernel
theorem dX5_stateProperty_75 : decode cX5_stateProperty 75 = .ok (.getfield 26, 3) := by decide +kernel
theorem dX5_stateProperty_78 : decode cX5_stateProperty 78 = .ok (.getfield 327, 3) := by decide +kernel
theorem dX5_stateProperty_81 : decode cX5_stateProperty 81 = .ok (.iload_n 1, 1) := by decide +kernel
theorem dX5_stateProperty_82 : decode cX5_stateProperty 82 = .ok (.invokestatic 68, 3) := by decide +kernel
theorem dX5_stateProperty_85 : decode cX5_stateProperty 85 = .ok (.ireturn, 1) := by decide +kernel
theorem dX5_stateProperty_86 : decode cX5_stateProperty 86 = .ok (.aload_n 0, 1) := by decide +kernel
theorem dX5_stateProperty_87 : decode cX5_stateProperty 87 = .ok (.getfield 26, 3) := by decide +kernel
theorem dX5_stateProperty_90 : decode cX5_stateProperty 90 = .ok (.getfield 318, 3) := by decide +kernel
theorem dX5_stateProperty_93 : decode cX5_stateProperty 93 = .ok (.iload_n 1, 1) := by decide +kernel
theorem dX5_stateProperty_94 : decode cX5_stateProperty 94 = .ok (.invokestatic 68, 3) := by decide +kernel
theorem dX5_stateProperty_97 : decode cX5_stateProperty 97 = .ok (.ireturn, 1) := by decide +kernel
theorem dX5_stateProperty_98 : decode cX5_stateProperty 98 = .ok (.aload_n 0, 1) := by decide +kernel
theorem dX5_stateProperty_99 : decode cX5_stateProperty 99 = .ok (.aload_n 0, 1) := by decide +kernel
theorem dX5_stateProperty_100 : decode cX5_stateProperty 100 = .ok (.getfield 26, 3) := by decide +kernel
theorem dX5_stateProperty_103 : decode cX5_stateProperty 103 = .ok (.getfield 321, 3) := by decide +kernel
theorem dX5_stateProperty_106 : decode cX5_stateProperty 106 = .ok (.iload_n 1, 1) := by decide +kernel
theorem dX5_stateProperty_107 : decode cX5_stateProperty 107 = .ok (.invokestatic 68, 3) := by decide +kernel
theorem dX5_stateProperty_110 : decode cX5_stateProperty 110 = .ok (.invokevirtual 277, 3) := by decide +kernel
theorem dX5_stateProperty_113 : decode cX5_stateProperty 113 = .ok (.ireturn, 1) := by decide +kernel
theorem dX5_stateProperty_114 : decode cX5_stateProperty 114 = .ok (.aload_n 0, 1) := by decide +kernel
theorem dX5_stateProperty_115 : decode cX5_stateProperty 115 = .ok (.getfield 26, 3) := by decide +kernel
theorem dX5_stateProperty_118 : decode cX5_stateProperty 118 = .ok (.iload_n 1, 1) := by decide +kernel
theorem dX5_stateProperty_119 : decode cX5_stateProperty 119 = .ok (.iload_n 2, 1) := by decide +kernel
theorem dX5_stateProperty_120 : decode cX5_stateProperty 120 = .ok (.iconst 5, 1) := by decide +kernel
theorem dX5_stateProperty_121 : decode cX5_stateProperty 121 = .ok (.isub, 1) := by decide +kernel
theorem dX5_stateProperty_122 : decode cX5_stateProperty 122 = .ok (.invokevirtual 286, 3) := by decide +kernel
theorem dX5_stateProperty_125 : decode cX5_stateProperty 125 = .ok (.ireturn, 1) := by decide +kernel
set_option maxRecDepth 20000 in
theorem ggX5_numberTold_X5_numberOfPatterns : GoodIn wsX5_numberTold wsX5_numberOfPatterns := goodIn_r _ [15, 16, 17, 18, 14, 19, 3, 20, 21, 22, 23, 55, 56, 57, 58, 59, 65, 66, 67, 68, 69, 70, 71, 72, 73, 74] (by decide +kernel) (by decide +kernel)
set_option maxRecDepth 20000 in
theorem gX5_numberTold_X5_numberOfPatterns : GoodIn wsX5_numberTold (wsV RX5 330 RX5 yX5_numberOfPatterns wsX5_numberOfPatterns) := goodIn_app (goodIn_of _ (by decide +kernel)) ggX5_numberTold_X5_numberOfPatterns
set_option maxRecDepth 20000 in
theorem ggX5_numberTold_X5_currentState : GoodIn wsX5_numberTold wsX5_currentState := goodIn_r _ [27, 1, 3, 28, 29, 30, 31, 32, 33, 34, 35, 36, 37, 38, 39, 40, 41, 42, 43, 44, 45, 46, 47, 48, 49, 22, 14, 23, 55, 56, 57, 58, 59, 65, 66, 67, 68, 69, 70, 71, 72, 73, 74, 60, 61, 62, 63, 64] (by decide +kernel) (by decide +kernel)
set_option maxRecDepth 20000 in
theorem gX5_numberTold_X5_currentState : GoodIn wsX5_numberTold (wsV RX5 283 RX5 yX5_currentState wsX5_currentState) := goodIn_app (goodIn_of _ (by decide +kernel)) ggX5_numberTold_X5_currentState
set_option maxRecDepth 20000 in
theorem ggX5_numberTold_X5_sumOfLengths : GoodIn wsX5_numberTold wsX5_sumOfLengths := goodIn_r _ [53, 16, 17, 18, 14, 19, 3, 20, 21, 22, 23, 54, 35, 36, 37, 55, 56, 57, 58, 59, 65, 66, 67, 68, 69, 70, 71, 72, 73, 74] (by decide +kernel) (by decide +kernel)
set_option maxRecDepth 20000 in
theorem gX5_numberTold_X5_sumOfLengths : GoodIn wsX5_numberTold (wsV RX5 206 RX5 yX5_sumOfLengths wsX5_sumOfLengths) := goodIn_app (goodIn_of _ (by decide +kernel)) ggX5_numberTold_X5_sumOfLengths
theorem dX5_numberTold_0 : decode cX5_numberTold 0 = .ok (.iload_n 1, 1) := by decide +kernel
theorem dX5_numberTold_1 : decode cX5_numberTold 1 = .ok (.tableswitch 114 0 8 #[51, 56, 64, 69, 77, 85, 93, 101, 109], 51) := by decide +kernel
theorem dX5_numberTold_52 : decode cX5_numberTold 52 = .ok (.aload_n 0, 1) := by decide +kernel
theorem dX5_numberTold_53 : decode cX5_numberTold 53 = .ok (.invokevirtual 330, 3) := by decide +kernel
theorem dX5_numberTold_56 : decode cX5_numberTold 56 = .ok (.ireturn, 1) := by decide +kernel
theorem dX5_numberTold_57 : decode cX5_numberTold 57 = .ok (.aload_n 0, 1) := by decide +kernel
theorem dX5_numberTold_58 : decode cX5_numberTold 58 = .ok (.getfield 26, 3) := by decide +kernel
theorem dX5_numberTold_61 : decode cX5_numberTold 61 = .ok (.getfield 177, 3) := by decide +kernel
theorem dX5_numberTold_64 : decode cX5_numberTold 64 = .ok (.ireturn, 1) := by decide +kernel
theorem dX5_numberTold_65 : decode cX5_numberTold 65 = .ok (.aload_n 0, 1) := by decide +kernel
theorem dX5_numberTold_66 : decode cX5_numberTold 66 = .ok (.invokevirtual 283, 3) := by decide +kernel
theorem dX5_numberTold_69 : decode cX5_numberTold 69 = .ok (.ireturn, 1) := by decide +kernel
theorem dX5_numberTold_70 : decode cX5_numberTold 70 = .ok (.aload_n 0, 1) := by decide +kernel
theorem dX5_numberTold_71 : decode cX5_numberTold 71 = .ok (.getfield 12, 3) := by decide +kernel
theorem dX5_numberTold_74 : decode cX5_numberTold 74 = .ok (.getfield 116, 3) := by decide +kernel
theorem dX5_numberTold_77 : decode cX5_numberTold 77 = .ok (.ireturn, 1) := by decide +kernel
theorem dX5_numberTold_78 : decode cX5_numberTold 78 = .ok (.aload_n 0, 1) := by decide +kernel
theorem dX5_numberTold_79 : decode cX5_numberTold 79 = .ok (.getfield 12, 3) := by decide +kernel
theorem dX5_numberTold_82 : decode cX5_numberTold 82 = .ok (.getfield 333, 3) := by decide +kernel
theorem dX5_numberTold_85 : decode cX5_numberTold 85 = .ok (.ireturn, 1) := by decide +kernel
theorem dX5_numberTold_86 : decode cX5_numberTold 86 = .ok (.aload_n 0, 1) := by decide +kernel
theorem dX5_numberTold_87 : decode cX5_numberTold 87 = .ok (.getfield 12, 3) := by decide +kernel
theorem dX5_numberTold_90 : decode cX5_numberTold 90 = .ok (.getfield 289, 3) := by decide +kernel
theorem dX5_numberTold_93 : decode cX5_numberTold 93 = .ok (.ireturn, 1) := by decide +kernel
theorem dX5_numberTold_94 : decode cX5_numberTold 94 = .ok (.aload_n 0, 1) := by decide +kernel
theorem dX5_numberTold_95 : decode cX5_numberTold 95 = .ok (.getfield 12, 3) := by decide +kernel
theorem dX5_numberTold_98 : decode cX5_numberTold 98 = .ok (.getfield 336, 3) := by decide +kernel
theorem dX5_numberTold_101 : decode cX5_numberTold 101 = .ok (.ireturn, 1) := by decide +kernel
theorem dX5_numberTold_102 : decode cX5_numberTold 102 = .ok (.aload_n 0, 1) := by decide +kernel
theorem dX5_numberTold_103 : decode cX5_numberTold 103 = .ok (.getfield 12, 3) := by decide +kernel
theorem dX5_numberTold_106 : decode cX5_numberTold 106 = .ok (.getfield 339, 3) := by decide +kernel
theorem dX5_numberTold_109 : decode cX5_numberTold 109 = .ok (.ireturn, 1) := by decide +kernel
theorem dX5_numberTold_110 : decode cX5_numberTold 110 = .ok (.aload_n 0, 1) := by decide +kernel
theorem dX5_numberTold_111 : decode cX5_numberTold 111 = .ok (.invokevirtual 206, 3) := by decide +kernel
theorem dX5_numberTold_114 : decode cX5_numberTold 114 = .ok (.ireturn, 1) := by decide +kernel
theorem dX5_numberTold_115 : decode cX5_numberTold 115 = .ok (.aload_n 0, 1) := by decide +kernel
theorem dX5_numberTold_116 : decode cX5_numberTold 116 = .ok (.getfield 19, 3) := by decide +kernel
theorem dX5_numberTold_119 : decode cX5_numberTold 119 = .ok (.getfield 156, 3) := by decide +kernel
theorem dX5_numberTold_122 : decode cX5_numberTold 122 = .ok (.ireturn, 1) := by decide +kernel
set_option maxRecDepth 20000 in
theorem ggX5_fedNumber_X5_currentState : GoodIn wsX5_fedNumber wsX5_currentState := goodIn_r _ [9, 1, 2, 10, 11, 12, 13, 14, 15, 16, 17, 18, 19, 20, 21, 22, 23, 24, 25, 26, 27, 28, 29, 30, 31, 32, 8, 33, 71, 72, 73, 74, 75, 76, 77, 78, 79, 80, 81, 82, 83, 84, 85, 86, 87, 88, 89, 90] (by decide +kernel) (by decide +kernel)
set_option maxRecDepth 20000 in
theorem gX5_fedNumber_X5_currentState : GoodIn wsX5_fedNumber (wsV RX5 283 RX5 yX5_currentState wsX5_currentState) := goodIn_app (goodIn_of _ (by decide +kernel)) ggX5_fedNumber_X5_currentState
set_option maxRecDepth 20000 in
theorem ggX5_fedNumber_X1_leadsTo : GoodIn wsX5_fedNumber wsX1_leadsTo := goodIn_r _ [30, 31, 32, 8, 33, 86, 87, 88, 89, 90] (by decide +kernel) (by decide +kernel)
set_option maxRecDepth 20000 in
theorem gX5_fedNumber_X1_leadsTo : GoodIn wsX5_fedNumber (wsV RX5 286 RX1 yX1_leadsTo wsX1_leadsTo) := goodIn_app (goodIn_of _ (by decide +kernel)) ggX5_fedNumber_X1_leadsTo
set_option maxRecDepth 20000 in
theorem ggX5_fedNumber_X1_fallsBefore : GoodIn wsX5_fedNumber wsX1_fallsBefore := goodIn_r _ [38, 39, 40, 41, 42, 14, 43, 44, 27, 28, 29, 30, 31, 32, 8, 33, 45, 46, 18, 47, 86, 87, 88, 89, 90] (by decide +kernel) (by decide +kernel)
set_option maxRecDepth 20000 in
theorem gX5_fedNumber_X1_fallsBefore : GoodIn wsX5_fedNumber (wsV RX5 296 RX1 yX1_fallsBefore wsX1_fallsBefore) := goodIn_app (goodIn_of _ (by decide +kernel)) ggX5_fedNumber_X1_fallsBefore
set_option maxRecDepth 20000 in
theorem ggX5_fedNumber_X5_matchesThatCount : GoodIn wsX5_fedNumber wsX5_matchesThatCount := goodIn_r _ [51, 1, 52, 2, 53, 54, 32, 8, 33, 55, 56, 57, 58, 59, 60, 17, 18, 19, 71, 72, 73, 74, 75, 86, 87, 88, 89, 90, 76, 77, 78, 79, 80, 81, 82, 83, 84, 85] (by decide +kernel) (by decide +kernel)
set_option maxRecDepth 20000 in
theorem gX5_fedNumber_X5_matchesThatCount : GoodIn wsX5_fedNumber (wsV RX5 292 RX5 yX5_matchesThatCount wsX5_matchesThatCount) := goodIn_app (goodIn_of _ (by decide +kernel)) ggX5_fedNumber_X5_matchesThatCount
set_option maxRecDepth 20000 in
theorem ggX5_fedNumber_J6_bitCount_0f7a4 : GoodIn wsX5_fedNumber wsJ6_bitCount_0f7a4 := goodIn_r _ [64, 65, 66, 67] (by decide +kernel) (by decide +kernel)
set_option maxRecDepth 20000 in
theorem gX5_fedNumber_J6_bitCount_0f7a4 : GoodIn wsX5_fedNumber (va_wsS RX5 307 yJ6_bitCount_0f7a4 wsJ6_bitCount_0f7a4) := goodIn_app (goodIn_of _ (by decide +kernel)) ggX5_fedNumber_J6_bitCount_0f7a4
set_option maxRecDepth 20000 in
theorem ggX5_fedNumber_X5_lowestSlot : GoodIn wsX5_fedNumber wsX5_lowestSlot := goodIn_r _ [70] (by decide +kernel) (by decide +kernel)
set_option maxRecDepth 20000 in
theorem gX5_fedNumber_X5_lowestSlot : GoodIn wsX5_fedNumber (va_wsS RX5 342 yX5_lowestSlot wsX5_lowestSlot) := goodIn_app (goodIn_of _ (by decide +kernel)) ggX5_fedNumber_X5_lowestSlot
theorem dX5_fedNumber_0 : decode cX5_fedNumber 0 = .ok (.aload_n 0, 1) := by decide +kernel
theorem dX5_fedNumber_1 : decode cX5_fedNumber 1 = .ok (.invokevirtual 283, 3) := by decide +kernel
theorem dX5_fedNumber_4 : decode cX5_fedNumber 4 = .ok (.istore_n 3, 1) := by decide +kernel
theorem dX5_fedNumber_5 : decode cX5_fedNumber 5 = .ok (.aload_n 0, 1) := by decide +kernel
theorem dX5_fedNumber_6 : decode cX5_fedNumber 6 = .ok (.getfield 26, 3) := by decide +kernel
theorem dX5_fedNumber_9 : decode cX5_fedNumber 9 = .ok (.iload_n 3, 1) := by decide +kernel
theorem dX5_fedNumber_10 : decode cX5_fedNumber 10 = .ok (.iload_n 1, 1) := by decide +kernel
theorem dX5_fedNumber_11 : decode cX5_fedNumber 11 = .ok (.invokevirtual 286, 3) := by decide +kernel
theorem dX5_fedNumber_14 : decode cX5_fedNumber 14 = .ok (.istore 4, 2) := by decide +kernel
theorem dX5_fedNumber_16 : decode cX5_fedNumber 16 = .ok (.iload_n 2, 1) := by decide +kernel
theorem dX5_fedNumber_17 : decode cX5_fedNumber 17 = .ok (.tableswitch 64 0 2 #[27, 30, 40], 27) := by decide +kernel
theorem dX5_fedNumber_44 : decode cX5_fedNumber 44 = .ok (.iload 4, 2) := by decide +kernel
theorem dX5_fedNumber_46 : decode cX5_fedNumber 46 = .ok (.ireturn, 1) := by decide +kernel
theorem dX5_fedNumber_47 : decode cX5_fedNumber 47 = .ok (.aload_n 0, 1) := by decide +kernel
theorem dX5_fedNumber_48 : decode cX5_fedNumber 48 = .ok (.getfield 26, 3) := by decide +kernel
theorem dX5_fedNumber_51 : decode cX5_fedNumber 51 = .ok (.iload_n 3, 1) := by decide +kernel
theorem dX5_fedNumber_52 : decode cX5_fedNumber 52 = .ok (.iload_n 1, 1) := by decide +kernel
theorem dX5_fedNumber_53 : decode cX5_fedNumber 53 = .ok (.invokevirtual 296, 3) := by decide +kernel
theorem dX5_fedNumber_56 : decode cX5_fedNumber 56 = .ok (.ireturn, 1) := by decide +kernel
theorem dX5_fedNumber_57 : decode cX5_fedNumber 57 = .ok (.aload_n 0, 1) := by decide +kernel
theorem dX5_fedNumber_58 : decode cX5_fedNumber 58 = .ok (.iload 4, 2) := by decide +kernel
theorem dX5_fedNumber_60 : decode cX5_fedNumber 60 = .ok (.aload_n 0, 1) := by decide +kernel
theorem dX5_fedNumber_61 : decode cX5_fedNumber 61 = .ok (.getfield 12, 3) := by decide +kernel
theorem dX5_fedNumber_64 : decode cX5_fedNumber 64 = .ok (.getfield 116, 3) := by decide +kernel
theorem dX5_fedNumber_67 : decode cX5_fedNumber 67 = .ok (.aload_n 0, 1) := by decide +kernel
theorem dX5_fedNumber_68 : decode cX5_fedNumber 68 = .ok (.getfield 12, 3) := by decide +kernel
theorem dX5_fedNumber_71 : decode cX5_fedNumber 71 = .ok (.getfield 289, 3) := by decide +kernel
theorem dX5_fedNumber_74 : decode cX5_fedNumber 74 = .ok (.invokevirtual 292, 3) := by decide +kernel
theorem dX5_fedNumber_77 : decode cX5_fedNumber 77 = .ok (.invokestatic 307, 3) := by decide +kernel
theorem dX5_fedNumber_80 : decode cX5_fedNumber 80 = .ok (.ireturn, 1) := by decide +kernel
theorem dX5_fedNumber_81 : decode cX5_fedNumber 81 = .ok (.aload_n 0, 1) := by decide +kernel
theorem dX5_fedNumber_82 : decode cX5_fedNumber 82 = .ok (.iload 4, 2) := by decide +kernel
theorem dX5_fedNumber_84 : decode cX5_fedNumber 84 = .ok (.aload_n 0, 1) := by decide +kernel
theorem dX5_fedNumber_85 : decode cX5_fedNumber 85 = .ok (.getfield 12, 3) := by decide +kernel
theorem dX5_fedNumber_88 : decode cX5_fedNumber 88 = .ok (.getfield 116, 3) := by decide +kernel
theorem dX5_fedNumber_91 : decode cX5_fedNumber 91 = .ok (.aload_n 0, 1) := by decide +kernel
theorem dX5_fedNumber_92 : decode cX5_fedNumber 92 = .ok (.getfield 12, 3) := by decide +kernel
theorem dX5_fedNumber_95 : decode cX5_fedNumber 95 = .ok (.getfield 289, 3) := by decide +kernel
theorem dX5_fedNumber_98 : decode cX5_fedNumber 98 = .ok (.invokevirtual 292, 3) := by decide +kernel
theorem dX5_fedNumber_101 : decode cX5_fedNumber 101 = .ok (.invokestatic 342, 3) := by decide +kernel
theorem dX5_fedNumber_104 : decode cX5_fedNumber 104 = .ok (.ireturn, 1) := by decide +kernel
theorem dX5_lowestSlot_0 : decode cX5_lowestSlot 0 = .ok (.iconst 0, 1) := by decide +kernel
theorem dX5_lowestSlot_1 : decode cX5_lowestSlot 1 = .ok (.istore_n 1, 1) := by decide +kernel
theorem dX5_lowestSlot_2 : decode cX5_lowestSlot 2 = .ok (.iload_n 1, 1) := by decide +kernel
theorem dX5_lowestSlot_3 : decode cX5_lowestSlot 3 = .ok (.bipush 8, 2) := by decide +kernel
theorem dX5_lowestSlot_5 : decode cX5_lowestSlot 5 = .ok (.if_icmp .ge 19, 3) := by decide +kernel
theorem dX5_lowestSlot_8 : decode cX5_lowestSlot 8 = .ok (.iload_n 0, 1) := by decide +kernel
theorem dX5_lowestSlot_9 : decode cX5_lowestSlot 9 = .ok (.iconst 1, 1) := by decide +kernel
theorem dX5_lowestSlot_10 : decode cX5_lowestSlot 10 = .ok (.iload_n 1, 1) := by decide +kernel
theorem dX5_lowestSlot_11 : decode cX5_lowestSlot 11 = .ok (.ishl, 1) := by decide +kernel
theorem dX5_lowestSlot_12 : decode cX5_lowestSlot 12 = .ok (.iand, 1) := by decide +kernel
theorem dX5_lowestSlot_13 : decode cX5_lowestSlot 13 = .ok (.ifCond .eq 5, 3) := by decide +kernel
theorem dX5_lowestSlot_16 : decode cX5_lowestSlot 16 = .ok (.iload_n 1, 1) := by decide +kernel
theorem dX5_lowestSlot_17 : decode cX5_lowestSlot 17 = .ok (.ireturn, 1) := by decide +kernel
theorem dX5_lowestSlot_18 : decode cX5_lowestSlot 18 = .ok (.iinc 1 1, 3) := by decide +kernel
theorem dX5_lowestSlot_21 : decode cX5_lowestSlot 21 = .ok (.goto (-19), 3) := by decide +kernel
theorem dX5_lowestSlot_24 : decode cX5_lowestSlot 24 = .ok (.iconst (-1), 1) := by decide +kernel
theorem dX5_lowestSlot_25 : decode cX5_lowestSlot 25 = .ok (.ireturn, 1) := by decide +kernel
set_option maxRecDepth 20000 in
theorem ggX5_fewestLettersTo_X5_currentState : GoodIn wsX5_fewestLettersTo wsX5_currentState := goodIn_r _ [7, 1, 8, 9, 10, 11, 12, 13, 14, 15, 16, 17, 18, 19, 20, 21, 22, 23, 24, 25, 26, 27, 28, 29, 30, 31, 6, 32, 44, 45, 46, 47, 48, 54, 55, 56, 57, 58, 59, 60, 61, 62, 63, 49, 50, 51, 52, 53] (by decide +kernel) (by decide +kernel)
set_option maxRecDepth 20000 in
theorem gX5_fewestLettersTo_X5_currentState : GoodIn wsX5_fewestLettersTo (wsV RX5 283 RX5 yX5_currentState wsX5_currentState) := goodIn_app (goodIn_of _ (by decide +kernel)) ggX5_fewestLettersTo_X5_currentState
set_option maxRecDepth 20000 in
theorem ggX5_fewestLettersTo_X5_at : GoodIn wsX5_fewestLettersTo wsX5_at := goodIn_r _ [32] (by decide +kernel) (by decide +kernel)
set_option maxRecDepth 20000 in
theorem gX5_fewestLettersTo_X5_at : GoodIn wsX5_fewestLettersTo (va_wsS RX5 68 yX5_at wsX5_at) := goodIn_app (goodIn_of _ (by decide +kernel)) ggX5_fewestLettersTo_X5_at
set_option maxRecDepth 20000 in
theorem ggX5_fewestLettersTo_X3_lengthOf : GoodIn wsX5_fewestLettersTo wsX3_lengthOf := goodIn_r _ [18] (by decide +kernel) (by decide +kernel)
set_option maxRecDepth 20000 in
theorem gX5_fewestLettersTo_X3_lengthOf : GoodIn wsX5_fewestLettersTo (va_wsS RX5 252 yX3_lengthOf wsX3_lengthOf) := goodIn_app (goodIn_of _ (by decide +kernel)) ggX5_fewestLettersTo_X3_lengthOf
set_option maxRecDepth 20000 in
theorem ggX5_fewestLettersTo_X3_beginning : GoodIn wsX5_fewestLettersTo wsX3_beginning := goodIn_r _ [37, 22, 16, 17, 18] (by decide +kernel) (by decide +kernel)
set_option maxRecDepth 20000 in
theorem gX5_fewestLettersTo_X3_beginning : GoodIn wsX5_fewestLettersTo (va_wsS RX5 274 yX3_beginning wsX3_beginning) := goodIn_app (goodIn_of _ (by decide +kernel)) ggX5_fewestLettersTo_X3_beginning
set_option maxRecDepth 20000 in
theorem ggX5_fewestLettersTo_X3_endsWith : GoodIn wsX5_fewestLettersTo wsX3_endsWith := goodIn_r _ [40, 22, 16, 17, 18, 41, 42, 43] (by decide +kernel) (by decide +kernel)
set_option maxRecDepth 20000 in
theorem gX5_fewestLettersTo_X3_endsWith : GoodIn wsX5_fewestLettersTo (va_wsS RX5 345 yX3_endsWith wsX3_endsWith) := goodIn_app (goodIn_of _ (by decide +kernel)) ggX5_fewestLettersTo_X3_endsWith
theorem dX5_fewestLettersTo_0 : decode cX5_fewestLettersTo 0 = .ok (.iload_n 1, 1) := by decide +kernel
theorem dX5_fewestLettersTo_1 : decode cX5_fewestLettersTo 1 = .ok (.ifCond .ne 5, 3) := by decide +kernel
theorem dX5_fewestLettersTo_4 : decode cX5_fewestLettersTo 4 = .ok (.iconst (-1), 1) := by decide +kernel
theorem dX5_fewestLettersTo_5 : decode cX5_fewestLettersTo 5 = .ok (.ireturn, 1) := by decide +kernel
theorem dX5_fewestLettersTo_6 : decode cX5_fewestLettersTo 6 = .ok (.aload_n 0, 1) := by decide +kernel
theorem dX5_fewestLettersTo_7 : decode cX5_fewestLettersTo 7 = .ok (.getfield 26, 3) := by decide +kernel
theorem dX5_fewestLettersTo_10 : decode cX5_fewestLettersTo 10 = .ok (.getfield 321, 3) := by decide +kernel
theorem dX5_fewestLettersTo_13 : decode cX5_fewestLettersTo 13 = .ok (.aload_n 0, 1) := by decide +kernel
theorem dX5_fewestLettersTo_14 : decode cX5_fewestLettersTo 14 = .ok (.invokevirtual 283, 3) := by decide +kernel
theorem dX5_fewestLettersTo_17 : decode cX5_fewestLettersTo 17 = .ok (.invokestatic 68, 3) := by decide +kernel
theorem dX5_fewestLettersTo_20 : decode cX5_fewestLettersTo 20 = .ok (.istore_n 2, 1) := by decide +kernel
theorem dX5_fewestLettersTo_21 : decode cX5_fewestLettersTo 21 = .ok (.iload_n 1, 1) := by decide +kernel
theorem dX5_fewestLettersTo_22 : decode cX5_fewestLettersTo 22 = .ok (.invokestatic 252, 3) := by decide +kernel
theorem dX5_fewestLettersTo_25 : decode cX5_fewestLettersTo 25 = .ok (.istore_n 3, 1) := by decide +kernel
theorem dX5_fewestLettersTo_26 : decode cX5_fewestLettersTo 26 = .ok (.iconst 1, 1) := by decide +kernel
theorem dX5_fewestLettersTo_27 : decode cX5_fewestLettersTo 27 = .ok (.istore 4, 2) := by decide +kernel
theorem dX5_fewestLettersTo_29 : decode cX5_fewestLettersTo 29 = .ok (.iload 4, 2) := by decide +kernel
theorem dX5_fewestLettersTo_31 : decode cX5_fewestLettersTo 31 = .ok (.iload_n 3, 1) := by decide +kernel
theorem dX5_fewestLettersTo_32 : decode cX5_fewestLettersTo 32 = .ok (.if_icmp .ge 27, 3) := by decide +kernel
theorem dX5_fewestLettersTo_35 : decode cX5_fewestLettersTo 35 = .ok (.iload_n 2, 1) := by decide +kernel
theorem dX5_fewestLettersTo_36 : decode cX5_fewestLettersTo 36 = .ok (.iload_n 1, 1) := by decide +kernel
theorem dX5_fewestLettersTo_37 : decode cX5_fewestLettersTo 37 = .ok (.iload_n 3, 1) := by decide +kernel
theorem dX5_fewestLettersTo_38 : decode cX5_fewestLettersTo 38 = .ok (.iload 4, 2) := by decide +kernel
theorem dX5_fewestLettersTo_40 : decode cX5_fewestLettersTo 40 = .ok (.isub, 1) := by decide +kernel
theorem dX5_fewestLettersTo_41 : decode cX5_fewestLettersTo 41 = .ok (.invokestatic 274, 3) := by decide +kernel
theorem dX5_fewestLettersTo_44 : decode cX5_fewestLettersTo 44 = .ok (.invokestatic 345, 3) := by decide +kernel
theorem dX5_fewestLettersTo_47 : decode cX5_fewestLettersTo 47 = .ok (.ifCond .eq 6, 3) := by decide +kernel
theorem dX5_fewestLettersTo_50 : decode cX5_fewestLettersTo 50 = .ok (.iload 4, 2) := by decide +kernel
theorem dX5_fewestLettersTo_52 : decode cX5_fewestLettersTo 52 = .ok (.ireturn, 1) := by decide +kernel
theorem dX5_fewestLettersTo_53 : decode cX5_fewestLettersTo 53 = .ok (.iinc 4 1, 3) := by decide +kernel
theorem dX5_fewestLettersTo_56 : decode cX5_fewestLettersTo 56 = .ok (.goto (-27), 3) := by decide +kernel
theorem dX5_fewestLettersTo_59 : decode cX5_fewestLettersTo 59 = .ok (.iload_n 3, 1) := by decide +kernel
theorem dX5_fewestLettersTo_60 : decode cX5_fewestLettersTo 60 = .ok (.ireturn, 1) := by decide +kernel
set_option maxRecDepth 20000 in
theorem ggX5_matchesIfRepeated_X5_currentState : GoodIn wsX5_matchesIfRepeated wsX5_currentState := goodIn_r _ [9, 3, 1, 10, 11, 12, 13, 14, 15, 16, 17, 18, 19, 20, 21, 22, 23, 24, 25, 26, 27, 28, 29, 30, 31, 32, 8, 33, 55, 56, 57, 58, 59, 60, 61, 62, 63, 64, 65, 66, 67, 68, 69, 70, 71, 72, 73, 74] (by decide +kernel) (by decide +kernel)
set_option maxRecDepth 20000 in
theorem gX5_matchesIfRepeated_X5_currentState : GoodIn wsX5_matchesIfRepeated (wsV RX5 283 RX5 yX5_currentState wsX5_currentState) := goodIn_app (goodIn_of _ (by decide +kernel)) ggX5_matchesIfRepeated_X5_currentState
set_option maxRecDepth 20000 in
theorem ggX5_matchesIfRepeated_X1_leadsTo : GoodIn wsX5_matchesIfRepeated wsX1_leadsTo := goodIn_r _ [30, 31, 32, 8, 33, 70, 71, 72, 73, 74] (by decide +kernel) (by decide +kernel)
set_option maxRecDepth 20000 in
theorem gX5_matchesIfRepeated_X1_leadsTo : GoodIn wsX5_matchesIfRepeated (wsV RX5 286 RX1 yX1_leadsTo wsX1_leadsTo) := goodIn_app (goodIn_of _ (by decide +kernel)) ggX5_matchesIfRepeated_X1_leadsTo
set_option maxRecDepth 20000 in
theorem ggX5_matchesIfRepeated_X5_matchesThatCount : GoodIn wsX5_matchesIfRepeated wsX5_matchesThatCount := goodIn_r _ [38, 3, 39, 1, 40, 41, 32, 8, 33, 42, 43, 44, 45, 46, 47, 17, 18, 19, 55, 56, 57, 58, 59, 70, 71, 72, 73, 74, 60, 61, 62, 63, 64, 65, 66, 67, 68, 69] (by decide +kernel) (by decide +kernel)
set_option maxRecDepth 20000 in
theorem gX5_matchesIfRepeated_X5_matchesThatCount : GoodIn wsX5_matchesIfRepeated (wsV RX5 292 RX5 yX5_matchesThatCount wsX5_matchesThatCount) := goodIn_app (goodIn_of _ (by decide +kernel)) ggX5_matchesIfRepeated_X5_matchesThatCount
set_option maxRecDepth 20000 in
theorem ggX5_matchesIfRepeated_J6_bitCount_0f7a4 : GoodIn wsX5_matchesIfRepeated wsJ6_bitCount_0f7a4 := goodIn_r _ [51, 52, 53, 54] (by decide +kernel) (by decide +kernel)
set_option maxRecDepth 20000 in
theorem gX5_matchesIfRepeated_J6_bitCount_0f7a4 : GoodIn wsX5_matchesIfRepeated (va_wsS RX5 307 yJ6_bitCount_0f7a4 wsJ6_bitCount_0f7a4) := goodIn_app (goodIn_of _ (by decide +kernel)) ggX5_matchesIfRepeated_J6_bitCount_0f7a4
theorem dX5_matchesIfRepeated_0 : decode cX5_matchesIfRepeated 0 = .ok (.iconst 0, 1) := by decide +kernel
theorem dX5_matchesIfRepeated_1 : decode cX5_matchesIfRepeated 1 = .ok (.istore_n 3, 1) := by decide +kernel
theorem dX5_matchesIfRepeated_2 : decode cX5_matchesIfRepeated 2 = .ok (.aload_n 0, 1) := by decide +kernel
theorem dX5_matchesIfRepeated_3 : decode cX5_matchesIfRepeated 3 = .ok (.invokevirtual 283, 3) := by decide +kernel
theorem dX5_matchesIfRepeated_6 : decode cX5_matchesIfRepeated 6 = .ok (.istore 4, 2) := by decide +kernel
theorem dX5_matchesIfRepeated_8 : decode cX5_matchesIfRepeated 8 = .ok (.aload_n 0, 1) := by decide +kernel
theorem dX5_matchesIfRepeated_9 : decode cX5_matchesIfRepeated 9 = .ok (.getfield 12, 3) := by decide +kernel
theorem dX5_matchesIfRepeated_12 : decode cX5_matchesIfRepeated 12 = .ok (.getfield 289, 3) := by decide +kernel
theorem dX5_matchesIfRepeated_15 : decode cX5_matchesIfRepeated 15 = .ok (.istore 5, 2) := by decide +kernel
theorem dX5_matchesIfRepeated_17 : decode cX5_matchesIfRepeated 17 = .ok (.iconst 0, 1) := by decide +kernel
theorem dX5_matchesIfRepeated_18 : decode cX5_matchesIfRepeated 18 = .ok (.istore 6, 2) := by decide +kernel
theorem dX5_matchesIfRepeated_20 : decode cX5_matchesIfRepeated 20 = .ok (.iload 6, 2) := by decide +kernel
theorem dX5_matchesIfRepeated_22 : decode cX5_matchesIfRepeated 22 = .ok (.iload_n 2, 1) := by decide +kernel
theorem dX5_matchesIfRepeated_23 : decode cX5_matchesIfRepeated 23 = .ok (.if_icmp .ge 66, 3) := by decide +kernel
theorem dX5_matchesIfRepeated_26 : decode cX5_matchesIfRepeated 26 = .ok (.aload_n 0, 1) := by decide +kernel
theorem dX5_matchesIfRepeated_27 : decode cX5_matchesIfRepeated 27 = .ok (.getfield 26, 3) := by decide +kernel
theorem dX5_matchesIfRepeated_30 : decode cX5_matchesIfRepeated 30 = .ok (.iload 4, 2) := by decide +kernel
theorem dX5_matchesIfRepeated_32 : decode cX5_matchesIfRepeated 32 = .ok (.iload_n 1, 1) := by decide +kernel
theorem dX5_matchesIfRepeated_33 : decode cX5_matchesIfRepeated 33 = .ok (.invokevirtual 286, 3) := by decide +kernel
theorem dX5_matchesIfRepeated_36 : decode cX5_matchesIfRepeated 36 = .ok (.istore 4, 2) := by decide +kernel
theorem dX5_matchesIfRepeated_38 : decode cX5_matchesIfRepeated 38 = .ok (.aload_n 0, 1) := by decide +kernel
theorem dX5_matchesIfRepeated_39 : decode cX5_matchesIfRepeated 39 = .ok (.iload 4, 2) := by decide +kernel
theorem dX5_matchesIfRepeated_41 : decode cX5_matchesIfRepeated 41 = .ok (.aload_n 0, 1) := by decide +kernel
theorem dX5_matchesIfRepeated_42 : decode cX5_matchesIfRepeated 42 = .ok (.getfield 12, 3) := by decide +kernel
theorem dX5_matchesIfRepeated_45 : decode cX5_matchesIfRepeated 45 = .ok (.getfield 116, 3) := by decide +kernel
theorem dX5_matchesIfRepeated_48 : decode cX5_matchesIfRepeated 48 = .ok (.iload 6, 2) := by decide +kernel
theorem dX5_matchesIfRepeated_50 : decode cX5_matchesIfRepeated 50 = .ok (.iadd, 1) := by decide +kernel
theorem dX5_matchesIfRepeated_51 : decode cX5_matchesIfRepeated 51 = .ok (.iload 5, 2) := by decide +kernel
theorem dX5_matchesIfRepeated_53 : decode cX5_matchesIfRepeated 53 = .ok (.invokevirtual 292, 3) := by decide +kernel
theorem dX5_matchesIfRepeated_56 : decode cX5_matchesIfRepeated 56 = .ok (.istore 7, 2) := by decide +kernel
theorem dX5_matchesIfRepeated_58 : decode cX5_matchesIfRepeated 58 = .ok (.iload 7, 2) := by decide +kernel
theorem dX5_matchesIfRepeated_60 : decode cX5_matchesIfRepeated 60 = .ok (.ifCond .eq 15, 3) := by decide +kernel
theorem dX5_matchesIfRepeated_63 : decode cX5_matchesIfRepeated 63 = .ok (.aload_n 0, 1) := by decide +kernel
theorem dX5_matchesIfRepeated_64 : decode cX5_matchesIfRepeated 64 = .ok (.getfield 12, 3) := by decide +kernel
theorem dX5_matchesIfRepeated_67 : decode cX5_matchesIfRepeated 67 = .ok (.getfield 116, 3) := by decide +kernel
theorem dX5_matchesIfRepeated_70 : decode cX5_matchesIfRepeated 70 = .ok (.iload 6, 2) := by decide +kernel
theorem dX5_matchesIfRepeated_72 : decode cX5_matchesIfRepeated 72 = .ok (.iadd, 1) := by decide +kernel
theorem dX5_matchesIfRepeated_73 : decode cX5_matchesIfRepeated 73 = .ok (.istore 5, 2) := by decide +kernel
theorem dX5_matchesIfRepeated_75 : decode cX5_matchesIfRepeated 75 = .ok (.iload_n 3, 1) := by decide +kernel
theorem dX5_matchesIfRepeated_76 : decode cX5_matchesIfRepeated 76 = .ok (.iload 7, 2) := by decide +kernel
theorem dX5_matchesIfRepeated_78 : decode cX5_matchesIfRepeated 78 = .ok (.invokestatic 307, 3) := by decide +kernel
theorem dX5_matchesIfRepeated_81 : decode cX5_matchesIfRepeated 81 = .ok (.iadd, 1) := by decide +kernel
theorem dX5_matchesIfRepeated_82 : decode cX5_matchesIfRepeated 82 = .ok (.istore_n 3, 1) := by decide +kernel
theorem dX5_matchesIfRepeated_83 : decode cX5_matchesIfRepeated 83 = .ok (.iinc 6 1, 3) := by decide +kernel
theorem dX5_matchesIfRepeated_86 : decode cX5_matchesIfRepeated 86 = .ok (.goto (-66), 3) := by decide +kernel
theorem dX5_matchesIfRepeated_89 : decode cX5_matchesIfRepeated 89 = .ok (.iload_n 3, 1) := by decide +kernel
theorem dX5_matchesIfRepeated_90 : decode cX5_matchesIfRepeated 90 = .ok (.ireturn, 1) := by decide +kernel
theorem dX5_hashed_0 : decode cX5_hashed 0 = .ok (.ldc2_w 348, 3) := by decide +kernel
theorem dX5_hashed_3 : decode cX5_hashed 3 = .ok (.lload_n 0, 1) := by decide +kernel
theorem dX5_hashed_4 : decode cX5_hashed 4 = .ok (.lmul, 1) := by decide +kernel
theorem dX5_hashed_5 : decode cX5_hashed 5 = .ok (.lload_n 2, 1) := by decide +kernel
theorem dX5_hashed_6 : decode cX5_hashed 6 = .ok (.ladd, 1) := by decide +kernel
theorem dX5_hashed_7 : decode cX5_hashed 7 = .ok (.lreturn, 1) := by decide +kernel
set_option maxRecDepth 20000 in
theorem ggX5_withPattern_X5_patternProperty : GoodIn wsX5_withPattern wsX5_patternProperty := goodIn_r _ [5, 6, 7, 8, 9, 10, 11, 12, 4, 13, 14, 15, 16, 17, 18, 19, 20, 21, 22, 23, 24, 25, 26, 27, 28, 29, 30, 31, 32, 33, 34, 35, 36, 37, 38, 39, 40, 41, 42, 43, 44, 45, 46, 47, 48, 49, 50, 51, 52, 53, 54, 55, 56, 57, 58, 59, 77, 78, 79, 80, 81, 82, 83, 84, 85, 86, 87, 88, 89, 90, 91, 92, 93, 94, 95, 96] (by decide +kernel) (by decide +kernel)
set_option maxRecDepth 20000 in
theorem gX5_withPattern_X5_patternProperty : GoodIn wsX5_withPattern (wsV RX5 166 RX5 yX5_patternProperty wsX5_patternProperty) := goodIn_app (goodIn_of _ (by decide +kernel)) ggX5_withPattern_X5_patternProperty
set_option maxRecDepth 20000 in
theorem ggX5_withPattern_X5_hashed : GoodIn wsX5_withPattern wsX5_hashed := goodIn_r _ [62, 63] (by decide +kernel) (by decide +kernel)
set_option maxRecDepth 20000 in
theorem gX5_withPattern_X5_hashed : GoodIn wsX5_withPattern (va_wsS RX5 211 yX5_hashed wsX5_hashed) := goodIn_app (goodIn_of _ (by decide +kernel)) ggX5_withPattern_X5_hashed
set_option maxRecDepth 20000 in
theorem ggX5_withPattern_X5_patternIn : GoodIn wsX5_withPattern wsX5_patternIn := goodIn_r _ [13, 6, 14, 15, 16, 4, 17, 77, 78, 79, 80, 81, 82, 83, 84, 85, 86, 87, 88, 89, 90, 91] (by decide +kernel) (by decide +kernel)
set_option maxRecDepth 20000 in
theorem gX5_withPattern_X5_patternIn : GoodIn wsX5_withPattern (wsV RX5 92 RX5 yX5_patternIn wsX5_patternIn) := goodIn_app (goodIn_of _ (by decide +kernel)) ggX5_withPattern_X5_patternIn
set_option maxRecDepth 20000 in
theorem ggX5_withPattern_X3_lengthOf : GoodIn wsX5_withPattern wsX3_lengthOf := goodIn_r _ [21] (by decide +kernel) (by decide +kernel)
set_option maxRecDepth 20000 in
theorem gX5_withPattern_X3_lengthOf : GoodIn wsX5_withPattern (va_wsS RX5 252 yX3_lengthOf wsX3_lengthOf) := goodIn_app (goodIn_of _ (by decide +kernel)) ggX5_withPattern_X3_lengthOf
set_option maxRecDepth 20000 in
theorem ggX5_withPattern_X3_letterAt : GoodIn wsX5_withPattern wsX3_letterAt := goodIn_r _ [30, 31, 19, 20, 21, 32, 33, 34] (by decide +kernel) (by decide +kernel)
set_option maxRecDepth 20000 in
theorem gX5_withPattern_X3_letterAt : GoodIn wsX5_withPattern (va_wsS RX5 172 yX3_letterAt wsX3_letterAt) := goodIn_app (goodIn_of _ (by decide +kernel)) ggX5_withPattern_X3_letterAt
set_option maxRecDepth 20000 in
theorem ggX5_withPattern_X5_fewestLettersTo : GoodIn wsX5_withPattern wsX5_fewestLettersTo := goodIn_r _ [68, 9, 69, 70, 71, 72, 4, 73, 6, 74, 22, 23, 24, 25, 26, 27, 19, 20, 21, 28, 29, 30, 31, 32, 33, 34, 35, 36, 37, 38, 39, 16, 17, 15, 18, 75, 48, 49, 76, 51, 52, 53, 54, 55, 77, 78, 79, 80, 81, 92, 93, 94, 95, 96, 82, 83, 84, 85, 86, 87, 88, 89, 90, 91] (by decide +kernel) (by decide +kernel)
set_option maxRecDepth 20000 in
theorem gX5_withPattern_X5_fewestLettersTo : GoodIn wsX5_withPattern (wsV RX5 195 RX5 yX5_fewestLettersTo wsX5_fewestLettersTo) := goodIn_app (goodIn_of _ (by decide +kernel)) ggX5_withPattern_X5_fewestLettersTo
theorem dX5_withPattern_0 : decode cX5_withPattern 0 = .ok (.lload_n 1, 1) := by decide +kernel
theorem dX5_withPattern_1 : decode cX5_withPattern 1 = .ok (.lstore 4, 2) := by decide +kernel
theorem dX5_withPattern_3 : decode cX5_withPattern 3 = .ok (.iconst 0, 1) := by decide +kernel
theorem dX5_withPattern_4 : decode cX5_withPattern 4 = .ok (.istore 6, 2) := by decide +kernel
theorem dX5_withPattern_6 : decode cX5_withPattern 6 = .ok (.iload 6, 2) := by decide +kernel
theorem dX5_withPattern_8 : decode cX5_withPattern 8 = .ok (.bipush 6, 2) := by decide +kernel
theorem dX5_withPattern_10 : decode cX5_withPattern 10 = .ok (.if_icmp .ge 24, 3) := by decide +kernel
theorem dX5_withPattern_13 : decode cX5_withPattern 13 = .ok (.lload 4, 2) := by decide +kernel
theorem dX5_withPattern_15 : decode cX5_withPattern 15 = .ok (.aload_n 0, 1) := by decide +kernel
theorem dX5_withPattern_16 : decode cX5_withPattern 16 = .ok (.iload_n 3, 1) := by decide +kernel
theorem dX5_withPattern_17 : decode cX5_withPattern 17 = .ok (.iload 6, 2) := by decide +kernel
theorem dX5_withPattern_19 : decode cX5_withPattern 19 = .ok (.invokevirtual 166, 3) := by decide +kernel
theorem dX5_withPattern_22 : decode cX5_withPattern 22 = .ok (.i2l, 1) := by decide +kernel
theorem dX5_withPattern_23 : decode cX5_withPattern 23 = .ok (.invokestatic 211, 3) := by decide +kernel
theorem dX5_withPattern_26 : decode cX5_withPattern 26 = .ok (.lstore 4, 2) := by decide +kernel
theorem dX5_withPattern_28 : decode cX5_withPattern 28 = .ok (.iinc 6 1, 3) := by decide +kernel
theorem dX5_withPattern_31 : decode cX5_withPattern 31 = .ok (.goto (-25), 3) := by decide +kernel
theorem dX5_withPattern_34 : decode cX5_withPattern 34 = .ok (.aload_n 0, 1) := by decide +kernel
theorem dX5_withPattern_35 : decode cX5_withPattern 35 = .ok (.iload_n 3, 1) := by decide +kernel
theorem dX5_withPattern_36 : decode cX5_withPattern 36 = .ok (.invokevirtual 92, 3) := by decide +kernel
theorem dX5_withPattern_39 : decode cX5_withPattern 39 = .ok (.invokestatic 252, 3) := by decide +kernel
theorem dX5_withPattern_42 : decode cX5_withPattern 42 = .ok (.istore 6, 2) := by decide +kernel
theorem dX5_withPattern_44 : decode cX5_withPattern 44 = .ok (.iconst 0, 1) := by decide +kernel
theorem dX5_withPattern_45 : decode cX5_withPattern 45 = .ok (.istore 7, 2) := by decide +kernel
theorem dX5_withPattern_47 : decode cX5_withPattern 47 = .ok (.iload 7, 2) := by decide +kernel
theorem dX5_withPattern_49 : decode cX5_withPattern 49 = .ok (.iload 6, 2) := by decide +kernel
theorem dX5_withPattern_51 : decode cX5_withPattern 51 = .ok (.if_icmp .ge 27, 3) := by decide +kernel
theorem dX5_withPattern_54 : decode cX5_withPattern 54 = .ok (.lload 4, 2) := by decide +kernel
theorem dX5_withPattern_56 : decode cX5_withPattern 56 = .ok (.aload_n 0, 1) := by decide +kernel
theorem dX5_withPattern_57 : decode cX5_withPattern 57 = .ok (.iload_n 3, 1) := by decide +kernel
theorem dX5_withPattern_58 : decode cX5_withPattern 58 = .ok (.invokevirtual 92, 3) := by decide +kernel
theorem dX5_withPattern_61 : decode cX5_withPattern 61 = .ok (.iload 7, 2) := by decide +kernel
theorem dX5_withPattern_63 : decode cX5_withPattern 63 = .ok (.invokestatic 172, 3) := by decide +kernel
theorem dX5_withPattern_66 : decode cX5_withPattern 66 = .ok (.i2l, 1) := by decide +kernel
theorem dX5_withPattern_67 : decode cX5_withPattern 67 = .ok (.invokestatic 211, 3) := by decide +kernel
theorem dX5_withPattern_70 : decode cX5_withPattern 70 = .ok (.lstore 4, 2) := by decide +kernel
theorem dX5_withPattern_72 : decode cX5_withPattern 72 = .ok (.iinc 7 1, 3) := by decide +kernel
theorem dX5_withPattern_75 : decode cX5_withPattern 75 = .ok (.goto (-28), 3) := by decide +kernel
theorem dX5_withPattern_78 : decode cX5_withPattern 78 = .ok (.lload 4, 2) := by decide +kernel
theorem dX5_withPattern_80 : decode cX5_withPattern 80 = .ok (.aload_n 0, 1) := by decide +kernel
theorem dX5_withPattern_81 : decode cX5_withPattern 81 = .ok (.aload_n 0, 1) := by decide +kernel
theorem dX5_withPattern_82 : decode cX5_withPattern 82 = .ok (.iload_n 3, 1) := by decide +kernel
theorem dX5_withPattern_83 : decode cX5_withPattern 83 = .ok (.invokevirtual 92, 3) := by decide +kernel
theorem dX5_withPattern_86 : decode cX5_withPattern 86 = .ok (.invokevirtual 195, 3) := by decide +kernel
theorem dX5_withPattern_89 : decode cX5_withPattern 89 = .ok (.i2l, 1) := by decide +kernel
theorem dX5_withPattern_90 : decode cX5_withPattern 90 = .ok (.invokestatic 211, 3) := by decide +kernel
theorem dX5_withPattern_93 : decode cX5_withPattern 93 = .ok (.lreturn, 1) := by decide +kernel
set_option maxRecDepth 20000 in
theorem ggX5_withState_X5_stateProperty : GoodIn wsX5_withState wsX5_stateProperty := goodIn_r _ [5, 6, 7, 8, 9, 10, 11, 4, 12, 13, 14, 15, 16, 17, 18, 19, 20, 21, 22, 23, 24, 25, 26, 27, 28, 29, 30, 31, 32, 33, 34, 35, 36, 37, 38, 39, 44, 45, 46, 47, 48, 49, 50, 51, 52, 53, 54, 55, 56, 57, 58, 59, 60, 61, 62, 63] (by decide +kernel) (by decide +kernel)
set_option maxRecDepth 20000 in
theorem gX5_withState_X5_stateProperty : GoodIn wsX5_withState (wsV RX5 182 RX5 yX5_stateProperty wsX5_stateProperty) := goodIn_app (goodIn_of _ (by decide +kernel)) ggX5_withState_X5_stateProperty
set_option maxRecDepth 20000 in
theorem ggX5_withState_X5_hashed : GoodIn wsX5_withState wsX5_hashed := goodIn_r _ [42, 43] (by decide +kernel) (by decide +kernel)
set_option maxRecDepth 20000 in
theorem gX5_withState_X5_hashed : GoodIn wsX5_withState (va_wsS RX5 211 yX5_hashed wsX5_hashed) := goodIn_app (goodIn_of _ (by decide +kernel)) ggX5_withState_X5_hashed
theorem dX5_withState_0 : decode cX5_withState 0 = .ok (.lload_n 1, 1) := by decide +kernel
theorem dX5_withState_1 : decode cX5_withState 1 = .ok (.lstore 4, 2) := by decide +kernel
theorem dX5_withState_3 : decode cX5_withState 3 = .ok (.iconst 0, 1) := by decide +kernel
theorem dX5_withState_4 : decode cX5_withState 4 = .ok (.istore 6, 2) := by decide +kernel
theorem dX5_withState_6 : decode cX5_withState 6 = .ok (.iload 6, 2) := by decide +kernel
theorem dX5_withState_8 : decode cX5_withState 8 = .ok (.bipush 9, 2) := by decide +kernel
theorem dX5_withState_10 : decode cX5_withState 10 = .ok (.if_icmp .ge 24, 3) := by decide +kernel
theorem dX5_withState_13 : decode cX5_withState 13 = .ok (.lload 4, 2) := by decide +kernel
theorem dX5_withState_15 : decode cX5_withState 15 = .ok (.aload_n 0, 1) := by decide +kernel
theorem dX5_withState_16 : decode cX5_withState 16 = .ok (.iload_n 3, 1) := by decide +kernel
theorem dX5_withState_17 : decode cX5_withState 17 = .ok (.iload 6, 2) := by decide +kernel
theorem dX5_withState_19 : decode cX5_withState 19 = .ok (.invokevirtual 182, 3) := by decide +kernel
theorem dX5_withState_22 : decode cX5_withState 22 = .ok (.i2l, 1) := by decide +kernel
theorem dX5_withState_23 : decode cX5_withState 23 = .ok (.invokestatic 211, 3) := by decide +kernel
theorem dX5_withState_26 : decode cX5_withState 26 = .ok (.lstore 4, 2) := by decide +kernel
theorem dX5_withState_28 : decode cX5_withState 28 = .ok (.iinc 6 1, 3) := by decide +kernel
theorem dX5_withState_31 : decode cX5_withState 31 = .ok (.goto (-25), 3) := by decide +kernel
theorem dX5_withState_34 : decode cX5_withState 34 = .ok (.lload 4, 2) := by decide +kernel
theorem dX5_withState_36 : decode cX5_withState 36 = .ok (.lreturn, 1) := by decide +kernel
set_option maxRecDepth 20000 in
theorem ggX5_withLettersThatWouldBe_X5_fedNumber : GoodIn wsX5_withLettersThatWouldBe wsX5_fedNumber := goodIn_r _ [5, 6, 7, 8, 9, 10, 11, 12, 4, 13, 14, 15, 16, 17, 18, 19, 20, 21, 22, 23, 24, 25, 26, 27, 28, 29, 30, 31, 32, 33, 34, 35, 36, 37, 38, 39, 40, 41, 42, 43, 44, 45, 46, 47, 48, 49, 50, 51, 52, 53, 54, 55, 56, 57, 58, 59, 60, 61, 62, 63, 64, 65, 66, 67, 68, 69, 70, 71, 72, 73, 74, 83, 84, 85, 86, 87, 88, 89, 90, 91, 92, 93, 94, 95, 96, 97, 98, 99, 100, 101, 102] (by decide +kernel) (by decide +kernel)
set_option maxRecDepth 20000 in
theorem gX5_withLettersThatWouldBe_X5_fedNumber : GoodIn wsX5_withLettersThatWouldBe (wsV RX5 192 RX5 yX5_fedNumber wsX5_fedNumber) := goodIn_app (goodIn_of _ (by decide +kernel)) ggX5_withLettersThatWouldBe_X5_fedNumber
set_option maxRecDepth 20000 in
theorem ggX5_withLettersThatWouldBe_X5_hashed : GoodIn wsX5_withLettersThatWouldBe wsX5_hashed := goodIn_r _ [77, 78] (by decide +kernel) (by decide +kernel)
set_option maxRecDepth 20000 in
theorem gX5_withLettersThatWouldBe_X5_hashed : GoodIn wsX5_withLettersThatWouldBe (va_wsS RX5 211 yX5_hashed wsX5_hashed) := goodIn_app (goodIn_of _ (by decide +kernel)) ggX5_withLettersThatWouldBe_X5_hashed
set_option maxRecDepth 20000 in
theorem ggX5_withLettersThatWouldBe_X5_matchesIfRepeated : GoodIn wsX5_withLettersThatWouldBe wsX5_matchesIfRepeated := goodIn_r _ [82, 7, 9, 6, 8, 10, 11, 12, 4, 13, 14, 15, 16, 17, 18, 19, 20, 21, 22, 23, 24, 25, 26, 27, 28, 29, 30, 31, 32, 33, 34, 35, 36, 37, 38, 52, 53, 54, 55, 56, 57, 58, 59, 60, 61, 62, 63, 64, 65, 66, 67, 68, 69, 70, 71, 83, 84, 85, 86, 87, 88, 89, 90, 91, 92, 93, 94, 95, 96, 97, 98, 99, 100, 101, 102] (by decide +kernel) (by decide +kernel)
set_option maxRecDepth 20000 in
theorem gX5_withLettersThatWouldBe_X5_matchesIfRepeated : GoodIn wsX5_withLettersThatWouldBe (wsV RX5 200 RX5 yX5_matchesIfRepeated wsX5_matchesIfRepeated) := goodIn_app (goodIn_of _ (by decide +kernel)) ggX5_withLettersThatWouldBe_X5_matchesIfRepeated
theorem dX5_withLettersThatWouldBe_0 : decode cX5_withLettersThatWouldBe 0 = .ok (.lload_n 1, 1) := by decide +kernel
theorem dX5_withLettersThatWouldBe_1 : decode cX5_withLettersThatWouldBe 1 = .ok (.lstore_n 3, 1) := by decide +kernel
theorem dX5_withLettersThatWouldBe_2 : decode cX5_withLettersThatWouldBe 2 = .ok (.iconst 0, 1) := by decide +kernel
theorem dX5_withLettersThatWouldBe_3 : decode cX5_withLettersThatWouldBe 3 = .ok (.istore 5, 2) := by decide +kernel
theorem dX5_withLettersThatWouldBe_5 : decode cX5_withLettersThatWouldBe 5 = .ok (.iload 5, 2) := by decide +kernel
theorem dX5_withLettersThatWouldBe_7 : decode cX5_withLettersThatWouldBe 7 = .ok (.iconst 4, 1) := by decide +kernel
theorem dX5_withLettersThatWouldBe_8 : decode cX5_withLettersThatWouldBe 8 = .ok (.if_icmp .ge 38, 3) := by decide +kernel
theorem dX5_withLettersThatWouldBe_11 : decode cX5_withLettersThatWouldBe 11 = .ok (.iconst 0, 1) := by decide +kernel
theorem dX5_withLettersThatWouldBe_12 : decode cX5_withLettersThatWouldBe 12 = .ok (.istore 6, 2) := by decide +kernel
theorem dX5_withLettersThatWouldBe_14 : decode cX5_withLettersThatWouldBe 14 = .ok (.iload 6, 2) := by decide +kernel
theorem dX5_withLettersThatWouldBe_16 : decode cX5_withLettersThatWouldBe 16 = .ok (.iconst 4, 1) := by decide +kernel
theorem dX5_withLettersThatWouldBe_17 : decode cX5_withLettersThatWouldBe 17 = .ok (.if_icmp .ge 23, 3) := by decide +kernel
theorem dX5_withLettersThatWouldBe_20 : decode cX5_withLettersThatWouldBe 20 = .ok (.lload_n 3, 1) := by decide +kernel
theorem dX5_withLettersThatWouldBe_21 : decode cX5_withLettersThatWouldBe 21 = .ok (.aload_n 0, 1) := by decide +kernel
theorem dX5_withLettersThatWouldBe_22 : decode cX5_withLettersThatWouldBe 22 = .ok (.iload 5, 2) := by decide +kernel
theorem dX5_withLettersThatWouldBe_24 : decode cX5_withLettersThatWouldBe 24 = .ok (.iload 6, 2) := by decide +kernel
theorem dX5_withLettersThatWouldBe_26 : decode cX5_withLettersThatWouldBe 26 = .ok (.invokevirtual 192, 3) := by decide +kernel
theorem dX5_withLettersThatWouldBe_29 : decode cX5_withLettersThatWouldBe 29 = .ok (.i2l, 1) := by decide +kernel
theorem dX5_withLettersThatWouldBe_30 : decode cX5_withLettersThatWouldBe 30 = .ok (.invokestatic 211, 3) := by decide +kernel
theorem dX5_withLettersThatWouldBe_33 : decode cX5_withLettersThatWouldBe 33 = .ok (.lstore_n 3, 1) := by decide +kernel
theorem dX5_withLettersThatWouldBe_34 : decode cX5_withLettersThatWouldBe 34 = .ok (.iinc 6 1, 3) := by decide +kernel
theorem dX5_withLettersThatWouldBe_37 : decode cX5_withLettersThatWouldBe 37 = .ok (.goto (-23), 3) := by decide +kernel
theorem dX5_withLettersThatWouldBe_40 : decode cX5_withLettersThatWouldBe 40 = .ok (.iinc 5 1, 3) := by decide +kernel
theorem dX5_withLettersThatWouldBe_43 : decode cX5_withLettersThatWouldBe 43 = .ok (.goto (-38), 3) := by decide +kernel
theorem dX5_withLettersThatWouldBe_46 : decode cX5_withLettersThatWouldBe 46 = .ok (.iconst 0, 1) := by decide +kernel
theorem dX5_withLettersThatWouldBe_47 : decode cX5_withLettersThatWouldBe 47 = .ok (.istore 5, 2) := by decide +kernel
theorem dX5_withLettersThatWouldBe_49 : decode cX5_withLettersThatWouldBe 49 = .ok (.iload 5, 2) := by decide +kernel
theorem dX5_withLettersThatWouldBe_51 : decode cX5_withLettersThatWouldBe 51 = .ok (.iconst 4, 1) := by decide +kernel
theorem dX5_withLettersThatWouldBe_52 : decode cX5_withLettersThatWouldBe 52 = .ok (.if_icmp .ge 23, 3) := by decide +kernel
theorem dX5_withLettersThatWouldBe_55 : decode cX5_withLettersThatWouldBe 55 = .ok (.lload_n 3, 1) := by decide +kernel
theorem dX5_withLettersThatWouldBe_56 : decode cX5_withLettersThatWouldBe 56 = .ok (.aload_n 0, 1) := by decide +kernel
theorem dX5_withLettersThatWouldBe_57 : decode cX5_withLettersThatWouldBe 57 = .ok (.iload 5, 2) := by decide +kernel
theorem dX5_withLettersThatWouldBe_59 : decode cX5_withLettersThatWouldBe 59 = .ok (.bipush 9, 2) := by decide +kernel
theorem dX5_withLettersThatWouldBe_61 : decode cX5_withLettersThatWouldBe 61 = .ok (.invokevirtual 200, 3) := by decide +kernel
theorem dX5_withLettersThatWouldBe_64 : decode cX5_withLettersThatWouldBe 64 = .ok (.i2l, 1) := by decide +kernel
theorem dX5_withLettersThatWouldBe_65 : decode cX5_withLettersThatWouldBe 65 = .ok (.invokestatic 211, 3) := by decide +kernel
theorem dX5_withLettersThatWouldBe_68 : decode cX5_withLettersThatWouldBe 68 = .ok (.lstore_n 3, 1) := by decide +kernel
theorem dX5_withLettersThatWouldBe_69 : decode cX5_withLettersThatWouldBe 69 = .ok (.iinc 5 1, 3) := by decide +kernel
theorem dX5_withLettersThatWouldBe_72 : decode cX5_withLettersThatWouldBe 72 = .ok (.goto (-23), 3) := by decide +kernel
theorem dX5_withLettersThatWouldBe_75 : decode cX5_withLettersThatWouldBe 75 = .ok (.lload_n 3, 1) := by decide +kernel
theorem dX5_withLettersThatWouldBe_76 : decode cX5_withLettersThatWouldBe 76 = .ok (.lreturn, 1) := by decide +kernel
set_option maxRecDepth 20000 in
theorem ggX5_withBuffer_X5_hashed : GoodIn wsX5_withBuffer wsX5_hashed := goodIn_r _ [7, 8] (by decide +kernel) (by decide +kernel)
set_option maxRecDepth 20000 in
theorem gX5_withBuffer_X5_hashed : GoodIn wsX5_withBuffer (va_wsS RX5 211 yX5_hashed wsX5_hashed) := goodIn_app (goodIn_of _ (by decide +kernel)) ggX5_withBuffer_X5_hashed
set_option maxRecDepth 20000 in
theorem ggX5_withBuffer_X5_at : GoodIn wsX5_withBuffer wsX5_at := goodIn_r _ [11] (by decide +kernel) (by decide +kernel)
set_option maxRecDepth 20000 in
theorem gX5_withBuffer_X5_at : GoodIn wsX5_withBuffer (va_wsS RX5 68 yX5_at wsX5_at) := goodIn_app (goodIn_of _ (by decide +kernel)) ggX5_withBuffer_X5_at
theorem dX5_withBuffer_0 : decode cX5_withBuffer 0 = .ok (.lload_n 1, 1) := by decide +kernel
theorem dX5_withBuffer_1 : decode cX5_withBuffer 1 = .ok (.aload_n 0, 1) := by decide +kernel
theorem dX5_withBuffer_2 : decode cX5_withBuffer 2 = .ok (.getfield 33, 3) := by decide +kernel
theorem dX5_withBuffer_5 : decode cX5_withBuffer 5 = .ok (.getfield 142, 3) := by decide +kernel
theorem dX5_withBuffer_8 : decode cX5_withBuffer 8 = .ok (.i2l, 1) := by decide +kernel
theorem dX5_withBuffer_9 : decode cX5_withBuffer 9 = .ok (.invokestatic 211, 3) := by decide +kernel
theorem dX5_withBuffer_12 : decode cX5_withBuffer 12 = .ok (.lstore_n 3, 1) := by decide +kernel
theorem dX5_withBuffer_13 : decode cX5_withBuffer 13 = .ok (.iconst 0, 1) := by decide +kernel
theorem dX5_withBuffer_14 : decode cX5_withBuffer 14 = .ok (.istore 5, 2) := by decide +kernel
theorem dX5_withBuffer_16 : decode cX5_withBuffer 16 = .ok (.iload 5, 2) := by decide +kernel
theorem dX5_withBuffer_18 : decode cX5_withBuffer 18 = .ok (.aload_n 0, 1) := by decide +kernel
theorem dX5_withBuffer_19 : decode cX5_withBuffer 19 = .ok (.getfield 33, 3) := by decide +kernel
theorem dX5_withBuffer_22 : decode cX5_withBuffer 22 = .ok (.getfield 142, 3) := by decide +kernel
theorem dX5_withBuffer_25 : decode cX5_withBuffer 25 = .ok (.if_icmp .ge 27, 3) := by decide +kernel
theorem dX5_withBuffer_28 : decode cX5_withBuffer 28 = .ok (.lload_n 3, 1) := by decide +kernel
theorem dX5_withBuffer_29 : decode cX5_withBuffer 29 = .ok (.aload_n 0, 1) := by decide +kernel
theorem dX5_withBuffer_30 : decode cX5_withBuffer 30 = .ok (.getfield 33, 3) := by decide +kernel
theorem dX5_withBuffer_33 : decode cX5_withBuffer 33 = .ok (.getfield 240, 3) := by decide +kernel
theorem dX5_withBuffer_36 : decode cX5_withBuffer 36 = .ok (.iload 5, 2) := by decide +kernel
theorem dX5_withBuffer_38 : decode cX5_withBuffer 38 = .ok (.invokestatic 68, 3) := by decide +kernel
theorem dX5_withBuffer_41 : decode cX5_withBuffer 41 = .ok (.i2l, 1) := by decide +kernel
theorem dX5_withBuffer_42 : decode cX5_withBuffer 42 = .ok (.invokestatic 211, 3) := by decide +kernel
theorem dX5_withBuffer_45 : decode cX5_withBuffer 45 = .ok (.lstore_n 3, 1) := by decide +kernel
theorem dX5_withBuffer_46 : decode cX5_withBuffer 46 = .ok (.iinc 5 1, 3) := by decide +kernel
theorem dX5_withBuffer_49 : decode cX5_withBuffer 49 = .ok (.goto (-33), 3) := by decide +kernel
theorem dX5_withBuffer_52 : decode cX5_withBuffer 52 = .ok (.lload_n 3, 1) := by decide +kernel
theorem dX5_withBuffer_53 : decode cX5_withBuffer 53 = .ok (.lreturn, 1) := by decide +kernel
theorem dX5_bitsOf_0 : decode cX5_bitsOf 0 = .ok (.dload_n 0, 1) := by decide +kernel
theorem dX5_bitsOf_1 : decode cX5_bitsOf 1 = .ok (.dstore_n 2, 1) := by decide +kernel
theorem dX5_bitsOf_2 : decode cX5_bitsOf 2 = .ok (.ldc2_w 350, 3) := by decide +kernel
theorem dX5_bitsOf_5 : decode cX5_bitsOf 5 = .ok (.lstore 4, 2) := by decide +kernel
theorem dX5_bitsOf_7 : decode cX5_bitsOf 7 = .ok (.iconst 0, 1) := by decide +kernel
theorem dX5_bitsOf_8 : decode cX5_bitsOf 8 = .ok (.istore 6, 2) := by decide +kernel
theorem dX5_bitsOf_10 : decode cX5_bitsOf 10 = .ok (.iload 6, 2) := by decide +kernel
theorem dX5_bitsOf_12 : decode cX5_bitsOf 12 = .ok (.sipush 1023, 3) := by decide +kernel
theorem dX5_bitsOf_15 : decode cX5_bitsOf 15 = .ok (.if_icmp .ge 27, 3) := by decide +kernel
theorem dX5_bitsOf_18 : decode cX5_bitsOf 18 = .ok (.dload_n 2, 1) := by decide +kernel
