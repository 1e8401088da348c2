theorem dX6_add_78 : decode cX6_add 78 = .ok (.iconst 0, 1) := by decide +kernel
theorem dX6_add_79 : decode cX6_add 79 = .ok (.ireturn, 1) := by decide +kernel
theorem dX6_add_80 : decode cX6_add 80 = .ok (.aload_n 0, 1) := by decide +kernel
theorem dX6_add_81 : decode cX6_add 81 = .ok (.invokevirtual 112, 3) := by decide +kernel
theorem dX6_add_84 : decode cX6_add 84 = .ok (.aload_n 0, 1) := by decide +kernel
theorem dX6_add_85 : decode cX6_add 85 = .ok (.iconst 0, 1) := by decide +kernel
theorem dX6_add_86 : decode cX6_add 86 = .ok (.putfield 131, 3) := by decide +kernel
theorem dX6_add_89 : decode cX6_add 89 = .ok (.aload_n 0, 1) := by decide +kernel
theorem dX6_add_90 : decode cX6_add 90 = .ok (.invokevirtual 146, 3) := by decide +kernel
theorem dX6_add_93 : decode cX6_add 93 = .ok (.ireturn, 1) := by decide +kernel
set_option maxRecDepth 20000 in
theorem ggX6_remove_X6_in : GoodIn wsX6_remove wsX6_in := goodIn_r _ [5] (by decide +kernel) (by decide +kernel)
set_option maxRecDepth 20000 in
theorem gX6_remove_X6_in : GoodIn wsX6_remove (va_wsS RX6 105 yX6_in wsX6_in) := goodIn_app (goodIn_of _ (by decide +kernel)) ggX6_remove_X6_in
set_option maxRecDepth 20000 in
theorem ggX6_remove_X6_isThere : GoodIn wsX6_remove wsX6_isThere := goodIn_r _ [9, 1, 21, 22, 23, 24, 25, 26, 27, 28, 29, 30, 31, 32, 33, 34, 35, 36] (by decide +kernel) (by decide +kernel)
set_option maxRecDepth 20000 in
theorem gX6_remove_X6_isThere : GoodIn wsX6_remove (wsV RX6 53 RX6 yX6_isThere wsX6_isThere) := goodIn_app (goodIn_of _ (by decide +kernel)) ggX6_remove_X6_isThere
set_option maxRecDepth 20000 in
theorem ggX6_remove_X6_holds : GoodIn wsX6_remove wsX6_holds := goodIn_r _ [13, 14, 21, 22, 23, 24, 25, 26, 27, 28, 29, 30, 31, 32, 33, 34, 35, 36] (by decide +kernel) (by decide +kernel)
set_option maxRecDepth 20000 in
theorem gX6_remove_X6_holds : GoodIn wsX6_remove (wsV RX6 109 RX6 yX6_holds wsX6_holds) := goodIn_app (goodIn_of _ (by decide +kernel)) ggX6_remove_X6_holds
set_option maxRecDepth 20000 in
theorem ggX6_remove_X6_save : GoodIn wsX6_remove wsX6_save := goodIn_r _ [18, 19, 20, 1, 21, 22, 23, 24, 25, 26, 27, 28, 29, 30, 31, 32, 33, 34, 35, 36] (by decide +kernel) (by decide +kernel)
set_option maxRecDepth 20000 in
theorem gX6_remove_X6_save : GoodIn wsX6_remove (wsV RX6 112 RX6 yX6_save wsX6_save) := goodIn_app (goodIn_of _ (by decide +kernel)) ggX6_remove_X6_save
theorem dX6_remove_0 : decode cX6_remove 0 = .ok (.aload_n 0, 1) := by decide +kernel
theorem dX6_remove_1 : decode cX6_remove 1 = .ok (.iload_n 1, 1) := by decide +kernel
theorem dX6_remove_2 : decode cX6_remove 2 = .ok (.iconst 0, 1) := by decide +kernel
theorem dX6_remove_3 : decode cX6_remove 3 = .ok (.bipush 7, 2) := by decide +kernel
theorem dX6_remove_5 : decode cX6_remove 5 = .ok (.invokestatic 105, 3) := by decide +kernel
theorem dX6_remove_8 : decode cX6_remove 8 = .ok (.ifCond .ne 7, 3) := by decide +kernel
theorem dX6_remove_11 : decode cX6_remove 11 = .ok (.iconst 1, 1) := by decide +kernel
theorem dX6_remove_12 : decode cX6_remove 12 = .ok (.goto 16, 3) := by decide +kernel
theorem dX6_remove_15 : decode cX6_remove 15 = .ok (.aload_n 0, 1) := by decide +kernel
theorem dX6_remove_16 : decode cX6_remove 16 = .ok (.iload_n 1, 1) := by decide +kernel
theorem dX6_remove_17 : decode cX6_remove 17 = .ok (.invokevirtual 53, 3) := by decide +kernel
theorem dX6_remove_20 : decode cX6_remove 20 = .ok (.ifCond .ne 7, 3) := by decide +kernel
theorem dX6_remove_23 : decode cX6_remove 23 = .ok (.iconst 2, 1) := by decide +kernel
theorem dX6_remove_24 : decode cX6_remove 24 = .ok (.goto 4, 3) := by decide +kernel
theorem dX6_remove_27 : decode cX6_remove 27 = .ok (.iconst 0, 1) := by decide +kernel
theorem dX6_remove_28 : decode cX6_remove 28 = .ok (.invokevirtual 109, 3) := by decide +kernel
theorem dX6_remove_31 : decode cX6_remove 31 = .ok (.ifCond .ne 5, 3) := by decide +kernel
theorem dX6_remove_34 : decode cX6_remove 34 = .ok (.iconst 0, 1) := by decide +kernel
theorem dX6_remove_35 : decode cX6_remove 35 = .ok (.ireturn, 1) := by decide +kernel
theorem dX6_remove_36 : decode cX6_remove 36 = .ok (.aload_n 0, 1) := by decide +kernel
theorem dX6_remove_37 : decode cX6_remove 37 = .ok (.invokevirtual 112, 3) := by decide +kernel
theorem dX6_remove_40 : decode cX6_remove 40 = .ok (.aload_n 0, 1) := by decide +kernel
theorem dX6_remove_41 : decode cX6_remove 41 = .ok (.getfield 7, 3) := by decide +kernel
theorem dX6_remove_44 : decode cX6_remove 44 = .ok (.bipush 8, 2) := by decide +kernel
theorem dX6_remove_46 : decode cX6_remove 46 = .ok (.iload_n 1, 1) := by decide +kernel
theorem dX6_remove_47 : decode cX6_remove 47 = .ok (.iadd, 1) := by decide +kernel
theorem dX6_remove_48 : decode cX6_remove 48 = .ok (.iaload, 1) := by decide +kernel
theorem dX6_remove_49 : decode cX6_remove 49 = .ok (.istore_n 2, 1) := by decide +kernel
theorem dX6_remove_50 : decode cX6_remove 50 = .ok (.aload_n 0, 1) := by decide +kernel
theorem dX6_remove_51 : decode cX6_remove 51 = .ok (.getfield 7, 3) := by decide +kernel
theorem dX6_remove_54 : decode cX6_remove 54 = .ok (.iconst 0, 1) := by decide +kernel
theorem dX6_remove_55 : decode cX6_remove 55 = .ok (.iload_n 1, 1) := by decide +kernel
theorem dX6_remove_56 : decode cX6_remove 56 = .ok (.iadd, 1) := by decide +kernel
theorem dX6_remove_57 : decode cX6_remove 57 = .ok (.iconst 0, 1) := by decide +kernel
theorem dX6_remove_58 : decode cX6_remove 58 = .ok (.iastore, 1) := by decide +kernel
theorem dX6_remove_59 : decode cX6_remove 59 = .ok (.aload_n 0, 1) := by decide +kernel
theorem dX6_remove_60 : decode cX6_remove 60 = .ok (.getfield 7, 3) := by decide +kernel
theorem dX6_remove_63 : decode cX6_remove 63 = .ok (.bipush 8, 2) := by decide +kernel
theorem dX6_remove_65 : decode cX6_remove 65 = .ok (.iload_n 1, 1) := by decide +kernel
theorem dX6_remove_66 : decode cX6_remove 66 = .ok (.iadd, 1) := by decide +kernel
theorem dX6_remove_67 : decode cX6_remove 67 = .ok (.iconst 0, 1) := by decide +kernel
theorem dX6_remove_68 : decode cX6_remove 68 = .ok (.iastore, 1) := by decide +kernel
theorem dX6_remove_69 : decode cX6_remove 69 = .ok (.aload_n 0, 1) := by decide +kernel
theorem dX6_remove_70 : decode cX6_remove 70 = .ok (.getfield 7, 3) := by decide +kernel
theorem dX6_remove_73 : decode cX6_remove 73 = .ok (.bipush 16, 2) := by decide +kernel
theorem dX6_remove_75 : decode cX6_remove 75 = .ok (.iload_n 1, 1) := by decide +kernel
theorem dX6_remove_76 : decode cX6_remove 76 = .ok (.iadd, 1) := by decide +kernel
theorem dX6_remove_77 : decode cX6_remove 77 = .ok (.iconst (-1), 1) := by decide +kernel
theorem dX6_remove_78 : decode cX6_remove 78 = .ok (.iastore, 1) := by decide +kernel
theorem dX6_remove_79 : decode cX6_remove 79 = .ok (.iload_n 2, 1) := by decide +kernel
theorem dX6_remove_80 : decode cX6_remove 80 = .ok (.ireturn, 1) := by decide +kernel
set_option maxRecDepth 20000 in
theorem ggX6_rule_X6_in : GoodIn wsX6_rule wsX6_in := goodIn_r _ [5] (by decide +kernel) (by decide +kernel)
set_option maxRecDepth 20000 in
theorem gX6_rule_X6_in : GoodIn wsX6_rule (va_wsS RX6 105 yX6_in wsX6_in) := goodIn_app (goodIn_of _ (by decide +kernel)) ggX6_rule_X6_in
set_option maxRecDepth 20000 in
theorem ggX6_rule_X6_holds : GoodIn wsX6_rule wsX6_holds := goodIn_r _ [9, 10, 17, 18, 19, 20, 21, 22, 23, 24, 25, 26, 27, 28, 29, 30, 31, 32] (by decide +kernel) (by decide +kernel)
set_option maxRecDepth 20000 in
theorem gX6_rule_X6_holds : GoodIn wsX6_rule (wsV RX6 109 RX6 yX6_holds wsX6_holds) := goodIn_app (goodIn_of _ (by decide +kernel)) ggX6_rule_X6_holds
set_option maxRecDepth 20000 in
theorem ggX6_rule_X6_save : GoodIn wsX6_rule wsX6_save := goodIn_r _ [14, 15, 16, 1, 17, 18, 19, 20, 21, 22, 23, 24, 25, 26, 27, 28, 29, 30, 31, 32] (by decide +kernel) (by decide +kernel)
set_option maxRecDepth 20000 in
theorem gX6_rule_X6_save : GoodIn wsX6_rule (wsV RX6 112 RX6 yX6_save wsX6_save) := goodIn_app (goodIn_of _ (by decide +kernel)) ggX6_rule_X6_save
theorem dX6_rule_0 : decode cX6_rule 0 = .ok (.aload_n 0, 1) := by decide +kernel
theorem dX6_rule_1 : decode cX6_rule 1 = .ok (.iload_n 1, 1) := by decide +kernel
theorem dX6_rule_2 : decode cX6_rule 2 = .ok (.iconst 0, 1) := by decide +kernel
theorem dX6_rule_3 : decode cX6_rule 3 = .ok (.iconst 2, 1) := by decide +kernel
theorem dX6_rule_4 : decode cX6_rule 4 = .ok (.invokestatic 105, 3) := by decide +kernel
theorem dX6_rule_7 : decode cX6_rule 7 = .ok (.ifCond .eq 7, 3) := by decide +kernel
theorem dX6_rule_10 : decode cX6_rule 10 = .ok (.iconst 0, 1) := by decide +kernel
theorem dX6_rule_11 : decode cX6_rule 11 = .ok (.goto 4, 3) := by decide +kernel
theorem dX6_rule_14 : decode cX6_rule 14 = .ok (.iconst 1, 1) := by decide +kernel
theorem dX6_rule_15 : decode cX6_rule 15 = .ok (.invokevirtual 109, 3) := by decide +kernel
theorem dX6_rule_18 : decode cX6_rule 18 = .ok (.ifCond .ne 5, 3) := by decide +kernel
theorem dX6_rule_21 : decode cX6_rule 21 = .ok (.iconst 0, 1) := by decide +kernel
theorem dX6_rule_22 : decode cX6_rule 22 = .ok (.ireturn, 1) := by decide +kernel
theorem dX6_rule_23 : decode cX6_rule 23 = .ok (.aload_n 0, 1) := by decide +kernel
theorem dX6_rule_24 : decode cX6_rule 24 = .ok (.invokevirtual 112, 3) := by decide +kernel
theorem dX6_rule_27 : decode cX6_rule 27 = .ok (.aload_n 0, 1) := by decide +kernel
theorem dX6_rule_28 : decode cX6_rule 28 = .ok (.getfield 7, 3) := by decide +kernel
theorem dX6_rule_31 : decode cX6_rule 31 = .ok (.bipush 24, 2) := by decide +kernel
theorem dX6_rule_33 : decode cX6_rule 33 = .ok (.iaload, 1) := by decide +kernel
theorem dX6_rule_34 : decode cX6_rule 34 = .ok (.istore_n 2, 1) := by decide +kernel
theorem dX6_rule_35 : decode cX6_rule 35 = .ok (.aload_n 0, 1) := by decide +kernel
theorem dX6_rule_36 : decode cX6_rule 36 = .ok (.getfield 7, 3) := by decide +kernel
theorem dX6_rule_39 : decode cX6_rule 39 = .ok (.bipush 24, 2) := by decide +kernel
theorem dX6_rule_41 : decode cX6_rule 41 = .ok (.iload_n 1, 1) := by decide +kernel
theorem dX6_rule_42 : decode cX6_rule 42 = .ok (.iastore, 1) := by decide +kernel
theorem dX6_rule_43 : decode cX6_rule 43 = .ok (.iload_n 2, 1) := by decide +kernel
theorem dX6_rule_44 : decode cX6_rule 44 = .ok (.ireturn, 1) := by decide +kernel
set_option maxRecDepth 20000 in
theorem ggX6_feedAll_X6_goLetters : GoodIn wsX6_feedAll wsX6_goLetters := goodIn_r _ [10, 11, 1, 4, 5, 2, 12, 13, 14, 9, 15, 16, 17, 18, 19, 3, 20, 21, 22, 23, 24, 25, 26, 27, 28, 29, 30, 31, 32, 33, 34, 35, 36, 37, 38, 39, 40, 41, 42, 43, 44, 45, 46, 47, 48, 49, 50, 51, 52, 53, 54, 55, 56, 57, 58, 59, 60, 61, 62, 63, 64, 65, 66, 67, 68, 69, 70, 71, 72, 73, 74, 75, 76, 77, 78, 79, 80, 81, 82, 94, 95, 96, 97, 98, 99, 100, 101, 102, 103, 104, 105, 106, 107, 108, 109] (by decide +kernel) (by decide +kernel)
set_option maxRecDepth 20000 in
theorem gX6_feedAll_X6_goLetters : GoodIn wsX6_feedAll (wsV RX6 152 RX6 yX6_goLetters wsX6_goLetters) := goodIn_app (goodIn_of _ (by decide +kernel)) ggX6_feedAll_X6_goLetters
set_option maxRecDepth 20000 in
theorem ggX6_feedAll_X6_holds : GoodIn wsX6_feedAll wsX6_holds := goodIn_r _ [86, 87, 94, 95, 96, 97, 98, 99, 100, 101, 102, 103, 104, 105, 106, 107, 108, 109] (by decide +kernel) (by decide +kernel)
set_option maxRecDepth 20000 in
theorem gX6_feedAll_X6_holds : GoodIn wsX6_feedAll (wsV RX6 109 RX6 yX6_holds wsX6_holds) := goodIn_app (goodIn_of _ (by decide +kernel)) ggX6_feedAll_X6_holds
set_option maxRecDepth 20000 in
theorem ggX6_feedAll_X6_save : GoodIn wsX6_feedAll wsX6_save := goodIn_r _ [91, 92, 93, 3, 94, 95, 96, 97, 98, 99, 100, 101, 102, 103, 104, 105, 106, 107, 108, 109] (by decide +kernel) (by decide +kernel)
set_option maxRecDepth 20000 in
theorem gX6_feedAll_X6_save : GoodIn wsX6_feedAll (wsV RX6 112 RX6 yX6_save wsX6_save) := goodIn_app (goodIn_of _ (by decide +kernel)) ggX6_feedAll_X6_save
theorem dX6_feedAll_0 : decode cX6_feedAll 0 = .ok (.aload_n 0, 1) := by decide +kernel
theorem dX6_feedAll_1 : decode cX6_feedAll 1 = .ok (.iconst 0, 1) := by decide +kernel
theorem dX6_feedAll_2 : decode cX6_feedAll 2 = .ok (.invokevirtual 152, 3) := by decide +kernel
theorem dX6_feedAll_5 : decode cX6_feedAll 5 = .ok (.aload_n 0, 1) := by decide +kernel
theorem dX6_feedAll_6 : decode cX6_feedAll 6 = .ok (.aload_n 0, 1) := by decide +kernel
theorem dX6_feedAll_7 : decode cX6_feedAll 7 = .ok (.getfield 121, 3) := by decide +kernel
theorem dX6_feedAll_10 : decode cX6_feedAll 10 = .ok (.ifCond .ne 10, 3) := by decide +kernel
theorem dX6_feedAll_13 : decode cX6_feedAll 13 = .ok (.aload_n 0, 1) := by decide +kernel
theorem dX6_feedAll_14 : decode cX6_feedAll 14 = .ok (.getfield 131, 3) := by decide +kernel
theorem dX6_feedAll_17 : decode cX6_feedAll 17 = .ok (.ifCond .ne 7, 3) := by decide +kernel
theorem dX6_feedAll_20 : decode cX6_feedAll 20 = .ok (.iconst 1, 1) := by decide +kernel
theorem dX6_feedAll_21 : decode cX6_feedAll 21 = .ok (.goto 26, 3) := by decide +kernel
theorem dX6_feedAll_24 : decode cX6_feedAll 24 = .ok (.aload_n 0, 1) := by decide +kernel
theorem dX6_feedAll_25 : decode cX6_feedAll 25 = .ok (.getfield 7, 3) := by decide +kernel
theorem dX6_feedAll_28 : decode cX6_feedAll 28 = .ok (.bipush 25, 2) := by decide +kernel
theorem dX6_feedAll_30 : decode cX6_feedAll 30 = .ok (.iaload, 1) := by decide +kernel
theorem dX6_feedAll_31 : decode cX6_feedAll 31 = .ok (.aload_n 0, 1) := by decide +kernel
theorem dX6_feedAll_32 : decode cX6_feedAll 32 = .ok (.getfield 125, 3) := by decide +kernel
theorem dX6_feedAll_35 : decode cX6_feedAll 35 = .ok (.iadd, 1) := by decide +kernel
theorem dX6_feedAll_36 : decode cX6_feedAll 36 = .ok (.sipush 9999, 3) := by decide +kernel
theorem dX6_feedAll_39 : decode cX6_feedAll 39 = .ok (.if_icmp .le 7, 3) := by decide +kernel
theorem dX6_feedAll_42 : decode cX6_feedAll 42 = .ok (.iconst 2, 1) := by decide +kernel
theorem dX6_feedAll_43 : decode cX6_feedAll 43 = .ok (.goto 4, 3) := by decide +kernel
theorem dX6_feedAll_46 : decode cX6_feedAll 46 = .ok (.iconst 0, 1) := by decide +kernel
theorem dX6_feedAll_47 : decode cX6_feedAll 47 = .ok (.invokevirtual 109, 3) := by decide +kernel
theorem dX6_feedAll_50 : decode cX6_feedAll 50 = .ok (.ifCond .ne 5, 3) := by decide +kernel
theorem dX6_feedAll_53 : decode cX6_feedAll 53 = .ok (.iconst 0, 1) := by decide +kernel
theorem dX6_feedAll_54 : decode cX6_feedAll 54 = .ok (.ireturn, 1) := by decide +kernel
theorem dX6_feedAll_55 : decode cX6_feedAll 55 = .ok (.aload_n 0, 1) := by decide +kernel
theorem dX6_feedAll_56 : decode cX6_feedAll 56 = .ok (.invokevirtual 112, 3) := by decide +kernel
theorem dX6_feedAll_59 : decode cX6_feedAll 59 = .ok (.aload_n 0, 1) := by decide +kernel
theorem dX6_feedAll_60 : decode cX6_feedAll 60 = .ok (.iconst 1, 1) := by decide +kernel
theorem dX6_feedAll_61 : decode cX6_feedAll 61 = .ok (.invokevirtual 152, 3) := by decide +kernel
theorem dX6_feedAll_64 : decode cX6_feedAll 64 = .ok (.aload_n 0, 1) := by decide +kernel
theorem dX6_feedAll_65 : decode cX6_feedAll 65 = .ok (.iconst 0, 1) := by decide +kernel
theorem dX6_feedAll_66 : decode cX6_feedAll 66 = .ok (.putfield 131, 3) := by decide +kernel
theorem dX6_feedAll_69 : decode cX6_feedAll 69 = .ok (.aload_n 0, 1) := by decide +kernel
theorem dX6_feedAll_70 : decode cX6_feedAll 70 = .ok (.getfield 128, 3) := by decide +kernel
theorem dX6_feedAll_73 : decode cX6_feedAll 73 = .ok (.ireturn, 1) := by decide +kernel
set_option maxRecDepth 20000 in
theorem ggX6_append_X6_in : GoodIn wsX6_append wsX6_in := goodIn_r _ [6] (by decide +kernel) (by decide +kernel)
set_option maxRecDepth 20000 in
theorem gX6_append_X6_in : GoodIn wsX6_append (va_wsS RX6 105 yX6_in wsX6_in) := goodIn_app (goodIn_of _ (by decide +kernel)) ggX6_append_X6_in
set_option maxRecDepth 20000 in
theorem ggX6_append_X6_holds : GoodIn wsX6_append wsX6_holds := goodIn_r _ [10, 11, 12, 13, 14, 15, 16, 17, 18, 19, 20, 21, 22, 23, 24, 25, 26, 27] (by decide +kernel) (by decide +kernel)
set_option maxRecDepth 20000 in
theorem gX6_append_X6_holds : GoodIn wsX6_append (wsV RX6 109 RX6 yX6_holds wsX6_holds) := goodIn_app (goodIn_of _ (by decide +kernel)) ggX6_append_X6_holds
theorem dX6_append_0 : decode cX6_append 0 = .ok (.aload_n 0, 1) := by decide +kernel
theorem dX6_append_1 : decode cX6_append 1 = .ok (.iload_n 1, 1) := by decide +kernel
theorem dX6_append_2 : decode cX6_append 2 = .ok (.bipush 33, 2) := by decide +kernel
theorem dX6_append_4 : decode cX6_append 4 = .ok (.bipush 126, 2) := by decide +kernel
theorem dX6_append_6 : decode cX6_append 6 = .ok (.invokestatic 105, 3) := by decide +kernel
theorem dX6_append_9 : decode cX6_append 9 = .ok (.ifCond .ne 7, 3) := by decide +kernel
theorem dX6_append_12 : decode cX6_append 12 = .ok (.iconst 1, 1) := by decide +kernel
theorem dX6_append_13 : decode cX6_append 13 = .ok (.goto 17, 3) := by decide +kernel
theorem dX6_append_16 : decode cX6_append 16 = .ok (.aload_n 0, 1) := by decide +kernel
theorem dX6_append_17 : decode cX6_append 17 = .ok (.getfield 131, 3) := by decide +kernel
theorem dX6_append_20 : decode cX6_append 20 = .ok (.bipush 60, 2) := by decide +kernel
theorem dX6_append_22 : decode cX6_append 22 = .ok (.if_icmp .ne 7, 3) := by decide +kernel
theorem dX6_append_25 : decode cX6_append 25 = .ok (.iconst 2, 1) := by decide +kernel
theorem dX6_append_26 : decode cX6_append 26 = .ok (.goto 4, 3) := by decide +kernel
theorem dX6_append_29 : decode cX6_append 29 = .ok (.iconst 0, 1) := by decide +kernel
theorem dX6_append_30 : decode cX6_append 30 = .ok (.invokevirtual 109, 3) := by decide +kernel
theorem dX6_append_33 : decode cX6_append 33 = .ok (.ifCond .ne 5, 3) := by decide +kernel
theorem dX6_append_36 : decode cX6_append 36 = .ok (.iconst 0, 1) := by decide +kernel
theorem dX6_append_37 : decode cX6_append 37 = .ok (.ireturn, 1) := by decide +kernel
theorem dX6_append_38 : decode cX6_append 38 = .ok (.aload_n 0, 1) := by decide +kernel
theorem dX6_append_39 : decode cX6_append 39 = .ok (.getfield 19, 3) := by decide +kernel
theorem dX6_append_42 : decode cX6_append 42 = .ok (.aload_n 0, 1) := by decide +kernel
theorem dX6_append_43 : decode cX6_append 43 = .ok (.getfield 131, 3) := by decide +kernel
theorem dX6_append_46 : decode cX6_append 46 = .ok (.iload_n 1, 1) := by decide +kernel
theorem dX6_append_47 : decode cX6_append 47 = .ok (.iastore, 1) := by decide +kernel
theorem dX6_append_48 : decode cX6_append 48 = .ok (.aload_n 0, 1) := by decide +kernel
theorem dX6_append_49 : decode cX6_append 49 = .ok (.dup, 1) := by decide +kernel
theorem dX6_append_50 : decode cX6_append 50 = .ok (.getfield 131, 3) := by decide +kernel
theorem dX6_append_53 : decode cX6_append 53 = .ok (.iconst 1, 1) := by decide +kernel
theorem dX6_append_54 : decode cX6_append 54 = .ok (.iadd, 1) := by decide +kernel
theorem dX6_append_55 : decode cX6_append 55 = .ok (.putfield 131, 3) := by decide +kernel
theorem dX6_append_58 : decode cX6_append 58 = .ok (.aload_n 0, 1) := by decide +kernel
theorem dX6_append_59 : decode cX6_append 59 = .ok (.getfield 131, 3) := by decide +kernel
theorem dX6_append_62 : decode cX6_append 62 = .ok (.ireturn, 1) := by decide +kernel
theorem dX6_clearBuffer_0 : decode cX6_clearBuffer 0 = .ok (.aload_n 0, 1) := by decide +kernel
theorem dX6_clearBuffer_1 : decode cX6_clearBuffer 1 = .ok (.iconst 0, 1) := by decide +kernel
theorem dX6_clearBuffer_2 : decode cX6_clearBuffer 2 = .ok (.putfield 31, 3) := by decide +kernel
theorem dX6_clearBuffer_5 : decode cX6_clearBuffer 5 = .ok (.aload_n 0, 1) := by decide +kernel
theorem dX6_clearBuffer_6 : decode cX6_clearBuffer 6 = .ok (.getfield 131, 3) := by decide +kernel
theorem dX6_clearBuffer_9 : decode cX6_clearBuffer 9 = .ok (.istore_n 1, 1) := by decide +kernel
theorem dX6_clearBuffer_10 : decode cX6_clearBuffer 10 = .ok (.aload_n 0, 1) := by decide +kernel
theorem dX6_clearBuffer_11 : decode cX6_clearBuffer 11 = .ok (.iconst 0, 1) := by decide +kernel
theorem dX6_clearBuffer_12 : decode cX6_clearBuffer 12 = .ok (.putfield 131, 3) := by decide +kernel
theorem dX6_clearBuffer_15 : decode cX6_clearBuffer 15 = .ok (.iload_n 1, 1) := by decide +kernel
theorem dX6_clearBuffer_16 : decode cX6_clearBuffer 16 = .ok (.ireturn, 1) := by decide +kernel
set_option maxRecDepth 20000 in
theorem ggX6_firstError_X6_goPatterns : GoodIn wsX6_firstError wsX6_goPatterns := goodIn_r _ [7, 2, 8, 9, 10, 11, 12, 13, 14, 6, 15, 16, 17, 18, 90, 91, 92, 93, 94, 95, 96, 97, 98, 99, 100, 101, 102, 103, 104, 105] (by decide +kernel) (by decide +kernel)
set_option maxRecDepth 20000 in
theorem gX6_firstError_X6_goPatterns : GoodIn wsX6_firstError (wsV RX6 140 RX6 yX6_goPatterns wsX6_goPatterns) := goodIn_app (goodIn_of _ (by decide +kernel)) ggX6_firstError_X6_goPatterns
set_option maxRecDepth 20000 in
theorem ggX6_firstError_X6_goLetters : GoodIn wsX6_firstError wsX6_goLetters := goodIn_r _ [22, 2, 8, 23, 24, 10, 11, 13, 14, 6, 15, 25, 26, 27, 28, 29, 30, 31, 32, 33, 34, 35, 36, 37, 38, 16, 17, 18, 39, 40, 41, 42, 43, 44, 45, 46, 47, 48, 49, 50, 51, 52, 53, 54, 55, 56, 57, 58, 59, 60, 61, 62, 63, 64, 65, 66, 67, 68, 69, 70, 71, 72, 73, 74, 75, 76, 77, 78, 79, 80, 81, 82, 83, 84, 85, 86, 87, 88, 89, 90, 91, 92, 93, 94, 95, 96, 97, 98, 99, 100, 101, 102, 103, 104, 105] (by decide +kernel) (by decide +kernel)
set_option maxRecDepth 20000 in
theorem gX6_firstError_X6_goLetters : GoodIn wsX6_firstError (wsV RX6 152 RX6 yX6_goLetters wsX6_goLetters) := goodIn_app (goodIn_of _ (by decide +kernel)) ggX6_firstError_X6_goLetters
theorem dX6_firstError_0 : decode cX6_firstError 0 = .ok (.aload_n 0, 1) := by decide +kernel
theorem dX6_firstError_1 : decode cX6_firstError 1 = .ok (.iconst 0, 1) := by decide +kernel
theorem dX6_firstError_2 : decode cX6_firstError 2 = .ok (.putfield 31, 3) := by decide +kernel
theorem dX6_firstError_5 : decode cX6_firstError 5 = .ok (.iload_n 1, 1) := by decide +kernel
theorem dX6_firstError_6 : decode cX6_firstError 6 = .ok (.ifCond .eq 10, 3) := by decide +kernel
theorem dX6_firstError_9 : decode cX6_firstError 9 = .ok (.aload_n 0, 1) := by decide +kernel
theorem dX6_firstError_10 : decode cX6_firstError 10 = .ok (.invokevirtual 140, 3) := by decide +kernel
theorem dX6_firstError_13 : decode cX6_firstError 13 = .ok (.goto 8, 3) := by decide +kernel
theorem dX6_firstError_16 : decode cX6_firstError 16 = .ok (.aload_n 0, 1) := by decide +kernel
theorem dX6_firstError_17 : decode cX6_firstError 17 = .ok (.iconst 0, 1) := by decide +kernel
theorem dX6_firstError_18 : decode cX6_firstError 18 = .ok (.invokevirtual 152, 3) := by decide +kernel
theorem dX6_firstError_21 : decode cX6_firstError 21 = .ok (.aload_n 0, 1) := by decide +kernel
theorem dX6_firstError_22 : decode cX6_firstError 22 = .ok (.getfield 118, 3) := by decide +kernel
theorem dX6_firstError_25 : decode cX6_firstError 25 = .ok (.ireturn, 1) := by decide +kernel
set_option maxRecDepth 20000 in
theorem ggX6_undo_X6_holds : GoodIn wsX6_undo wsX6_holds := goodIn_r _ [8, 9, 10, 11, 12, 13, 14, 15, 16, 17, 18, 19, 20, 21, 22, 23, 24, 25] (by decide +kernel) (by decide +kernel)
set_option maxRecDepth 20000 in
theorem gX6_undo_X6_holds : GoodIn wsX6_undo (wsV RX6 109 RX6 yX6_holds wsX6_holds) := goodIn_app (goodIn_of _ (by decide +kernel)) ggX6_undo_X6_holds
theorem dX6_undo_0 : decode cX6_undo 0 = .ok (.aload_n 0, 1) := by decide +kernel
theorem dX6_undo_1 : decode cX6_undo 1 = .ok (.aload_n 0, 1) := by decide +kernel
theorem dX6_undo_2 : decode cX6_undo 2 = .ok (.getfield 35, 3) := by decide +kernel
theorem dX6_undo_5 : decode cX6_undo 5 = .ok (.ifCond .le 7, 3) := by decide +kernel
theorem dX6_undo_8 : decode cX6_undo 8 = .ok (.iconst 0, 1) := by decide +kernel
theorem dX6_undo_9 : decode cX6_undo 9 = .ok (.goto 4, 3) := by decide +kernel
theorem dX6_undo_12 : decode cX6_undo 12 = .ok (.iconst 1, 1) := by decide +kernel
theorem dX6_undo_13 : decode cX6_undo 13 = .ok (.invokevirtual 109, 3) := by decide +kernel
theorem dX6_undo_16 : decode cX6_undo 16 = .ok (.ifCond .ne 5, 3) := by decide +kernel
theorem dX6_undo_19 : decode cX6_undo 19 = .ok (.iconst 0, 1) := by decide +kernel
theorem dX6_undo_20 : decode cX6_undo 20 = .ok (.ireturn, 1) := by decide +kernel
theorem dX6_undo_21 : decode cX6_undo 21 = .ok (.aload_n 0, 1) := by decide +kernel
theorem dX6_undo_22 : decode cX6_undo 22 = .ok (.dup, 1) := by decide +kernel
theorem dX6_undo_23 : decode cX6_undo 23 = .ok (.getfield 35, 3) := by decide +kernel
theorem dX6_undo_26 : decode cX6_undo 26 = .ok (.iconst 1, 1) := by decide +kernel
theorem dX6_undo_27 : decode cX6_undo 27 = .ok (.isub, 1) := by decide +kernel
theorem dX6_undo_28 : decode cX6_undo 28 = .ok (.putfield 35, 3) := by decide +kernel
theorem dX6_undo_31 : decode cX6_undo 31 = .ok (.iconst 0, 1) := by decide +kernel
theorem dX6_undo_32 : decode cX6_undo 32 = .ok (.istore_n 1, 1) := by decide +kernel
theorem dX6_undo_33 : decode cX6_undo 33 = .ok (.iload_n 1, 1) := by decide +kernel
theorem dX6_undo_34 : decode cX6_undo 34 = .ok (.bipush 31, 2) := by decide +kernel
theorem dX6_undo_36 : decode cX6_undo 36 = .ok (.if_icmp .ge 29, 3) := by decide +kernel
theorem dX6_undo_39 : decode cX6_undo 39 = .ok (.aload_n 0, 1) := by decide +kernel
theorem dX6_undo_40 : decode cX6_undo 40 = .ok (.getfield 7, 3) := by decide +kernel
theorem dX6_undo_43 : decode cX6_undo 43 = .ok (.iload_n 1, 1) := by decide +kernel
theorem dX6_undo_44 : decode cX6_undo 44 = .ok (.aload_n 0, 1) := by decide +kernel
theorem dX6_undo_45 : decode cX6_undo 45 = .ok (.getfield 16, 3) := by decide +kernel
theorem dX6_undo_48 : decode cX6_undo 48 = .ok (.bipush 31, 2) := by decide +kernel
theorem dX6_undo_50 : decode cX6_undo 50 = .ok (.aload_n 0, 1) := by decide +kernel
theorem dX6_undo_51 : decode cX6_undo 51 = .ok (.getfield 35, 3) := by decide +kernel
theorem dX6_undo_54 : decode cX6_undo 54 = .ok (.imul, 1) := by decide +kernel
theorem dX6_undo_55 : decode cX6_undo 55 = .ok (.iload_n 1, 1) := by decide +kernel
theorem dX6_undo_56 : decode cX6_undo 56 = .ok (.iadd, 1) := by decide +kernel
theorem dX6_undo_57 : decode cX6_undo 57 = .ok (.iaload, 1) := by decide +kernel
theorem dX6_undo_58 : decode cX6_undo 58 = .ok (.iastore, 1) := by decide +kernel
theorem dX6_undo_59 : decode cX6_undo 59 = .ok (.iinc 1 1, 3) := by decide +kernel
theorem dX6_undo_62 : decode cX6_undo 62 = .ok (.goto (-29), 3) := by decide +kernel
theorem dX6_undo_65 : decode cX6_undo 65 = .ok (.aload_n 0, 1) := by decide +kernel
theorem dX6_undo_66 : decode cX6_undo 66 = .ok (.getfield 35, 3) := by decide +kernel
theorem dX6_undo_69 : decode cX6_undo 69 = .ok (.ireturn, 1) := by decide +kernel
set_option maxRecDepth 20000 in
theorem ggX6_parts_X6_isThere : GoodIn wsX6_parts wsX6_isThere := goodIn_r _ [6, 1, 22, 23, 24, 25, 26, 27, 28, 29, 30, 31, 32, 33, 34, 35, 36, 37] (by decide +kernel) (by decide +kernel)
set_option maxRecDepth 20000 in
theorem gX6_parts_X6_isThere : GoodIn wsX6_parts (wsV RX6 53 RX6 yX6_isThere wsX6_isThere) := goodIn_app (goodIn_of _ (by decide +kernel)) ggX6_parts_X6_isThere
set_option maxRecDepth 20000 in
theorem ggX6_parts_X6_isPart : GoodIn wsX6_parts wsX6_isPart := goodIn_r _ [9, 10, 11, 5, 12, 13, 14, 15, 16, 17, 18, 19, 20, 21] (by decide +kernel) (by decide +kernel)
set_option maxRecDepth 20000 in
theorem gX6_parts_X6_isPart : GoodIn wsX6_parts (va_wsS RX6 156 yX6_isPart wsX6_isPart) := goodIn_app (goodIn_of _ (by decide +kernel)) ggX6_parts_X6_isPart
theorem dX6_parts_0 : decode cX6_parts 0 = .ok (.iconst 0, 1) := by decide +kernel
theorem dX6_parts_1 : decode cX6_parts 1 = .ok (.istore_n 3, 1) := by decide +kernel
theorem dX6_parts_2 : decode cX6_parts 2 = .ok (.iconst 0, 1) := by decide +kernel
theorem dX6_parts_3 : decode cX6_parts 3 = .ok (.istore 4, 2) := by decide +kernel
theorem dX6_parts_5 : decode cX6_parts 5 = .ok (.iload 4, 2) := by decide +kernel
theorem dX6_parts_7 : decode cX6_parts 7 = .ok (.bipush 8, 2) := by decide +kernel
theorem dX6_parts_9 : decode cX6_parts 9 = .ok (.if_icmp .ge 80, 3) := by decide +kernel
theorem dX6_parts_12 : decode cX6_parts 12 = .ok (.aload_n 0, 1) := by decide +kernel
theorem dX6_parts_13 : decode cX6_parts 13 = .ok (.getfield 7, 3) := by decide +kernel
theorem dX6_parts_16 : decode cX6_parts 16 = .ok (.iconst 0, 1) := by decide +kernel
theorem dX6_parts_17 : decode cX6_parts 17 = .ok (.iload_n 2, 1) := by decide +kernel
theorem dX6_parts_18 : decode cX6_parts 18 = .ok (.ifCond .eq 8, 3) := by decide +kernel
theorem dX6_parts_21 : decode cX6_parts 21 = .ok (.iload 4, 2) := by decide +kernel
theorem dX6_parts_23 : decode cX6_parts 23 = .ok (.goto 4, 3) := by decide +kernel
theorem dX6_parts_26 : decode cX6_parts 26 = .ok (.iload_n 1, 1) := by decide +kernel
theorem dX6_parts_27 : decode cX6_parts 27 = .ok (.iadd, 1) := by decide +kernel
theorem dX6_parts_28 : decode cX6_parts 28 = .ok (.iaload, 1) := by decide +kernel
theorem dX6_parts_29 : decode cX6_parts 29 = .ok (.istore 5, 2) := by decide +kernel
theorem dX6_parts_31 : decode cX6_parts 31 = .ok (.aload_n 0, 1) := by decide +kernel
theorem dX6_parts_32 : decode cX6_parts 32 = .ok (.getfield 7, 3) := by decide +kernel
theorem dX6_parts_35 : decode cX6_parts 35 = .ok (.iconst 0, 1) := by decide +kernel
theorem dX6_parts_36 : decode cX6_parts 36 = .ok (.iload_n 2, 1) := by decide +kernel
theorem dX6_parts_37 : decode cX6_parts 37 = .ok (.ifCond .eq 7, 3) := by decide +kernel
theorem dX6_parts_40 : decode cX6_parts 40 = .ok (.iload_n 1, 1) := by decide +kernel
theorem dX6_parts_41 : decode cX6_parts 41 = .ok (.goto 5, 3) := by decide +kernel
theorem dX6_parts_44 : decode cX6_parts 44 = .ok (.iload 4, 2) := by decide +kernel
theorem dX6_parts_46 : decode cX6_parts 46 = .ok (.iadd, 1) := by decide +kernel
theorem dX6_parts_47 : decode cX6_parts 47 = .ok (.iaload, 1) := by decide +kernel
theorem dX6_parts_48 : decode cX6_parts 48 = .ok (.istore 6, 2) := by decide +kernel
theorem dX6_parts_50 : decode cX6_parts 50 = .ok (.iload_n 3, 1) := by decide +kernel
theorem dX6_parts_51 : decode cX6_parts 51 = .ok (.iload 4, 2) := by decide +kernel
theorem dX6_parts_53 : decode cX6_parts 53 = .ok (.iload_n 1, 1) := by decide +kernel
theorem dX6_parts_54 : decode cX6_parts 54 = .ok (.if_icmp .eq 26, 3) := by decide +kernel
theorem dX6_parts_57 : decode cX6_parts 57 = .ok (.aload_n 0, 1) := by decide +kernel
theorem dX6_parts_58 : decode cX6_parts 58 = .ok (.iload 4, 2) := by decide +kernel
theorem dX6_parts_60 : decode cX6_parts 60 = .ok (.invokevirtual 53, 3) := by decide +kernel
theorem dX6_parts_63 : decode cX6_parts 63 = .ok (.ifCond .eq 17, 3) := by decide +kernel
theorem dX6_parts_66 : decode cX6_parts 66 = .ok (.iload 5, 2) := by decide +kernel
theorem dX6_parts_68 : decode cX6_parts 68 = .ok (.iload 6, 2) := by decide +kernel
theorem dX6_parts_70 : decode cX6_parts 70 = .ok (.invokestatic 156, 3) := by decide +kernel
theorem dX6_parts_73 : decode cX6_parts 73 = .ok (.ifCond .eq 7, 3) := by decide +kernel
theorem dX6_parts_76 : decode cX6_parts 76 = .ok (.iconst 1, 1) := by decide +kernel
theorem dX6_parts_77 : decode cX6_parts 77 = .ok (.goto 4, 3) := by decide +kernel
theorem dX6_parts_80 : decode cX6_parts 80 = .ok (.iconst 0, 1) := by decide +kernel
theorem dX6_parts_81 : decode cX6_parts 81 = .ok (.iadd, 1) := by decide +kernel
theorem dX6_parts_82 : decode cX6_parts 82 = .ok (.istore_n 3, 1) := by decide +kernel
theorem dX6_parts_83 : decode cX6_parts 83 = .ok (.iinc 4 1, 3) := by decide +kernel
theorem dX6_parts_86 : decode cX6_parts 86 = .ok (.goto (-81), 3) := by decide +kernel
theorem dX6_parts_89 : decode cX6_parts 89 = .ok (.iload_n 3, 1) := by decide +kernel
theorem dX6_parts_90 : decode cX6_parts 90 = .ok (.ireturn, 1) := by decide +kernel
set_option maxRecDepth 20000 in
theorem ggX6_patternOf_X6_isThere : GoodIn wsX6_patternOf wsX6_isThere := goodIn_r _ [6, 1, 31, 32, 33, 34, 35, 36, 37, 38, 39, 40, 41, 42, 43, 44, 45, 46] (by decide +kernel) (by decide +kernel)
set_option maxRecDepth 20000 in
theorem gX6_patternOf_X6_isThere : GoodIn wsX6_patternOf (wsV RX6 53 RX6 yX6_isThere wsX6_isThere) := goodIn_app (goodIn_of _ (by decide +kernel)) ggX6_patternOf_X6_isThere
set_option maxRecDepth 20000 in
theorem ggX6_patternOf_X6_lengthOf : GoodIn wsX6_patternOf wsX6_lengthOf := goodIn_r _ [9] (by decide +kernel) (by decide +kernel)
set_option maxRecDepth 20000 in
theorem gX6_patternOf_X6_lengthOf : GoodIn wsX6_patternOf (va_wsS RX6 38 yX6_lengthOf wsX6_lengthOf) := goodIn_app (goodIn_of _ (by decide +kernel)) ggX6_patternOf_X6_lengthOf
set_option maxRecDepth 20000 in
theorem ggX6_patternOf_X6_numberOf : GoodIn wsX6_patternOf wsX6_numberOf := goodIn_r _ [13, 14, 31, 32, 33, 34, 35, 36, 37, 38, 39, 40, 41, 42, 43, 44, 45, 46] (by decide +kernel) (by decide +kernel)
set_option maxRecDepth 20000 in
theorem gX6_patternOf_X6_numberOf : GoodIn wsX6_patternOf (wsV RX6 159 RX6 yX6_numberOf wsX6_numberOf) := goodIn_app (goodIn_of _ (by decide +kernel)) ggX6_patternOf_X6_numberOf
set_option maxRecDepth 20000 in
theorem ggX6_patternOf_X6_parts : GoodIn wsX6_patternOf wsX6_parts := goodIn_r _ [18, 1, 2, 3, 4, 5, 6, 19, 20, 21, 7, 8, 9, 22, 23, 24, 25, 26, 27, 28, 29, 30, 31, 32, 33, 34, 35, 36, 37, 38, 39, 40, 41, 42, 43, 44, 45, 46] (by decide +kernel) (by decide +kernel)
set_option maxRecDepth 20000 in
theorem gX6_patternOf_X6_parts : GoodIn wsX6_patternOf (wsV RX6 162 RX6 yX6_parts wsX6_parts) := goodIn_app (goodIn_of _ (by decide +kernel)) ggX6_patternOf_X6_parts
theorem dX6_patternOf_0 : decode cX6_patternOf 0 = .ok (.iload_n 2, 1) := by decide +kernel
theorem dX6_patternOf_1 : decode cX6_patternOf 1 = .ok (.tableswitch 100 0 3 #[31, 55, 65, 75], 31) := by decide +kernel
theorem dX6_patternOf_32 : decode cX6_patternOf 32 = .ok (.aload_n 0, 1) := by decide +kernel
theorem dX6_patternOf_33 : decode cX6_patternOf 33 = .ok (.iload_n 1, 1) := by decide +kernel
theorem dX6_patternOf_34 : decode cX6_patternOf 34 = .ok (.invokevirtual 53, 3) := by decide +kernel
theorem dX6_patternOf_37 : decode cX6_patternOf 37 = .ok (.ifCond .eq 17, 3) := by decide +kernel
theorem dX6_patternOf_40 : decode cX6_patternOf 40 = .ok (.aload_n 0, 1) := by decide +kernel
theorem dX6_patternOf_41 : decode cX6_patternOf 41 = .ok (.getfield 7, 3) := by decide +kernel
theorem dX6_patternOf_44 : decode cX6_patternOf 44 = .ok (.iconst 0, 1) := by decide +kernel
theorem dX6_patternOf_45 : decode cX6_patternOf 45 = .ok (.iload_n 1, 1) := by decide +kernel
theorem dX6_patternOf_46 : decode cX6_patternOf 46 = .ok (.iadd, 1) := by decide +kernel
theorem dX6_patternOf_47 : decode cX6_patternOf 47 = .ok (.iaload, 1) := by decide +kernel
theorem dX6_patternOf_48 : decode cX6_patternOf 48 = .ok (.invokestatic 38, 3) := by decide +kernel
theorem dX6_patternOf_51 : decode cX6_patternOf 51 = .ok (.goto 4, 3) := by decide +kernel
theorem dX6_patternOf_54 : decode cX6_patternOf 54 = .ok (.iconst 0, 1) := by decide +kernel
theorem dX6_patternOf_55 : decode cX6_patternOf 55 = .ok (.ireturn, 1) := by decide +kernel
theorem dX6_patternOf_56 : decode cX6_patternOf 56 = .ok (.aload_n 0, 1) := by decide +kernel
theorem dX6_patternOf_57 : decode cX6_patternOf 57 = .ok (.getfield 7, 3) := by decide +kernel
theorem dX6_patternOf_60 : decode cX6_patternOf 60 = .ok (.bipush 8, 2) := by decide +kernel
theorem dX6_patternOf_62 : decode cX6_patternOf 62 = .ok (.iload_n 1, 1) := by decide +kernel
theorem dX6_patternOf_63 : decode cX6_patternOf 63 = .ok (.iadd, 1) := by decide +kernel
theorem dX6_patternOf_64 : decode cX6_patternOf 64 = .ok (.iaload, 1) := by decide +kernel
theorem dX6_patternOf_65 : decode cX6_patternOf 65 = .ok (.ireturn, 1) := by decide +kernel
theorem dX6_patternOf_66 : decode cX6_patternOf 66 = .ok (.aload_n 0, 1) := by decide +kernel
theorem dX6_patternOf_67 : decode cX6_patternOf 67 = .ok (.getfield 7, 3) := by decide +kernel
theorem dX6_patternOf_70 : decode cX6_patternOf 70 = .ok (.bipush 16, 2) := by decide +kernel
theorem dX6_patternOf_72 : decode cX6_patternOf 72 = .ok (.iload_n 1, 1) := by decide +kernel
theorem dX6_patternOf_73 : decode cX6_patternOf 73 = .ok (.iadd, 1) := by decide +kernel
theorem dX6_patternOf_74 : decode cX6_patternOf 74 = .ok (.iaload, 1) := by decide +kernel
theorem dX6_patternOf_75 : decode cX6_patternOf 75 = .ok (.ireturn, 1) := by decide +kernel
theorem dX6_patternOf_76 : decode cX6_patternOf 76 = .ok (.aload_n 0, 1) := by decide +kernel
theorem dX6_patternOf_77 : decode cX6_patternOf 77 = .ok (.iload_n 1, 1) := by decide +kernel
theorem dX6_patternOf_78 : decode cX6_patternOf 78 = .ok (.invokevirtual 53, 3) := by decide +kernel
theorem dX6_patternOf_81 : decode cX6_patternOf 81 = .ok (.ifCond .eq 18, 3) := by decide +kernel
theorem dX6_patternOf_84 : decode cX6_patternOf 84 = .ok (.aload_n 0, 1) := by decide +kernel
theorem dX6_patternOf_85 : decode cX6_patternOf 85 = .ok (.aload_n 0, 1) := by decide +kernel
theorem dX6_patternOf_86 : decode cX6_patternOf 86 = .ok (.getfield 7, 3) := by decide +kernel
theorem dX6_patternOf_89 : decode cX6_patternOf 89 = .ok (.iconst 0, 1) := by decide +kernel
theorem dX6_patternOf_90 : decode cX6_patternOf 90 = .ok (.iload_n 1, 1) := by decide +kernel
theorem dX6_patternOf_91 : decode cX6_patternOf 91 = .ok (.iadd, 1) := by decide +kernel
theorem dX6_patternOf_92 : decode cX6_patternOf 92 = .ok (.iaload, 1) := by decide +kernel
theorem dX6_patternOf_93 : decode cX6_patternOf 93 = .ok (.invokevirtual 159, 3) := by decide +kernel
theorem dX6_patternOf_96 : decode cX6_patternOf 96 = .ok (.goto 4, 3) := by decide +kernel
theorem dX6_patternOf_99 : decode cX6_patternOf 99 = .ok (.iconst (-1), 1) := by decide +kernel
theorem dX6_patternOf_100 : decode cX6_patternOf 100 = .ok (.ireturn, 1) := by decide +kernel
theorem dX6_patternOf_101 : decode cX6_patternOf 101 = .ok (.aload_n 0, 1) := by decide +kernel
theorem dX6_patternOf_102 : decode cX6_patternOf 102 = .ok (.iload_n 1, 1) := by decide +kernel
theorem dX6_patternOf_103 : decode cX6_patternOf 103 = .ok (.invokevirtual 53, 3) := by decide +kernel
theorem dX6_patternOf_106 : decode cX6_patternOf 106 = .ok (.ifCond .eq 21, 3) := by decide +kernel
theorem dX6_patternOf_109 : decode cX6_patternOf 109 = .ok (.aload_n 0, 1) := by decide +kernel
theorem dX6_patternOf_110 : decode cX6_patternOf 110 = .ok (.iload_n 1, 1) := by decide +kernel
theorem dX6_patternOf_111 : decode cX6_patternOf 111 = .ok (.iload_n 2, 1) := by decide +kernel
theorem dX6_patternOf_112 : decode cX6_patternOf 112 = .ok (.iconst 5, 1) := by decide +kernel
theorem dX6_patternOf_113 : decode cX6_patternOf 113 = .ok (.if_icmp .ne 7, 3) := by decide +kernel
theorem dX6_patternOf_116 : decode cX6_patternOf 116 = .ok (.iconst 1, 1) := by decide +kernel
theorem dX6_patternOf_117 : decode cX6_patternOf 117 = .ok (.goto 4, 3) := by decide +kernel
theorem dX6_patternOf_120 : decode cX6_patternOf 120 = .ok (.iconst 0, 1) := by decide +kernel
theorem dX6_patternOf_121 : decode cX6_patternOf 121 = .ok (.invokevirtual 162, 3) := by decide +kernel
theorem dX6_patternOf_124 : decode cX6_patternOf 124 = .ok (.goto 4, 3) := by decide +kernel
theorem dX6_patternOf_127 : decode cX6_patternOf 127 = .ok (.iconst 0, 1) := by decide +kernel
theorem dX6_patternOf_128 : decode cX6_patternOf 128 = .ok (.ireturn, 1) := by decide +kernel
set_option maxRecDepth 20000 in
theorem ggX6_pattern_X6_list : GoodIn wsX6_pattern wsX6_list := goodIn_r _ [5, 6, 7, 8, 9, 10, 11, 4, 12, 13, 14, 15, 16, 17, 18, 19, 20, 21, 22, 52, 53, 54, 55, 56, 57, 58, 59, 60, 61, 62, 63, 64, 65, 66, 67] (by decide +kernel) (by decide +kernel)
set_option maxRecDepth 20000 in
theorem gX6_pattern_X6_list : GoodIn wsX6_pattern (wsV RX6 83 RX6 yX6_list wsX6_list) := goodIn_app (goodIn_of _ (by decide +kernel)) ggX6_pattern_X6_list
set_option maxRecDepth 20000 in
theorem ggX6_pattern_X6_in : GoodIn wsX6_pattern wsX6_in := goodIn_r _ [25] (by decide +kernel) (by decide +kernel)
set_option maxRecDepth 20000 in
theorem gX6_pattern_X6_in : GoodIn wsX6_pattern (va_wsS RX6 105 yX6_in wsX6_in) := goodIn_app (goodIn_of _ (by decide +kernel)) ggX6_pattern_X6_in
set_option maxRecDepth 20000 in
theorem ggX6_pattern_X6_holds : GoodIn wsX6_pattern wsX6_holds := goodIn_r _ [29, 30, 52, 53, 54, 55, 56, 57, 58, 59, 60, 61, 62, 63, 64, 65, 66, 67] (by decide +kernel) (by decide +kernel)
set_option maxRecDepth 20000 in
theorem gX6_pattern_X6_holds : GoodIn wsX6_pattern (wsV RX6 109 RX6 yX6_holds wsX6_holds) := goodIn_app (goodIn_of _ (by decide +kernel)) ggX6_pattern_X6_holds
set_option maxRecDepth 20000 in
theorem ggX6_pattern_X6_patternOf : GoodIn wsX6_pattern wsX6_patternOf := goodIn_r _ [34, 8, 9, 10, 11, 4, 12, 13, 14, 15, 35, 36, 37, 38, 6, 39, 40, 41, 42, 43, 44, 45, 16, 17, 18, 46, 47, 48, 49, 50, 51, 52, 53, 54, 55, 56, 57, 58, 59, 60, 61, 62, 63, 64, 65, 66, 67] (by decide +kernel) (by decide +kernel)
set_option maxRecDepth 20000 in
theorem gX6_pattern_X6_patternOf : GoodIn wsX6_pattern (wsV RX6 166 RX6 yX6_patternOf wsX6_patternOf) := goodIn_app (goodIn_of _ (by decide +kernel)) ggX6_pattern_X6_patternOf
theorem dX6_pattern_0 : decode cX6_pattern 0 = .ok (.aload_n 0, 1) := by decide +kernel
theorem dX6_pattern_1 : decode cX6_pattern 1 = .ok (.invokevirtual 83, 3) := by decide +kernel
theorem dX6_pattern_4 : decode cX6_pattern 4 = .ok (.aload_n 0, 1) := by decide +kernel
theorem dX6_pattern_5 : decode cX6_pattern 5 = .ok (.iload_n 1, 1) := by decide +kernel
theorem dX6_pattern_6 : decode cX6_pattern 6 = .ok (.iconst 0, 1) := by decide +kernel
theorem dX6_pattern_7 : decode cX6_pattern 7 = .ok (.bipush 7, 2) := by decide +kernel
theorem dX6_pattern_9 : decode cX6_pattern 9 = .ok (.invokestatic 105, 3) := by decide +kernel
theorem dX6_pattern_12 : decode cX6_pattern 12 = .ok (.ifCond .ne 7, 3) := by decide +kernel
theorem dX6_pattern_15 : decode cX6_pattern 15 = .ok (.iconst 1, 1) := by decide +kernel
theorem dX6_pattern_16 : decode cX6_pattern 16 = .ok (.goto 17, 3) := by decide +kernel
theorem dX6_pattern_19 : decode cX6_pattern 19 = .ok (.iload_n 2, 1) := by decide +kernel
theorem dX6_pattern_20 : decode cX6_pattern 20 = .ok (.iconst 0, 1) := by decide +kernel
theorem dX6_pattern_21 : decode cX6_pattern 21 = .ok (.iconst 5, 1) := by decide +kernel
theorem dX6_pattern_22 : decode cX6_pattern 22 = .ok (.invokestatic 105, 3) := by decide +kernel
theorem dX6_pattern_25 : decode cX6_pattern 25 = .ok (.ifCond .ne 7, 3) := by decide +kernel
theorem dX6_pattern_28 : decode cX6_pattern 28 = .ok (.iconst 2, 1) := by decide +kernel
theorem dX6_pattern_29 : decode cX6_pattern 29 = .ok (.goto 4, 3) := by decide +kernel
theorem dX6_pattern_32 : decode cX6_pattern 32 = .ok (.iconst 0, 1) := by decide +kernel
theorem dX6_pattern_33 : decode cX6_pattern 33 = .ok (.invokevirtual 109, 3) := by decide +kernel
theorem dX6_pattern_36 : decode cX6_pattern 36 = .ok (.ifCond .eq 12, 3) := by decide +kernel
theorem dX6_pattern_39 : decode cX6_pattern 39 = .ok (.aload_n 0, 1) := by decide +kernel
theorem dX6_pattern_40 : decode cX6_pattern 40 = .ok (.iload_n 1, 1) := by decide +kernel
theorem dX6_pattern_41 : decode cX6_pattern 41 = .ok (.iload_n 2, 1) := by decide +kernel
theorem dX6_pattern_42 : decode cX6_pattern 42 = .ok (.invokevirtual 166, 3) := by decide +kernel
theorem dX6_pattern_45 : decode cX6_pattern 45 = .ok (.goto 4, 3) := by decide +kernel
theorem dX6_pattern_48 : decode cX6_pattern 48 = .ok (.iconst 0, 1) := by decide +kernel
theorem dX6_pattern_49 : decode cX6_pattern 49 = .ok (.ireturn, 1) := by decide +kernel
set_option maxRecDepth 20000 in
theorem ggX6_letterOf_X6_isThere : GoodIn wsX6_letterOf wsX6_isThere := goodIn_r _ [6, 1, 10, 11, 12, 13, 14, 15, 16, 17, 18, 19, 20, 21, 22, 23, 24, 25] (by decide +kernel) (by decide +kernel)
set_option maxRecDepth 20000 in
theorem gX6_letterOf_X6_isThere : GoodIn wsX6_letterOf (wsV RX6 53 RX6 yX6_isThere wsX6_isThere) := goodIn_app (goodIn_of _ (by decide +kernel)) ggX6_letterOf_X6_isThere
set_option maxRecDepth 20000 in
theorem ggX6_letterOf_X6_lengthOf : GoodIn wsX6_letterOf wsX6_lengthOf := goodIn_r _ [9] (by decide +kernel) (by decide +kernel)
set_option maxRecDepth 20000 in
theorem gX6_letterOf_X6_lengthOf : GoodIn wsX6_letterOf (va_wsS RX6 38 yX6_lengthOf wsX6_lengthOf) := goodIn_app (goodIn_of _ (by decide +kernel)) ggX6_letterOf_X6_lengthOf
theorem dX6_letterOf_0 : decode cX6_letterOf 0 = .ok (.aload_n 0, 1) := by decide +kernel
theorem dX6_letterOf_1 : decode cX6_letterOf 1 = .ok (.iload_n 1, 1) := by decide +kernel
theorem dX6_letterOf_2 : decode cX6_letterOf 2 = .ok (.invokevirtual 53, 3) := by decide +kernel
theorem dX6_letterOf_5 : decode cX6_letterOf 5 = .ok (.ifCond .eq 17, 3) := by decide +kernel
theorem dX6_letterOf_8 : decode cX6_letterOf 8 = .ok (.aload_n 0, 1) := by decide +kernel
theorem dX6_letterOf_9 : decode cX6_letterOf 9 = .ok (.getfield 7, 3) := by decide +kernel
theorem dX6_letterOf_12 : decode cX6_letterOf 12 = .ok (.iconst 0, 1) := by decide +kernel
theorem dX6_letterOf_13 : decode cX6_letterOf 13 = .ok (.iload_n 1, 1) := by decide +kernel
theorem dX6_letterOf_14 : decode cX6_letterOf 14 = .ok (.iadd, 1) := by decide +kernel
theorem dX6_letterOf_15 : decode cX6_letterOf 15 = .ok (.iaload, 1) := by decide +kernel
theorem dX6_letterOf_16 : decode cX6_letterOf 16 = .ok (.invokestatic 38, 3) := by decide +kernel
theorem dX6_letterOf_19 : decode cX6_letterOf 19 = .ok (.goto 4, 3) := by decide +kernel
theorem dX6_letterOf_22 : decode cX6_letterOf 22 = .ok (.iconst 0, 1) := by decide +kernel
theorem dX6_letterOf_23 : decode cX6_letterOf 23 = .ok (.istore_n 3, 1) := by decide +kernel
theorem dX6_letterOf_24 : decode cX6_letterOf 24 = .ok (.iload_n 2, 1) := by decide +kernel
theorem dX6_letterOf_25 : decode cX6_letterOf 25 = .ok (.iload_n 3, 1) := by decide +kernel
theorem dX6_letterOf_26 : decode cX6_letterOf 26 = .ok (.if_icmp .ge 24, 3) := by decide +kernel
theorem dX6_letterOf_29 : decode cX6_letterOf 29 = .ok (.aload_n 0, 1) := by decide +kernel
theorem dX6_letterOf_30 : decode cX6_letterOf 30 = .ok (.getfield 7, 3) := by decide +kernel
theorem dX6_letterOf_33 : decode cX6_letterOf 33 = .ok (.iconst 0, 1) := by decide +kernel
theorem dX6_letterOf_34 : decode cX6_letterOf 34 = .ok (.iload_n 1, 1) := by decide +kernel
theorem dX6_letterOf_35 : decode cX6_letterOf 35 = .ok (.iadd, 1) := by decide +kernel
theorem dX6_letterOf_36 : decode cX6_letterOf 36 = .ok (.iaload, 1) := by decide +kernel
theorem dX6_letterOf_37 : decode cX6_letterOf 37 = .ok (.iconst 2, 1) := by decide +kernel
theorem dX6_letterOf_38 : decode cX6_letterOf 38 = .ok (.iload_n 3, 1) := by decide +kernel
theorem dX6_letterOf_39 : decode cX6_letterOf 39 = .ok (.iconst 1, 1) := by decide +kernel
theorem dX6_letterOf_40 : decode cX6_letterOf 40 = .ok (.isub, 1) := by decide +kernel
theorem dX6_letterOf_41 : decode cX6_letterOf 41 = .ok (.iload_n 2, 1) := by decide +kernel
theorem dX6_letterOf_42 : decode cX6_letterOf 42 = .ok (.isub, 1) := by decide +kernel
theorem dX6_letterOf_43 : decode cX6_letterOf 43 = .ok (.imul, 1) := by decide +kernel
theorem dX6_letterOf_44 : decode cX6_letterOf 44 = .ok (.ishr, 1) := by decide +kernel
theorem dX6_letterOf_45 : decode cX6_letterOf 45 = .ok (.iconst 3, 1) := by decide +kernel
theorem dX6_letterOf_46 : decode cX6_letterOf 46 = .ok (.iand, 1) := by decide +kernel
theorem dX6_letterOf_47 : decode cX6_letterOf 47 = .ok (.goto 4, 3) := by decide +kernel
theorem dX6_letterOf_50 : decode cX6_letterOf 50 = .ok (.iconst (-1), 1) := by decide +kernel
theorem dX6_letterOf_51 : decode cX6_letterOf 51 = .ok (.ireturn, 1) := by decide +kernel
set_option maxRecDepth 20000 in
theorem ggX6_letter_X6_in : GoodIn wsX6_letter wsX6_in := goodIn_r _ [4] (by decide +kernel) (by decide +kernel)
set_option maxRecDepth 20000 in
theorem gX6_letter_X6_in : GoodIn wsX6_letter (va_wsS RX6 105 yX6_in wsX6_in) := goodIn_app (goodIn_of _ (by decide +kernel)) ggX6_letter_X6_in
set_option maxRecDepth 20000 in
theorem ggX6_letter_X6_holds : GoodIn wsX6_letter wsX6_holds := goodIn_r _ [8, 9, 22, 23, 24, 25, 26, 27, 28, 29, 30, 31, 32, 33, 34, 35, 36, 37] (by decide +kernel) (by decide +kernel)
set_option maxRecDepth 20000 in
theorem gX6_letter_X6_holds : GoodIn wsX6_letter (wsV RX6 109 RX6 yX6_holds wsX6_holds) := goodIn_app (goodIn_of _ (by decide +kernel)) ggX6_letter_X6_holds
set_option maxRecDepth 20000 in
theorem ggX6_letter_X6_letterOf : GoodIn wsX6_letter wsX6_letterOf := goodIn_r _ [13, 14, 15, 16, 17, 3, 18, 19, 20, 21, 22, 23, 24, 25, 26, 27, 28, 29, 30, 31, 32, 33, 34, 35, 36, 37] (by decide +kernel) (by decide +kernel)
set_option maxRecDepth 20000 in
theorem gX6_letter_X6_letterOf : GoodIn wsX6_letter (wsV RX6 169 RX6 yX6_letterOf wsX6_letterOf) := goodIn_app (goodIn_of _ (by decide +kernel)) ggX6_letter_X6_letterOf
theorem dX6_letter_0 : decode cX6_letter 0 = .ok (.aload_n 0, 1) := by decide +kernel
theorem dX6_letter_1 : decode cX6_letter 1 = .ok (.iload_n 1, 1) := by decide +kernel
theorem dX6_letter_2 : decode cX6_letter 2 = .ok (.iconst 0, 1) := by decide +kernel
theorem dX6_letter_3 : decode cX6_letter 3 = .ok (.bipush 7, 2) := by decide +kernel
theorem dX6_letter_5 : decode cX6_letter 5 = .ok (.invokestatic 105, 3) := by decide +kernel
theorem dX6_letter_8 : decode cX6_letter 8 = .ok (.ifCond .ne 7, 3) := by decide +kernel
theorem dX6_letter_11 : decode cX6_letter 11 = .ok (.iconst 1, 1) := by decide +kernel
theorem dX6_letter_12 : decode cX6_letter 12 = .ok (.goto 18, 3) := by decide +kernel
theorem dX6_letter_15 : decode cX6_letter 15 = .ok (.iload_n 2, 1) := by decide +kernel
theorem dX6_letter_16 : decode cX6_letter 16 = .ok (.iconst 0, 1) := by decide +kernel
theorem dX6_letter_17 : decode cX6_letter 17 = .ok (.bipush 7, 2) := by decide +kernel
theorem dX6_letter_19 : decode cX6_letter 19 = .ok (.invokestatic 105, 3) := by decide +kernel
theorem dX6_letter_22 : decode cX6_letter 22 = .ok (.ifCond .ne 7, 3) := by decide +kernel
theorem dX6_letter_25 : decode cX6_letter 25 = .ok (.iconst 2, 1) := by decide +kernel
theorem dX6_letter_26 : decode cX6_letter 26 = .ok (.goto 4, 3) := by decide +kernel
theorem dX6_letter_29 : decode cX6_letter 29 = .ok (.iconst 0, 1) := by decide +kernel
theorem dX6_letter_30 : decode cX6_letter 30 = .ok (.invokevirtual 109, 3) := by decide +kernel
theorem dX6_letter_33 : decode cX6_letter 33 = .ok (.ifCond .eq 12, 3) := by decide +kernel
theorem dX6_letter_36 : decode cX6_letter 36 = .ok (.aload_n 0, 1) := by decide +kernel
theorem dX6_letter_37 : decode cX6_letter 37 = .ok (.iload_n 1, 1) := by decide +kernel
theorem dX6_letter_38 : decode cX6_letter 38 = .ok (.iload_n 2, 1) := by decide +kernel
theorem dX6_letter_39 : decode cX6_letter 39 = .ok (.invokevirtual 169, 3) := by decide +kernel
theorem dX6_letter_42 : decode cX6_letter 42 = .ok (.goto 4, 3) := by decide +kernel
theorem dX6_letter_45 : decode cX6_letter 45 = .ok (.iconst 0, 1) := by decide +kernel
theorem dX6_letter_46 : decode cX6_letter 46 = .ok (.ireturn, 1) := by decide +kernel
set_option maxRecDepth 20000 in
theorem ggX6_stateOf_X6_lengthOf : GoodIn wsX6_stateOf wsX6_lengthOf := goodIn_r _ [5] (by decide +kernel) (by decide +kernel)
set_option maxRecDepth 20000 in
theorem gX6_stateOf_X6_lengthOf : GoodIn wsX6_stateOf (va_wsS RX6 38 yX6_lengthOf wsX6_lengthOf) := goodIn_app (goodIn_of _ (by decide +kernel)) ggX6_stateOf_X6_lengthOf
set_option maxRecDepth 20000 in
theorem ggX6_stateOf_X6_back : GoodIn wsX6_stateOf wsX6_back := goodIn_r _ [9, 2, 3, 4, 5, 10, 11, 12, 13, 14, 15, 16, 17, 18, 19, 20, 21, 22, 23, 24, 25, 26, 27, 28, 29, 30, 31, 32, 33, 34, 35, 51, 52, 53, 54, 55, 56, 57, 58, 59, 60, 61, 62, 63, 64, 65, 66] (by decide +kernel) (by decide +kernel)
set_option maxRecDepth 20000 in
theorem gX6_stateOf_X6_back : GoodIn wsX6_stateOf (wsV RX6 73 RX6 yX6_back wsX6_back) := goodIn_app (goodIn_of _ (by decide +kernel)) ggX6_stateOf_X6_back
set_option maxRecDepth 20000 in
theorem ggX6_stateOf_X6_numberOf : GoodIn wsX6_stateOf wsX6_numberOf := goodIn_r _ [39, 1, 51, 52, 53, 54, 55, 56, 57, 58, 59, 60, 61, 62, 63, 64, 65, 66] (by decide +kernel) (by decide +kernel)
set_option maxRecDepth 20000 in
theorem gX6_stateOf_X6_numberOf : GoodIn wsX6_stateOf (wsV RX6 159 RX6 yX6_numberOf wsX6_numberOf) := goodIn_app (goodIn_of _ (by decide +kernel)) ggX6_stateOf_X6_numberOf
set_option maxRecDepth 20000 in
theorem ggX6_stateOf_X6_ending : GoodIn wsX6_stateOf wsX6_ending := goodIn_r _ [43, 25, 26, 27, 28, 4, 29, 44, 45, 46, 2, 3, 5, 14, 15, 16, 51, 52, 53, 54, 55, 56, 57, 58, 59, 60, 61, 62, 63, 64, 65, 66] (by decide +kernel) (by decide +kernel)
set_option maxRecDepth 20000 in
theorem gX6_stateOf_X6_ending : GoodIn wsX6_stateOf (wsV RX6 95 RX6 yX6_ending wsX6_ending) := goodIn_app (goodIn_of _ (by decide +kernel)) ggX6_stateOf_X6_ending
set_option maxRecDepth 20000 in
theorem ggX6_stateOf_X6_beginning : GoodIn wsX6_stateOf wsX6_beginning := goodIn_r _ [24, 25, 26, 27, 28, 4, 29, 30, 31, 32, 2, 3, 5, 33, 34, 35, 51, 52, 53, 54, 55, 56, 57, 58, 59, 60, 61, 62, 63, 64, 65, 66] (by decide +kernel) (by decide +kernel)
set_option maxRecDepth 20000 in
theorem gX6_stateOf_X6_beginning : GoodIn wsX6_stateOf (wsV RX6 60 RX6 yX6_beginning wsX6_beginning) := goodIn_app (goodIn_of _ (by decide +kernel)) ggX6_stateOf_X6_beginning
set_option maxRecDepth 20000 in
theorem ggX6_stateOf_X6_behind : GoodIn wsX6_stateOf wsX6_behind := goodIn_r _ [50, 2, 3, 4, 5, 10, 11, 12, 13, 14, 15, 16, 17, 18, 19, 20, 21, 22, 23, 24, 25, 26, 27, 28, 29, 30, 31, 32, 33, 34, 35, 51, 52, 53, 54, 55, 56, 57, 58, 59, 60, 61, 62, 63, 64, 65, 66] (by decide +kernel) (by decide +kernel)
set_option maxRecDepth 20000 in
theorem gX6_stateOf_X6_behind : GoodIn wsX6_stateOf (wsV RX6 92 RX6 yX6_behind wsX6_behind) := goodIn_app (goodIn_of _ (by decide +kernel)) ggX6_stateOf_X6_behind
theorem dX6_stateOf_0 : decode cX6_stateOf 0 = .ok (.aload_n 0, 1) := by decide +kernel
theorem dX6_stateOf_1 : decode cX6_stateOf 1 = .ok (.getfield 22, 3) := by decide +kernel
theorem dX6_stateOf_4 : decode cX6_stateOf 4 = .ok (.iload_n 1, 1) := by decide +kernel
theorem dX6_stateOf_5 : decode cX6_stateOf 5 = .ok (.iaload, 1) := by decide +kernel
theorem dX6_stateOf_6 : decode cX6_stateOf 6 = .ok (.istore_n 3, 1) := by decide +kernel
theorem dX6_stateOf_7 : decode cX6_stateOf 7 = .ok (.iload_n 2, 1) := by decide +kernel
theorem dX6_stateOf_8 : decode cX6_stateOf 8 = .ok (.tableswitch 85 0 4 #[36, 41, 54, 73, 79], 36) := by decide +kernel
theorem dX6_stateOf_44 : decode cX6_stateOf 44 = .ok (.iload_n 3, 1) := by decide +kernel
theorem dX6_stateOf_45 : decode cX6_stateOf 45 = .ok (.invokestatic 38, 3) := by decide +kernel
theorem dX6_stateOf_48 : decode cX6_stateOf 48 = .ok (.ireturn, 1) := by decide +kernel
theorem dX6_stateOf_49 : decode cX6_stateOf 49 = .ok (.iload_n 3, 1) := by decide +kernel
theorem dX6_stateOf_50 : decode cX6_stateOf 50 = .ok (.iconst 1, 1) := by decide +kernel
theorem dX6_stateOf_51 : decode cX6_stateOf 51 = .ok (.if_icmp .ne 7, 3) := by decide +kernel
theorem dX6_stateOf_54 : decode cX6_stateOf 54 = .ok (.iconst (-1), 1) := by decide +kernel
theorem dX6_stateOf_55 : decode cX6_stateOf 55 = .ok (.goto 6, 3) := by decide +kernel
theorem dX6_stateOf_58 : decode cX6_stateOf 58 = .ok (.iload_n 3, 1) := by decide +kernel
theorem dX6_stateOf_59 : decode cX6_stateOf 59 = .ok (.iconst 3, 1) := by decide +kernel
theorem dX6_stateOf_60 : decode cX6_stateOf 60 = .ok (.iand, 1) := by decide +kernel
theorem dX6_stateOf_61 : decode cX6_stateOf 61 = .ok (.ireturn, 1) := by decide +kernel
theorem dX6_stateOf_62 : decode cX6_stateOf 62 = .ok (.iload_n 3, 1) := by decide +kernel
theorem dX6_stateOf_63 : decode cX6_stateOf 63 = .ok (.iconst 1, 1) := by decide +kernel
theorem dX6_stateOf_64 : decode cX6_stateOf 64 = .ok (.if_icmp .ne 7, 3) := by decide +kernel
theorem dX6_stateOf_67 : decode cX6_stateOf 67 = .ok (.iconst (-1), 1) := by decide +kernel
theorem dX6_stateOf_68 : decode cX6_stateOf 68 = .ok (.goto 12, 3) := by decide +kernel
theorem dX6_stateOf_71 : decode cX6_stateOf 71 = .ok (.aload_n 0, 1) := by decide +kernel
theorem dX6_stateOf_72 : decode cX6_stateOf 72 = .ok (.aload_n 0, 1) := by decide +kernel
theorem dX6_stateOf_73 : decode cX6_stateOf 73 = .ok (.iload_n 3, 1) := by decide +kernel
theorem dX6_stateOf_74 : decode cX6_stateOf 74 = .ok (.invokevirtual 73, 3) := by decide +kernel
theorem dX6_stateOf_77 : decode cX6_stateOf 77 = .ok (.invokevirtual 159, 3) := by decide +kernel
theorem dX6_stateOf_80 : decode cX6_stateOf 80 = .ok (.ireturn, 1) := by decide +kernel
theorem dX6_stateOf_81 : decode cX6_stateOf 81 = .ok (.aload_n 0, 1) := by decide +kernel
theorem dX6_stateOf_82 : decode cX6_stateOf 82 = .ok (.iload_n 3, 1) := by decide +kernel
theorem dX6_stateOf_83 : decode cX6_stateOf 83 = .ok (.invokevirtual 95, 3) := by decide +kernel
theorem dX6_stateOf_86 : decode cX6_stateOf 86 = .ok (.ireturn, 1) := by decide +kernel
theorem dX6_stateOf_87 : decode cX6_stateOf 87 = .ok (.aload_n 0, 1) := by decide +kernel
theorem dX6_stateOf_88 : decode cX6_stateOf 88 = .ok (.iload_n 3, 1) := by decide +kernel
theorem dX6_stateOf_89 : decode cX6_stateOf 89 = .ok (.invokevirtual 60, 3) := by decide +kernel
theorem dX6_stateOf_92 : decode cX6_stateOf 92 = .ok (.ireturn, 1) := by decide +kernel
theorem dX6_stateOf_93 : decode cX6_stateOf 93 = .ok (.aload_n 0, 1) := by decide +kernel
theorem dX6_stateOf_94 : decode cX6_stateOf 94 = .ok (.aload_n 0, 1) := by decide +kernel
theorem dX6_stateOf_95 : decode cX6_stateOf 95 = .ok (.iload_n 3, 1) := by decide +kernel
theorem dX6_stateOf_96 : decode cX6_stateOf 96 = .ok (.iload_n 2, 1) := by decide +kernel
theorem dX6_stateOf_97 : decode cX6_stateOf 97 = .ok (.iconst 5, 1) := by decide +kernel
theorem dX6_stateOf_98 : decode cX6_stateOf 98 = .ok (.isub, 1) := by decide +kernel
theorem dX6_stateOf_99 : decode cX6_stateOf 99 = .ok (.invokevirtual 92, 3) := by decide +kernel
theorem dX6_stateOf_102 : decode cX6_stateOf 102 = .ok (.invokevirtual 159, 3) := by decide +kernel
theorem dX6_stateOf_105 : decode cX6_stateOf 105 = .ok (.ireturn, 1) := by decide +kernel
set_option maxRecDepth 20000 in
theorem ggX6_state__X6_list : GoodIn wsX6_state_ wsX6_list := goodIn_r _ [6, 7, 1, 8, 9, 10, 11, 5, 12, 13, 14, 15, 16, 17, 18, 19, 20, 21, 22, 72, 73, 74, 75, 76, 77, 78, 79, 80, 81, 82, 83, 84, 85, 86, 87] (by decide +kernel) (by decide +kernel)
set_option maxRecDepth 20000 in
theorem gX6_state__X6_list : GoodIn wsX6_state_ (wsV RX6 83 RX6 yX6_list wsX6_list) := goodIn_app (goodIn_of _ (by decide +kernel)) ggX6_state__X6_list
set_option maxRecDepth 20000 in
theorem ggX6_state__X6_in : GoodIn wsX6_state_ wsX6_in := goodIn_r _ [25] (by decide +kernel) (by decide +kernel)
set_option maxRecDepth 20000 in
theorem gX6_state__X6_in : GoodIn wsX6_state_ (va_wsS RX6 105 yX6_in wsX6_in) := goodIn_app (goodIn_of _ (by decide +kernel)) ggX6_state__X6_in
set_option maxRecDepth 20000 in
theorem ggX6_state__X6_holds : GoodIn wsX6_state_ wsX6_holds := goodIn_r _ [29, 30, 72, 73, 74, 75, 76, 77, 78, 79, 80, 81, 82, 83, 84, 85, 86, 87] (by decide +kernel) (by decide +kernel)
set_option maxRecDepth 20000 in
theorem gX6_state__X6_holds : GoodIn wsX6_state_ (wsV RX6 109 RX6 yX6_holds wsX6_holds) := goodIn_app (goodIn_of _ (by decide +kernel)) ggX6_state__X6_holds
set_option maxRecDepth 20000 in
theorem ggX6_state__X6_stateOf : GoodIn wsX6_state_ wsX6_stateOf := goodIn_r _ [34, 7, 13, 14, 5, 15, 35, 36, 37, 38, 39, 40, 41, 42, 43, 44, 45, 46, 47, 48, 49, 50, 51, 52, 53, 8, 9, 10, 11, 12, 54, 55, 56, 16, 17, 18, 57, 58, 59, 60, 61, 62, 63, 64, 65, 66, 67, 68, 69, 70, 71, 72, 73, 74, 75, 76, 77, 78, 79, 80, 81, 82, 83, 84, 85, 86, 87] (by decide +kernel) (by decide +kernel)
set_option maxRecDepth 20000 in
theorem gX6_state__X6_stateOf : GoodIn wsX6_state_ (wsV RX6 172 RX6 yX6_stateOf wsX6_stateOf) := goodIn_app (goodIn_of _ (by decide +kernel)) ggX6_state__X6_stateOf
theorem dX6_state__0 : decode cX6_state_ 0 = .ok (.aload_n 0, 1) := by decide +kernel
theorem dX6_state__1 : decode cX6_state_ 1 = .ok (.invokevirtual 83, 3) := by decide +kernel
theorem dX6_state__4 : decode cX6_state_ 4 = .ok (.aload_n 0, 1) := by decide +kernel
theorem dX6_state__5 : decode cX6_state_ 5 = .ok (.iload_n 1, 1) := by decide +kernel
theorem dX6_state__6 : decode cX6_state_ 6 = .ok (.iconst 0, 1) := by decide +kernel
theorem dX6_state__7 : decode cX6_state_ 7 = .ok (.aload_n 0, 1) := by decide +kernel
theorem dX6_state__8 : decode cX6_state_ 8 = .ok (.getfield 76, 3) := by decide +kernel
theorem dX6_state__11 : decode cX6_state_ 11 = .ok (.iconst 1, 1) := by decide +kernel
theorem dX6_state__12 : decode cX6_state_ 12 = .ok (.isub, 1) := by decide +kernel
theorem dX6_state__13 : decode cX6_state_ 13 = .ok (.invokestatic 105, 3) := by decide +kernel
theorem dX6_state__16 : decode cX6_state_ 16 = .ok (.ifCond .ne 7, 3) := by decide +kernel
theorem dX6_state__19 : decode cX6_state_ 19 = .ok (.iconst 1, 1) := by decide +kernel
theorem dX6_state__20 : decode cX6_state_ 20 = .ok (.goto 18, 3) := by decide +kernel
theorem dX6_state__23 : decode cX6_state_ 23 = .ok (.iload_n 2, 1) := by decide +kernel
theorem dX6_state__24 : decode cX6_state_ 24 = .ok (.iconst 0, 1) := by decide +kernel
theorem dX6_state__25 : decode cX6_state_ 25 = .ok (.bipush 8, 2) := by decide +kernel
theorem dX6_state__27 : decode cX6_state_ 27 = .ok (.invokestatic 105, 3) := by decide +kernel
theorem dX6_state__30 : decode cX6_state_ 30 = .ok (.ifCond .ne 7, 3) := by decide +kernel
theorem dX6_state__33 : decode cX6_state_ 33 = .ok (.iconst 2, 1) := by decide +kernel
theorem dX6_state__34 : decode cX6_state_ 34 = .ok (.goto 4, 3) := by decide +kernel
theorem dX6_state__37 : decode cX6_state_ 37 = .ok (.iconst 0, 1) := by decide +kernel
theorem dX6_state__38 : decode cX6_state_ 38 = .ok (.invokevirtual 109, 3) := by decide +kernel
theorem dX6_state__41 : decode cX6_state_ 41 = .ok (.ifCond .eq 12, 3) := by decide +kernel
theorem dX6_state__44 : decode cX6_state_ 44 = .ok (.aload_n 0, 1) := by decide +kernel
theorem dX6_state__45 : decode cX6_state_ 45 = .ok (.iload_n 1, 1) := by decide +kernel
theorem dX6_state__46 : decode cX6_state_ 46 = .ok (.iload_n 2, 1) := by decide +kernel
theorem dX6_state__47 : decode cX6_state_ 47 = .ok (.invokevirtual 172, 3) := by decide +kernel
theorem dX6_state__50 : decode cX6_state_ 50 = .ok (.goto 4, 3) := by decide +kernel
theorem dX6_state__53 : decode cX6_state_ 53 = .ok (.iconst 0, 1) := by decide +kernel
theorem dX6_state__54 : decode cX6_state_ 54 = .ok (.ireturn, 1) := by decide +kernel
set_option maxRecDepth 20000 in
theorem ggX6_sumOfLengths_X6_isThere : GoodIn wsX6_sumOfLengths wsX6_isThere := goodIn_r _ [6, 1, 10, 11, 12, 13, 14, 15, 16, 17, 18, 19, 20, 21, 22, 23, 24, 25] (by decide +kernel) (by decide +kernel)
set_option maxRecDepth 20000 in
theorem gX6_sumOfLengths_X6_isThere : GoodIn wsX6_sumOfLengths (wsV RX6 53 RX6 yX6_isThere wsX6_isThere) := goodIn_app (goodIn_of _ (by decide +kernel)) ggX6_sumOfLengths_X6_isThere
set_option maxRecDepth 20000 in
theorem ggX6_sumOfLengths_X6_lengthOf : GoodIn wsX6_sumOfLengths wsX6_lengthOf := goodIn_r _ [9] (by decide +kernel) (by decide +kernel)
set_option maxRecDepth 20000 in
theorem gX6_sumOfLengths_X6_lengthOf : GoodIn wsX6_sumOfLengths (va_wsS RX6 38 yX6_lengthOf wsX6_lengthOf) := goodIn_app (goodIn_of _ (by decide +kernel)) ggX6_sumOfLengths_X6_lengthOf
theorem dX6_sumOfLengths_0 : decode cX6_sumOfLengths 0 = .ok (.iconst 0, 1) := by decide +kernel
theorem dX6_sumOfLengths_1 : decode cX6_sumOfLengths 1 = .ok (.istore_n 1, 1) := by decide +kernel
theorem dX6_sumOfLengths_2 : decode cX6_sumOfLengths 2 = .ok (.iconst 0, 1) := by decide +kernel
theorem dX6_sumOfLengths_3 : decode cX6_sumOfLengths 3 = .ok (.istore_n 2, 1) := by decide +kernel
theorem dX6_sumOfLengths_4 : decode cX6_sumOfLengths 4 = .ok (.iload_n 2, 1) := by decide +kernel
theorem dX6_sumOfLengths_5 : decode cX6_sumOfLengths 5 = .ok (.bipush 8, 2) := by decide +kernel
theorem dX6_sumOfLengths_7 : decode cX6_sumOfLengths 7 = .ok (.if_icmp .ge 35, 3) := by decide +kernel
theorem dX6_sumOfLengths_10 : decode cX6_sumOfLengths 10 = .ok (.iload_n 1, 1) := by decide +kernel
theorem dX6_sumOfLengths_11 : decode cX6_sumOfLengths 11 = .ok (.aload_n 0, 1) := by decide +kernel
theorem dX6_sumOfLengths_12 : decode cX6_sumOfLengths 12 = .ok (.iload_n 2, 1) := by decide +kernel
theorem dX6_sumOfLengths_13 : decode cX6_sumOfLengths 13 = .ok (.invokevirtual 53, 3) := by decide +kernel
theorem dX6_sumOfLengths_16 : decode cX6_sumOfLengths 16 = .ok (.ifCond .eq 17, 3) := by decide +kernel
theorem dX6_sumOfLengths_19 : decode cX6_sumOfLengths 19 = .ok (.aload_n 0, 1) := by decide +kernel
theorem dX6_sumOfLengths_20 : decode cX6_sumOfLengths 20 = .ok (.getfield 7, 3) := by decide +kernel
theorem dX6_sumOfLengths_23 : decode cX6_sumOfLengths 23 = .ok (.iconst 0, 1) := by decide +kernel
theorem dX6_sumOfLengths_24 : decode cX6_sumOfLengths 24 = .ok (.iload_n 2, 1) := by decide +kernel
theorem dX6_sumOfLengths_25 : decode cX6_sumOfLengths 25 = .ok (.iadd, 1) := by decide +kernel
theorem dX6_sumOfLengths_26 : decode cX6_sumOfLengths 26 = .ok (.iaload, 1) := by decide +kernel
theorem dX6_sumOfLengths_27 : decode cX6_sumOfLengths 27 = .ok (.invokestatic 38, 3) := by decide +kernel
theorem dX6_sumOfLengths_30 : decode cX6_sumOfLengths 30 = .ok (.goto 4, 3) := by decide +kernel
theorem dX6_sumOfLengths_33 : decode cX6_sumOfLengths 33 = .ok (.iconst 0, 1) := by decide +kernel
theorem dX6_sumOfLengths_34 : decode cX6_sumOfLengths 34 = .ok (.iadd, 1) := by decide +kernel
theorem dX6_sumOfLengths_35 : decode cX6_sumOfLengths 35 = .ok (.istore_n 1, 1) := by decide +kernel
theorem dX6_sumOfLengths_36 : decode cX6_sumOfLengths 36 = .ok (.iinc 2 1, 3) := by decide +kernel
theorem dX6_sumOfLengths_39 : decode cX6_sumOfLengths 39 = .ok (.goto (-35), 3) := by decide +kernel
theorem dX6_sumOfLengths_42 : decode cX6_sumOfLengths 42 = .ok (.iload_n 1, 1) := by decide +kernel
theorem dX6_sumOfLengths_43 : decode cX6_sumOfLengths 43 = .ok (.ireturn, 1) := by decide +kernel
set_option maxRecDepth 20000 in
theorem ggX6_counted_X6_beginning : GoodIn wsX6_counted wsX6_beginning := goodIn_r _ [8, 2, 9, 10, 11, 7, 12, 13, 14, 15, 16, 17, 18, 19, 20, 21, 50, 51, 52, 53, 54, 55, 56, 57, 58, 59, 60, 61, 62, 63, 64, 65] (by decide +kernel) (by decide +kernel)
set_option maxRecDepth 20000 in
theorem gX6_counted_X6_beginning : GoodIn wsX6_counted (wsV RX6 60 RX6 yX6_beginning wsX6_beginning) := goodIn_app (goodIn_of _ (by decide +kernel)) ggX6_counted_X6_beginning
set_option maxRecDepth 20000 in
theorem ggX6_counted_X6_state : GoodIn wsX6_counted wsX6_state := goodIn_r _ [25, 26, 27, 28, 7, 29, 2, 16, 17, 18, 30, 31, 32, 33, 34, 35, 36, 37, 38, 39, 40, 4, 5, 6, 8, 9, 10, 11, 12, 13, 14, 15, 19, 20, 21, 50, 51, 52, 53, 54, 55, 56, 57, 58, 59, 60, 61, 62, 63, 64, 65] (by decide +kernel) (by decide +kernel)
set_option maxRecDepth 20000 in
theorem gX6_counted_X6_state : GoodIn wsX6_counted (wsV RX6 86 RX6 yX6_state wsX6_state) := goodIn_app (goodIn_of _ (by decide +kernel)) ggX6_counted_X6_state
set_option maxRecDepth 20000 in
theorem ggX6_counted_X6_numberOf : GoodIn wsX6_counted wsX6_numberOf := goodIn_r _ [44, 45, 50, 51, 52, 53, 54, 55, 56, 57, 58, 59, 60, 61, 62, 63, 64, 65] (by decide +kernel) (by decide +kernel)
set_option maxRecDepth 20000 in
theorem gX6_counted_X6_numberOf : GoodIn wsX6_counted (wsV RX6 159 RX6 yX6_numberOf wsX6_numberOf) := goodIn_app (goodIn_of _ (by decide +kernel)) ggX6_counted_X6_numberOf
set_option maxRecDepth 20000 in
theorem ggX6_counted_X6_sumOfLengths : GoodIn wsX6_counted wsX6_sumOfLengths := goodIn_r _ [49, 2, 9, 10, 11, 7, 12, 16, 17, 18, 50, 51, 52, 53, 54, 55, 56, 57, 58, 59, 60, 61, 62, 63, 64, 65] (by decide +kernel) (by decide +kernel)
set_option maxRecDepth 20000 in
theorem gX6_counted_X6_sumOfLengths : GoodIn wsX6_counted (wsV RX6 175 RX6 yX6_sumOfLengths wsX6_sumOfLengths) := goodIn_app (goodIn_of _ (by decide +kernel)) ggX6_counted_X6_sumOfLengths
theorem dX6_counted_0 : decode cX6_counted 0 = .ok (.iload_n 1, 1) := by decide +kernel
theorem dX6_counted_1 : decode cX6_counted 1 = .ok (.tableswitch 116 0 8 #[51, 57, 62, 71, 79, 87, 95, 103, 111], 51) := by decide +kernel
theorem dX6_counted_52 : decode cX6_counted 52 = .ok (.aload_n 0, 1) := by decide +kernel
theorem dX6_counted_53 : decode cX6_counted 53 = .ok (.iconst 1, 1) := by decide +kernel
theorem dX6_counted_54 : decode cX6_counted 54 = .ok (.invokevirtual 60, 3) := by decide +kernel
theorem dX6_counted_57 : decode cX6_counted 57 = .ok (.ireturn, 1) := by decide +kernel
theorem dX6_counted_58 : decode cX6_counted 58 = .ok (.aload_n 0, 1) := by decide +kernel
theorem dX6_counted_59 : decode cX6_counted 59 = .ok (.getfield 76, 3) := by decide +kernel
theorem dX6_counted_62 : decode cX6_counted 62 = .ok (.ireturn, 1) := by decide +kernel
theorem dX6_counted_63 : decode cX6_counted 63 = .ok (.aload_n 0, 1) := by decide +kernel
theorem dX6_counted_64 : decode cX6_counted 64 = .ok (.aload_n 0, 1) := by decide +kernel
theorem dX6_counted_65 : decode cX6_counted 65 = .ok (.invokevirtual 86, 3) := by decide +kernel
theorem dX6_counted_68 : decode cX6_counted 68 = .ok (.invokevirtual 159, 3) := by decide +kernel
theorem dX6_counted_71 : decode cX6_counted 71 = .ok (.ireturn, 1) := by decide +kernel
theorem dX6_counted_72 : decode cX6_counted 72 = .ok (.aload_n 0, 1) := by decide +kernel
theorem dX6_counted_73 : decode cX6_counted 73 = .ok (.getfield 7, 3) := by decide +kernel
theorem dX6_counted_76 : decode cX6_counted 76 = .ok (.bipush 25, 2) := by decide +kernel
theorem dX6_counted_78 : decode cX6_counted 78 = .ok (.iaload, 1) := by decide +kernel
theorem dX6_counted_79 : decode cX6_counted 79 = .ok (.ireturn, 1) := by decide +kernel
theorem dX6_counted_80 : decode cX6_counted 80 = .ok (.aload_n 0, 1) := by decide +kernel
theorem dX6_counted_81 : decode cX6_counted 81 = .ok (.getfield 7, 3) := by decide +kernel
theorem dX6_counted_84 : decode cX6_counted 84 = .ok (.bipush 27, 2) := by decide +kernel
theorem dX6_counted_86 : decode cX6_counted 86 = .ok (.iaload, 1) := by decide +kernel
theorem dX6_counted_87 : decode cX6_counted 87 = .ok (.ireturn, 1) := by decide +kernel
theorem dX6_counted_88 : decode cX6_counted 88 = .ok (.aload_n 0, 1) := by decide +kernel
theorem dX6_counted_89 : decode cX6_counted 89 = .ok (.getfield 7, 3) := by decide +kernel
theorem dX6_counted_92 : decode cX6_counted 92 = .ok (.bipush 28, 2) := by decide +kernel
theorem dX6_counted_94 : decode cX6_counted 94 = .ok (.iaload, 1) := by decide +kernel
theorem dX6_counted_95 : decode cX6_counted 95 = .ok (.ireturn, 1) := by decide +kernel
theorem dX6_counted_96 : decode cX6_counted 96 = .ok (.aload_n 0, 1) := by decide +kernel
theorem dX6_counted_97 : decode cX6_counted 97 = .ok (.getfield 7, 3) := by decide +kernel
theorem dX6_counted_100 : decode cX6_counted 100 = .ok (.bipush 29, 2) := by decide +kernel
theorem dX6_counted_102 : decode cX6_counted 102 = .ok (.iaload, 1) := by decide +kernel
theorem dX6_counted_103 : decode cX6_counted 103 = .ok (.ireturn, 1) := by decide +kernel
theorem dX6_counted_104 : decode cX6_counted 104 = .ok (.aload_n 0, 1) := by decide +kernel
theorem dX6_counted_105 : decode cX6_counted 105 = .ok (.getfield 7, 3) := by decide +kernel
theorem dX6_counted_108 : decode cX6_counted 108 = .ok (.bipush 30, 2) := by decide +kernel
theorem dX6_counted_110 : decode cX6_counted 110 = .ok (.iaload, 1) := by decide +kernel
theorem dX6_counted_111 : decode cX6_counted 111 = .ok (.ireturn, 1) := by decide +kernel
theorem dX6_counted_112 : decode cX6_counted 112 = .ok (.aload_n 0, 1) := by decide +kernel
theorem dX6_counted_113 : decode cX6_counted 113 = .ok (.invokevirtual 175, 3) := by decide +kernel
theorem dX6_counted_116 : decode cX6_counted 116 = .ok (.ireturn, 1) := by decide +kernel
theorem dX6_counted_117 : decode cX6_counted 117 = .ok (.aload_n 0, 1) := by decide +kernel
theorem dX6_counted_118 : decode cX6_counted 118 = .ok (.getfield 35, 3) := by decide +kernel
theorem dX6_counted_121 : decode cX6_counted 121 = .ok (.ireturn, 1) := by decide +kernel
set_option maxRecDepth 20000 in
theorem ggX6_count_X6_list : GoodIn wsX6_count wsX6_list := goodIn_r _ [5, 6, 7, 8, 9, 10, 11, 4, 12, 13, 14, 15, 16, 17, 18, 19, 20, 21, 22, 70, 71, 72, 73, 74, 75, 76, 77, 78, 79, 80, 81, 82, 83, 84, 85] (by decide +kernel) (by decide +kernel)
set_option maxRecDepth 20000 in
theorem gX6_count_X6_list : GoodIn wsX6_count (wsV RX6 83 RX6 yX6_list wsX6_list) := goodIn_app (goodIn_of _ (by decide +kernel)) ggX6_count_X6_list
set_option maxRecDepth 20000 in
theorem ggX6_count_X6_in : GoodIn wsX6_count wsX6_in := goodIn_r _ [25] (by decide +kernel) (by decide +kernel)
set_option maxRecDepth 20000 in
theorem gX6_count_X6_in : GoodIn wsX6_count (va_wsS RX6 105 yX6_in wsX6_in) := goodIn_app (goodIn_of _ (by decide +kernel)) ggX6_count_X6_in
set_option maxRecDepth 20000 in
theorem ggX6_count_X6_holds : GoodIn wsX6_count wsX6_holds := goodIn_r _ [29, 30, 70, 71, 72, 73, 74, 75, 76, 77, 78, 79, 80, 81, 82, 83, 84, 85] (by decide +kernel) (by decide +kernel)
set_option maxRecDepth 20000 in
theorem gX6_count_X6_holds : GoodIn wsX6_count (wsV RX6 109 RX6 yX6_holds wsX6_holds) := goodIn_app (goodIn_of _ (by decide +kernel)) ggX6_count_X6_holds
set_option maxRecDepth 20000 in
theorem ggX6_count_X6_counted : GoodIn wsX6_count wsX6_counted := goodIn_r _ [34, 7, 8, 35, 36, 37, 38, 4, 39, 9, 10, 11, 12, 40, 41, 42, 13, 14, 15, 16, 17, 18, 43, 44, 45, 46, 47, 48, 49, 50, 51, 52, 53, 54, 55, 56, 57, 58, 59, 60, 61, 62, 63, 64, 65, 6, 66, 67, 68, 69, 70, 71, 72, 73, 74, 75, 76, 77, 78, 79, 80, 81, 82, 83, 84, 85] (by decide +kernel) (by decide +kernel)
set_option maxRecDepth 20000 in
theorem gX6_count_X6_counted : GoodIn wsX6_count (wsV RX6 178 RX6 yX6_counted wsX6_counted) := goodIn_app (goodIn_of _ (by decide +kernel)) ggX6_count_X6_counted
theorem dX6_count_0 : decode cX6_count 0 = .ok (.aload_n 0, 1) := by decide +kernel
theorem dX6_count_1 : decode cX6_count 1 = .ok (.invokevirtual 83, 3) := by decide +kernel
theorem dX6_count_4 : decode cX6_count 4 = .ok (.aload_n 0, 1) := by decide +kernel
theorem dX6_count_5 : decode cX6_count 5 = .ok (.iload_n 1, 1) := by decide +kernel
theorem dX6_count_6 : decode cX6_count 6 = .ok (.iconst 0, 1) := by decide +kernel
theorem dX6_count_7 : decode cX6_count 7 = .ok (.bipush 9, 2) := by decide +kernel
theorem dX6_count_9 : decode cX6_count 9 = .ok (.invokestatic 105, 3) := by decide +kernel
theorem dX6_count_12 : decode cX6_count 12 = .ok (.ifCond .eq 7, 3) := by decide +kernel
theorem dX6_count_15 : decode cX6_count 15 = .ok (.iconst 0, 1) := by decide +kernel
theorem dX6_count_16 : decode cX6_count 16 = .ok (.goto 4, 3) := by decide +kernel
theorem dX6_count_19 : decode cX6_count 19 = .ok (.iconst 1, 1) := by decide +kernel
theorem dX6_count_20 : decode cX6_count 20 = .ok (.invokevirtual 109, 3) := by decide +kernel
theorem dX6_count_23 : decode cX6_count 23 = .ok (.ifCond .eq 11, 3) := by decide +kernel
theorem dX6_count_26 : decode cX6_count 26 = .ok (.aload_n 0, 1) := by decide +kernel
theorem dX6_count_27 : decode cX6_count 27 = .ok (.iload_n 1, 1) := by decide +kernel
theorem dX6_count_28 : decode cX6_count 28 = .ok (.invokevirtual 178, 3) := by decide +kernel
theorem dX6_count_31 : decode cX6_count 31 = .ok (.goto 4, 3) := by decide +kernel
theorem dX6_count_34 : decode cX6_count 34 = .ok (.iconst 0, 1) := by decide +kernel
theorem dX6_count_35 : decode cX6_count 35 = .ok (.ireturn, 1) := by decide +kernel
theorem dX6_setting_0 : decode cX6_setting 0 = .ok (.aload_n 0, 1) := by decide +kernel
theorem dX6_setting_1 : decode cX6_setting 1 = .ok (.iconst 0, 1) := by decide +kernel
theorem dX6_setting_2 : decode cX6_setting 2 = .ok (.putfield 31, 3) := by decide +kernel
theorem dX6_setting_5 : decode cX6_setting 5 = .ok (.aload_n 0, 1) := by decide +kernel
theorem dX6_setting_6 : decode cX6_setting 6 = .ok (.getfield 7, 3) := by decide +kernel
theorem dX6_setting_9 : decode cX6_setting 9 = .ok (.bipush 24, 2) := by decide +kernel
theorem dX6_setting_11 : decode cX6_setting 11 = .ok (.iaload, 1) := by decide +kernel
theorem dX6_setting_12 : decode cX6_setting 12 = .ok (.ireturn, 1) := by decide +kernel
set_option maxRecDepth 20000 in
theorem ggX6_fed_X6_state : GoodIn wsX6_fed wsX6_state := goodIn_r _ [6, 7, 8, 9, 5, 10, 1, 11, 12, 13, 14, 15, 16, 17, 18, 19, 20, 21, 22, 23, 24, 25, 26, 27, 28, 29, 30, 31, 32, 33, 34, 35, 36, 37, 38, 70, 71, 72, 73, 74, 75, 76, 77, 78, 79, 80, 81, 82, 83, 84, 85] (by decide +kernel) (by decide +kernel)
set_option maxRecDepth 20000 in
theorem gX6_fed_X6_state : GoodIn wsX6_fed (wsV RX6 86 RX6 yX6_state wsX6_state) := goodIn_app (goodIn_of _ (by decide +kernel)) ggX6_fed_X6_state
set_option maxRecDepth 20000 in
theorem ggX6_fed_X6_behind : GoodIn wsX6_fed wsX6_behind := goodIn_r _ [42, 11, 12, 5, 13, 14, 15, 16, 17, 18, 19, 20, 21, 22, 23, 24, 25, 26, 27, 28, 1, 29, 30, 31, 32, 33, 34, 35, 36, 37, 38, 70, 71, 72, 73, 74, 75, 76, 77, 78, 79, 80, 81, 82, 83, 84, 85] (by decide +kernel) (by decide +kernel)
set_option maxRecDepth 20000 in
theorem gX6_fed_X6_behind : GoodIn wsX6_fed (wsV RX6 92 RX6 yX6_behind wsX6_behind) := goodIn_app (goodIn_of _ (by decide +kernel)) ggX6_fed_X6_behind
set_option maxRecDepth 20000 in
theorem ggX6_fed_X6_ending : GoodIn wsX6_fed wsX6_ending := goodIn_r _ [46, 1, 29, 30, 31, 5, 32, 47, 48, 49, 11, 12, 13, 18, 19, 20, 70, 71, 72, 73, 74, 75, 76, 77, 78, 79, 80, 81, 82, 83, 84, 85] (by decide +kernel) (by decide +kernel)
set_option maxRecDepth 20000 in
theorem gX6_fed_X6_ending : GoodIn wsX6_fed (wsV RX6 95 RX6 yX6_ending wsX6_ending) := goodIn_app (goodIn_of _ (by decide +kernel)) ggX6_fed_X6_ending
set_option maxRecDepth 20000 in
theorem ggX6_fed_X6_counting : GoodIn wsX6_fed wsX6_counting := goodIn_r _ [53, 1, 11, 12, 5, 13, 70, 71, 72, 73, 74, 75, 76, 77, 78, 79, 80, 81, 82, 83, 84, 85] (by decide +kernel) (by decide +kernel)
set_option maxRecDepth 20000 in
theorem gX6_fed_X6_counting : GoodIn wsX6_fed (wsV RX6 98 RX6 yX6_counting wsX6_counting) := goodIn_app (goodIn_of _ (by decide +kernel)) ggX6_fed_X6_counting
set_option maxRecDepth 20000 in
theorem ggX6_fed_X6_numberOf : GoodIn wsX6_fed wsX6_numberOf := goodIn_r _ [57, 58, 70, 71, 72, 73, 74, 75, 76, 77, 78, 79, 80, 81, 82, 83, 84, 85] (by decide +kernel) (by decide +kernel)
set_option maxRecDepth 20000 in
theorem gX6_fed_X6_numberOf : GoodIn wsX6_fed (wsV RX6 159 RX6 yX6_numberOf wsX6_numberOf) := goodIn_app (goodIn_of _ (by decide +kernel)) ggX6_fed_X6_numberOf
set_option maxRecDepth 20000 in
theorem ggX6_fed_X6_fallsOf : GoodIn wsX6_fed wsX6_fallsOf := goodIn_r _ [62, 21, 22, 23, 5, 24, 25, 26, 27, 28, 1, 29, 30, 31, 32, 33, 34, 35, 11, 12, 13, 36, 37, 38, 63, 64, 65, 66, 14, 15, 16, 17, 18, 19, 20, 70, 71, 72, 73, 74, 75, 76, 77, 78, 79, 80, 81, 82, 83, 84, 85] (by decide +kernel) (by decide +kernel)
set_option maxRecDepth 20000 in
theorem gX6_fed_X6_fallsOf : GoodIn wsX6_fed (wsV RX6 89 RX6 yX6_fallsOf wsX6_fallsOf) := goodIn_app (goodIn_of _ (by decide +kernel)) ggX6_fed_X6_fallsOf
set_option maxRecDepth 20000 in
theorem ggX6_fed_X6_bitsOf : GoodIn wsX6_fed wsX6_bitsOf := goodIn_r _ [69] (by decide +kernel) (by decide +kernel)
set_option maxRecDepth 20000 in
theorem gX6_fed_X6_bitsOf : GoodIn wsX6_fed (va_wsS RX6 102 yX6_bitsOf wsX6_bitsOf) := goodIn_app (goodIn_of _ (by decide +kernel)) ggX6_fed_X6_bitsOf
theorem dX6_fed_0 : decode cX6_fed 0 = .ok (.aload_n 0, 1) := by decide +kernel
theorem dX6_fed_1 : decode cX6_fed 1 = .ok (.invokevirtual 86, 3) := by decide +kernel
theorem dX6_fed_4 : decode cX6_fed 4 = .ok (.istore_n 3, 1) := by decide +kernel
theorem dX6_fed_5 : decode cX6_fed 5 = .ok (.aload_n 0, 1) := by decide +kernel
theorem dX6_fed_6 : decode cX6_fed 6 = .ok (.iload_n 3, 1) := by decide +kernel
theorem dX6_fed_7 : decode cX6_fed 7 = .ok (.iload_n 1, 1) := by decide +kernel
theorem dX6_fed_8 : decode cX6_fed 8 = .ok (.invokevirtual 92, 3) := by decide +kernel
theorem dX6_fed_11 : decode cX6_fed 11 = .ok (.istore 4, 2) := by decide +kernel
theorem dX6_fed_13 : decode cX6_fed 13 = .ok (.aload_n 0, 1) := by decide +kernel
theorem dX6_fed_14 : decode cX6_fed 14 = .ok (.aload_n 0, 1) := by decide +kernel
theorem dX6_fed_15 : decode cX6_fed 15 = .ok (.iload 4, 2) := by decide +kernel
theorem dX6_fed_17 : decode cX6_fed 17 = .ok (.invokevirtual 95, 3) := by decide +kernel
theorem dX6_fed_20 : decode cX6_fed 20 = .ok (.aload_n 0, 1) := by decide +kernel
theorem dX6_fed_21 : decode cX6_fed 21 = .ok (.getfield 7, 3) := by decide +kernel
theorem dX6_fed_24 : decode cX6_fed 24 = .ok (.bipush 25, 2) := by decide +kernel
theorem dX6_fed_26 : decode cX6_fed 26 = .ok (.iaload, 1) := by decide +kernel
theorem dX6_fed_27 : decode cX6_fed 27 = .ok (.invokevirtual 98, 3) := by decide +kernel
theorem dX6_fed_30 : decode cX6_fed 30 = .ok (.istore 5, 2) := by decide +kernel
theorem dX6_fed_32 : decode cX6_fed 32 = .ok (.iconst (-1), 1) := by decide +kernel
theorem dX6_fed_33 : decode cX6_fed 33 = .ok (.istore 6, 2) := by decide +kernel
theorem dX6_fed_35 : decode cX6_fed 35 = .ok (.bipush 7, 2) := by decide +kernel
theorem dX6_fed_37 : decode cX6_fed 37 = .ok (.istore 7, 2) := by decide +kernel
theorem dX6_fed_39 : decode cX6_fed 39 = .ok (.iload 7, 2) := by decide +kernel
theorem dX6_fed_41 : decode cX6_fed 41 = .ok (.ifCond .lt 29, 3) := by decide +kernel
theorem dX6_fed_44 : decode cX6_fed 44 = .ok (.iload 5, 2) := by decide +kernel
theorem dX6_fed_46 : decode cX6_fed 46 = .ok (.iload 7, 2) := by decide +kernel
theorem dX6_fed_48 : decode cX6_fed 48 = .ok (.ishr, 1) := by decide +kernel
theorem dX6_fed_49 : decode cX6_fed 49 = .ok (.iconst 1, 1) := by decide +kernel
theorem dX6_fed_50 : decode cX6_fed 50 = .ok (.iand, 1) := by decide +kernel
theorem dX6_fed_51 : decode cX6_fed 51 = .ok (.iconst 1, 1) := by decide +kernel
theorem dX6_fed_52 : decode cX6_fed 52 = .ok (.if_icmp .ne 8, 3) := by decide +kernel
theorem dX6_fed_55 : decode cX6_fed 55 = .ok (.iload 7, 2) := by decide +kernel
theorem dX6_fed_57 : decode cX6_fed 57 = .ok (.goto 5, 3) := by decide +kernel
theorem dX6_fed_60 : decode cX6_fed 60 = .ok (.iload 6, 2) := by decide +kernel
theorem dX6_fed_62 : decode cX6_fed 62 = .ok (.istore 6, 2) := by decide +kernel
theorem dX6_fed_64 : decode cX6_fed 64 = .ok (.iinc 7 (-1), 3) := by decide +kernel
theorem dX6_fed_67 : decode cX6_fed 67 = .ok (.goto (-28), 3) := by decide +kernel
theorem dX6_fed_70 : decode cX6_fed 70 = .ok (.iload_n 2, 1) := by decide +kernel
theorem dX6_fed_71 : decode cX6_fed 71 = .ok (.ifCond .ne 12, 3) := by decide +kernel
theorem dX6_fed_74 : decode cX6_fed 74 = .ok (.aload_n 0, 1) := by decide +kernel
theorem dX6_fed_75 : decode cX6_fed 75 = .ok (.iload 4, 2) := by decide +kernel
theorem dX6_fed_77 : decode cX6_fed 77 = .ok (.invokevirtual 159, 3) := by decide +kernel
theorem dX6_fed_80 : decode cX6_fed 80 = .ok (.goto 32, 3) := by decide +kernel
theorem dX6_fed_83 : decode cX6_fed 83 = .ok (.iload_n 2, 1) := by decide +kernel
theorem dX6_fed_84 : decode cX6_fed 84 = .ok (.iconst 1, 1) := by decide +kernel
theorem dX6_fed_85 : decode cX6_fed 85 = .ok (.if_icmp .ne 12, 3) := by decide +kernel
theorem dX6_fed_88 : decode cX6_fed 88 = .ok (.aload_n 0, 1) := by decide +kernel
theorem dX6_fed_89 : decode cX6_fed 89 = .ok (.iload_n 3, 1) := by decide +kernel
theorem dX6_fed_90 : decode cX6_fed 90 = .ok (.iload_n 1, 1) := by decide +kernel
theorem dX6_fed_91 : decode cX6_fed 91 = .ok (.invokevirtual 89, 3) := by decide +kernel
theorem dX6_fed_94 : decode cX6_fed 94 = .ok (.goto 18, 3) := by decide +kernel
theorem dX6_fed_97 : decode cX6_fed 97 = .ok (.iload_n 2, 1) := by decide +kernel
theorem dX6_fed_98 : decode cX6_fed 98 = .ok (.iconst 2, 1) := by decide +kernel
theorem dX6_fed_99 : decode cX6_fed 99 = .ok (.if_icmp .ne 11, 3) := by decide +kernel
theorem dX6_fed_102 : decode cX6_fed 102 = .ok (.iload 5, 2) := by decide +kernel
theorem dX6_fed_104 : decode cX6_fed 104 = .ok (.invokestatic 102, 3) := by decide +kernel
theorem dX6_fed_107 : decode cX6_fed 107 = .ok (.goto 5, 3) := by decide +kernel
theorem dX6_fed_110 : decode cX6_fed 110 = .ok (.iload 6, 2) := by decide +kernel
theorem dX6_fed_112 : decode cX6_fed 112 = .ok (.ireturn, 1) := by decide +kernel
set_option maxRecDepth 20000 in
theorem ggX6_ifFed_X6_list : GoodIn wsX6_ifFed wsX6_list := goodIn_r _ [5, 6, 7, 8, 9, 10, 11, 4, 12, 13, 14, 15, 16, 17, 18, 19, 20, 21, 22, 91, 92, 93, 94, 95, 96, 97, 98, 99, 100, 101, 102, 103, 104, 105, 106] (by decide +kernel) (by decide +kernel)
set_option maxRecDepth 20000 in
theorem gX6_ifFed_X6_list : GoodIn wsX6_ifFed (wsV RX6 83 RX6 yX6_list wsX6_list) := goodIn_app (goodIn_of _ (by decide +kernel)) ggX6_ifFed_X6_list
set_option maxRecDepth 20000 in
theorem ggX6_ifFed_X6_in : GoodIn wsX6_ifFed wsX6_in := goodIn_r _ [25] (by decide +kernel) (by decide +kernel)
set_option maxRecDepth 20000 in
theorem gX6_ifFed_X6_in : GoodIn wsX6_ifFed (va_wsS RX6 105 yX6_in wsX6_in) := goodIn_app (goodIn_of _ (by decide +kernel)) ggX6_ifFed_X6_in
set_option maxRecDepth 20000 in
theorem ggX6_ifFed_X6_holds : GoodIn wsX6_ifFed wsX6_holds := goodIn_r _ [29, 30, 91, 92, 93, 94, 95, 96, 97, 98, 99, 100, 101, 102, 103, 104, 105, 106] (by decide +kernel) (by decide +kernel)
set_option maxRecDepth 20000 in
theorem gX6_ifFed_X6_holds : GoodIn wsX6_ifFed (wsV RX6 109 RX6 yX6_holds wsX6_holds) := goodIn_app (goodIn_of _ (by decide +kernel)) ggX6_ifFed_X6_holds
set_option maxRecDepth 20000 in
theorem ggX6_ifFed_X6_fed : GoodIn wsX6_ifFed wsX6_fed := goodIn_r _ [34, 8, 35, 36, 37, 4, 38, 39, 40, 41, 42, 13, 14, 15, 43, 44, 45, 46, 47, 48, 49, 50, 51, 52, 53, 54, 55, 56, 57, 9, 10, 11, 12, 58, 59, 60, 16, 17, 18, 61, 62, 63, 64, 65, 66, 67, 68, 69, 70, 71, 72, 73, 74, 75, 76, 77, 78, 79, 6, 80, 81, 82, 83, 84, 85, 86, 87, 88, 89, 90, 91, 92, 93, 94, 95, 96, 97, 98, 99, 100, 101, 102, 103, 104, 105, 106] (by decide +kernel) (by decide +kernel)
set_option maxRecDepth 20000 in
theorem gX6_ifFed_X6_fed : GoodIn wsX6_ifFed (wsV RX6 181 RX6 yX6_fed wsX6_fed) := goodIn_app (goodIn_of _ (by decide +kernel)) ggX6_ifFed_X6_fed
theorem dX6_ifFed_0 : decode cX6_ifFed 0 = .ok (.aload_n 0, 1) := by decide +kernel
theorem dX6_ifFed_1 : decode cX6_ifFed 1 = .ok (.invokevirtual 83, 3) := by decide +kernel
theorem dX6_ifFed_4 : decode cX6_ifFed 4 = .ok (.aload_n 0, 1) := by decide +kernel
theorem dX6_ifFed_5 : decode cX6_ifFed 5 = .ok (.iload_n 1, 1) := by decide +kernel
theorem dX6_ifFed_6 : decode cX6_ifFed 6 = .ok (.iconst 0, 1) := by decide +kernel
theorem dX6_ifFed_7 : decode cX6_ifFed 7 = .ok (.iconst 3, 1) := by decide +kernel
theorem dX6_ifFed_8 : decode cX6_ifFed 8 = .ok (.invokestatic 105, 3) := by decide +kernel
theorem dX6_ifFed_11 : decode cX6_ifFed 11 = .ok (.ifCond .eq 16, 3) := by decide +kernel
theorem dX6_ifFed_14 : decode cX6_ifFed 14 = .ok (.iload_n 2, 1) := by decide +kernel
theorem dX6_ifFed_15 : decode cX6_ifFed 15 = .ok (.iconst 0, 1) := by decide +kernel
theorem dX6_ifFed_16 : decode cX6_ifFed 16 = .ok (.iconst 3, 1) := by decide +kernel
theorem dX6_ifFed_17 : decode cX6_ifFed 17 = .ok (.invokestatic 105, 3) := by decide +kernel
theorem dX6_ifFed_20 : decode cX6_ifFed 20 = .ok (.ifCond .eq 7, 3) := by decide +kernel
theorem dX6_ifFed_23 : decode cX6_ifFed 23 = .ok (.iconst 0, 1) := by decide +kernel
theorem dX6_ifFed_24 : decode cX6_ifFed 24 = .ok (.goto 4, 3) := by decide +kernel
theorem dX6_ifFed_27 : decode cX6_ifFed 27 = .ok (.iconst 1, 1) := by decide +kernel
theorem dX6_ifFed_28 : decode cX6_ifFed 28 = .ok (.invokevirtual 109, 3) := by decide +kernel
theorem dX6_ifFed_31 : decode cX6_ifFed 31 = .ok (.ifCond .eq 12, 3) := by decide +kernel
theorem dX6_ifFed_34 : decode cX6_ifFed 34 = .ok (.aload_n 0, 1) := by decide +kernel
theorem dX6_ifFed_35 : decode cX6_ifFed 35 = .ok (.iload_n 1, 1) := by decide +kernel
theorem dX6_ifFed_36 : decode cX6_ifFed 36 = .ok (.iload_n 2, 1) := by decide +kernel
theorem dX6_ifFed_37 : decode cX6_ifFed 37 = .ok (.invokevirtual 181, 3) := by decide +kernel
theorem dX6_ifFed_40 : decode cX6_ifFed 40 = .ok (.goto 4, 3) := by decide +kernel
theorem dX6_ifFed_43 : decode cX6_ifFed 43 = .ok (.iconst 0, 1) := by decide +kernel
theorem dX6_ifFed_44 : decode cX6_ifFed 44 = .ok (.ireturn, 1) := by decide +kernel
set_option maxRecDepth 20000 in
theorem ggX6_lettersOf_X6_isThere : GoodIn wsX6_lettersOf wsX6_isThere := goodIn_r _ [6, 1, 23, 24, 25, 26, 27, 28, 29, 30, 31, 32, 33, 34, 35, 36, 37, 38] (by decide +kernel) (by decide +kernel)
set_option maxRecDepth 20000 in
theorem gX6_lettersOf_X6_isThere : GoodIn wsX6_lettersOf (wsV RX6 53 RX6 yX6_isThere wsX6_isThere) := goodIn_app (goodIn_of _ (by decide +kernel)) ggX6_lettersOf_X6_isThere
set_option maxRecDepth 20000 in
theorem ggX6_lettersOf_X6_lengthOf : GoodIn wsX6_lettersOf wsX6_lengthOf := goodIn_r _ [9] (by decide +kernel) (by decide +kernel)
set_option maxRecDepth 20000 in
theorem gX6_lettersOf_X6_lengthOf : GoodIn wsX6_lettersOf (va_wsS RX6 38 yX6_lengthOf wsX6_lengthOf) := goodIn_app (goodIn_of _ (by decide +kernel)) ggX6_lettersOf_X6_lengthOf
set_option maxRecDepth 20000 in
theorem ggX6_lettersOf_X6_tail : GoodIn wsX6_lettersOf wsX6_tail := goodIn_r _ [13, 1, 23, 24, 25, 26, 27, 28, 29, 30, 31, 32, 33, 34, 35, 36, 37, 38] (by decide +kernel) (by decide +kernel)
set_option maxRecDepth 20000 in
theorem gX6_lettersOf_X6_tail : GoodIn wsX6_lettersOf (wsV RX6 66 RX6 yX6_tail wsX6_tail) := goodIn_app (goodIn_of _ (by decide +kernel)) ggX6_lettersOf_X6_tail
set_option maxRecDepth 20000 in
theorem ggX6_lettersOf_X6_beginOf : GoodIn wsX6_lettersOf wsX6_beginOf := goodIn_r _ [16, 7, 8, 5, 9] (by decide +kernel) (by decide +kernel)
set_option maxRecDepth 20000 in
theorem gX6_lettersOf_X6_beginOf : GoodIn wsX6_lettersOf (va_wsS RX6 46 yX6_beginOf wsX6_beginOf) := goodIn_app (goodIn_of _ (by decide +kernel)) ggX6_lettersOf_X6_beginOf
set_option maxRecDepth 20000 in
theorem ggX6_lettersOf_X6_isEnd : GoodIn wsX6_lettersOf wsX6_isEnd := goodIn_r _ [19, 7, 8, 5, 9, 20, 21, 22] (by decide +kernel) (by decide +kernel)
set_option maxRecDepth 20000 in
theorem gX6_lettersOf_X6_isEnd : GoodIn wsX6_lettersOf (va_wsS RX6 49 yX6_isEnd wsX6_isEnd) := goodIn_app (goodIn_of _ (by decide +kernel)) ggX6_lettersOf_X6_isEnd
theorem dX6_lettersOf_0 : decode cX6_lettersOf 0 = .ok (.aload_n 0, 1) := by decide +kernel
theorem dX6_lettersOf_1 : decode cX6_lettersOf 1 = .ok (.iload_n 1, 1) := by decide +kernel
theorem dX6_lettersOf_2 : decode cX6_lettersOf 2 = .ok (.invokevirtual 53, 3) := by decide +kernel
theorem dX6_lettersOf_5 : decode cX6_lettersOf 5 = .ok (.ifCond .ne 5, 3) := by decide +kernel
theorem dX6_lettersOf_8 : decode cX6_lettersOf 8 = .ok (.iconst (-1), 1) := by decide +kernel
theorem dX6_lettersOf_9 : decode cX6_lettersOf 9 = .ok (.ireturn, 1) := by decide +kernel
theorem dX6_lettersOf_10 : decode cX6_lettersOf 10 = .ok (.aload_n 0, 1) := by decide +kernel
theorem dX6_lettersOf_11 : decode cX6_lettersOf 11 = .ok (.getfield 7, 3) := by decide +kernel
theorem dX6_lettersOf_14 : decode cX6_lettersOf 14 = .ok (.iconst 0, 1) := by decide +kernel
theorem dX6_lettersOf_15 : decode cX6_lettersOf 15 = .ok (.iload_n 1, 1) := by decide +kernel
theorem dX6_lettersOf_16 : decode cX6_lettersOf 16 = .ok (.iadd, 1) := by decide +kernel
theorem dX6_lettersOf_17 : decode cX6_lettersOf 17 = .ok (.iaload, 1) := by decide +kernel
theorem dX6_lettersOf_18 : decode cX6_lettersOf 18 = .ok (.invokestatic 38, 3) := by decide +kernel
theorem dX6_lettersOf_21 : decode cX6_lettersOf 21 = .ok (.istore_n 2, 1) := by decide +kernel
theorem dX6_lettersOf_22 : decode cX6_lettersOf 22 = .ok (.iload_n 2, 1) := by decide +kernel
theorem dX6_lettersOf_23 : decode cX6_lettersOf 23 = .ok (.iconst 1, 1) := by decide +kernel
theorem dX6_lettersOf_24 : decode cX6_lettersOf 24 = .ok (.isub, 1) := by decide +kernel
theorem dX6_lettersOf_25 : decode cX6_lettersOf 25 = .ok (.istore_n 3, 1) := by decide +kernel
theorem dX6_lettersOf_26 : decode cX6_lettersOf 26 = .ok (.aload_n 0, 1) := by decide +kernel
theorem dX6_lettersOf_27 : decode cX6_lettersOf 27 = .ok (.invokevirtual 66, 3) := by decide +kernel
theorem dX6_lettersOf_30 : decode cX6_lettersOf 30 = .ok (.aload_n 0, 1) := by decide +kernel
theorem dX6_lettersOf_31 : decode cX6_lettersOf 31 = .ok (.getfield 7, 3) := by decide +kernel
theorem dX6_lettersOf_34 : decode cX6_lettersOf 34 = .ok (.iconst 0, 1) := by decide +kernel
theorem dX6_lettersOf_35 : decode cX6_lettersOf 35 = .ok (.iload_n 1, 1) := by decide +kernel
theorem dX6_lettersOf_36 : decode cX6_lettersOf 36 = .ok (.iadd, 1) := by decide +kernel
theorem dX6_lettersOf_37 : decode cX6_lettersOf 37 = .ok (.iaload, 1) := by decide +kernel
theorem dX6_lettersOf_38 : decode cX6_lettersOf 38 = .ok (.iload_n 3, 1) := by decide +kernel
theorem dX6_lettersOf_39 : decode cX6_lettersOf 39 = .ok (.invokestatic 46, 3) := by decide +kernel
theorem dX6_lettersOf_42 : decode cX6_lettersOf 42 = .ok (.invokestatic 49, 3) := by decide +kernel
theorem dX6_lettersOf_45 : decode cX6_lettersOf 45 = .ok (.ifCond .ne 9, 3) := by decide +kernel
theorem dX6_lettersOf_48 : decode cX6_lettersOf 48 = .ok (.iinc 3 (-1), 3) := by decide +kernel
theorem dX6_lettersOf_51 : decode cX6_lettersOf 51 = .ok (.goto (-25), 3) := by decide +kernel
theorem dX6_lettersOf_54 : decode cX6_lettersOf 54 = .ok (.iload_n 2, 1) := by decide +kernel
theorem dX6_lettersOf_55 : decode cX6_lettersOf 55 = .ok (.iload_n 3, 1) := by decide +kernel
theorem dX6_lettersOf_56 : decode cX6_lettersOf 56 = .ok (.isub, 1) := by decide +kernel
theorem dX6_lettersOf_57 : decode cX6_lettersOf 57 = .ok (.ireturn, 1) := by decide +kernel
set_option maxRecDepth 20000 in
theorem ggX6_lettersTo_X6_in : GoodIn wsX6_lettersTo wsX6_in := goodIn_r _ [4] (by decide +kernel) (by decide +kernel)
set_option maxRecDepth 20000 in
theorem gX6_lettersTo_X6_in : GoodIn wsX6_lettersTo (va_wsS RX6 105 yX6_in wsX6_in) := goodIn_app (goodIn_of _ (by decide +kernel)) ggX6_lettersTo_X6_in
set_option maxRecDepth 20000 in
theorem ggX6_lettersTo_X6_holds : GoodIn wsX6_lettersTo wsX6_holds := goodIn_r _ [8, 9, 35, 36, 37, 38, 39, 40, 41, 42, 43, 44, 45, 46, 47, 48, 49, 50] (by decide +kernel) (by decide +kernel)
set_option maxRecDepth 20000 in
theorem gX6_lettersTo_X6_holds : GoodIn wsX6_lettersTo (wsV RX6 109 RX6 yX6_holds wsX6_holds) := goodIn_app (goodIn_of _ (by decide +kernel)) ggX6_lettersTo_X6_holds
set_option maxRecDepth 20000 in
theorem ggX6_lettersTo_X6_lettersOf : GoodIn wsX6_lettersTo wsX6_lettersOf := goodIn_r _ [13, 14, 15, 16, 17, 3, 18, 19, 20, 21, 22, 23, 24, 25, 26, 27, 28, 29, 30, 31, 32, 33, 34, 35, 36, 37, 38, 39, 40, 41, 42, 43, 44, 45, 46, 47, 48, 49, 50] (by decide +kernel) (by decide +kernel)
set_option maxRecDepth 20000 in
theorem gX6_lettersTo_X6_lettersOf : GoodIn wsX6_lettersTo (wsV RX6 184 RX6 yX6_lettersOf wsX6_lettersOf) := goodIn_app (goodIn_of _ (by decide +kernel)) ggX6_lettersTo_X6_lettersOf
theorem dX6_lettersTo_0 : decode cX6_lettersTo 0 = .ok (.aload_n 0, 1) := by decide +kernel
theorem dX6_lettersTo_1 : decode cX6_lettersTo 1 = .ok (.iload_n 1, 1) := by decide +kernel
theorem dX6_lettersTo_2 : decode cX6_lettersTo 2 = .ok (.iconst 0, 1) := by decide +kernel
theorem dX6_lettersTo_3 : decode cX6_lettersTo 3 = .ok (.bipush 7, 2) := by decide +kernel
theorem dX6_lettersTo_5 : decode cX6_lettersTo 5 = .ok (.invokestatic 105, 3) := by decide +kernel
theorem dX6_lettersTo_8 : decode cX6_lettersTo 8 = .ok (.ifCond .eq 7, 3) := by decide +kernel
theorem dX6_lettersTo_11 : decode cX6_lettersTo 11 = .ok (.iconst 0, 1) := by decide +kernel
theorem dX6_lettersTo_12 : decode cX6_lettersTo 12 = .ok (.goto 4, 3) := by decide +kernel
theorem dX6_lettersTo_15 : decode cX6_lettersTo 15 = .ok (.iconst 1, 1) := by decide +kernel
theorem dX6_lettersTo_16 : decode cX6_lettersTo 16 = .ok (.invokevirtual 109, 3) := by decide +kernel
theorem dX6_lettersTo_19 : decode cX6_lettersTo 19 = .ok (.ifCond .eq 11, 3) := by decide +kernel
theorem dX6_lettersTo_22 : decode cX6_lettersTo 22 = .ok (.aload_n 0, 1) := by decide +kernel
theorem dX6_lettersTo_23 : decode cX6_lettersTo 23 = .ok (.iload_n 1, 1) := by decide +kernel
theorem dX6_lettersTo_24 : decode cX6_lettersTo 24 = .ok (.invokevirtual 184, 3) := by decide +kernel
theorem dX6_lettersTo_27 : decode cX6_lettersTo 27 = .ok (.goto 4, 3) := by decide +kernel
theorem dX6_lettersTo_30 : decode cX6_lettersTo 30 = .ok (.iconst 0, 1) := by decide +kernel
theorem dX6_lettersTo_31 : decode cX6_lettersTo 31 = .ok (.ireturn, 1) := by decide +kernel
set_option maxRecDepth 20000 in
theorem ggX6_repeated_X6_putAside : GoodIn wsX6_repeated wsX6_putAside := goodIn_r _ [5, 6, 7, 79, 80, 81, 82, 83, 84, 85, 86, 87, 88, 89, 90, 91, 92, 93, 94] (by decide +kernel) (by decide +kernel)
set_option maxRecDepth 20000 in
theorem gX6_repeated_X6_putAside : GoodIn wsX6_repeated (wsV RX6 143 RX6 yX6_putAside wsX6_putAside) := goodIn_app (goodIn_of _ (by decide +kernel)) ggX6_repeated_X6_putAside
set_option maxRecDepth 20000 in
theorem ggX6_repeated_X6_reads : GoodIn wsX6_repeated wsX6_reads := goodIn_r _ [11, 7, 12, 13, 14, 15, 4, 16, 17, 18, 19, 20, 21, 22, 23, 24, 25, 26, 27, 28, 29, 30, 31, 32, 33, 34, 35, 36, 37, 38, 39, 40, 41, 42, 43, 44, 45, 46, 47, 48, 49, 50, 51, 52, 53, 54, 55, 56, 57, 58, 59, 60, 61, 62, 63, 64, 65, 66, 67, 68, 69, 70, 71, 72, 73, 74, 79, 80, 81, 82, 83, 84, 85, 86, 87, 88, 89, 90, 91, 92, 93, 94] (by decide +kernel) (by decide +kernel)
set_option maxRecDepth 20000 in
theorem gX6_repeated_X6_reads : GoodIn wsX6_repeated (wsV RX6 115 RX6 yX6_reads wsX6_reads) := goodIn_app (goodIn_of _ (by decide +kernel)) ggX6_repeated_X6_reads
set_option maxRecDepth 20000 in
theorem ggX6_repeated_X6_putBack : GoodIn wsX6_repeated wsX6_putBack := goodIn_r _ [78, 7, 6, 79, 80, 81, 82, 83, 84, 85, 86, 87, 88, 89, 90, 91, 92, 93, 94] (by decide +kernel) (by decide +kernel)
set_option maxRecDepth 20000 in
theorem gX6_repeated_X6_putBack : GoodIn wsX6_repeated (wsV RX6 149 RX6 yX6_putBack wsX6_putBack) := goodIn_app (goodIn_of _ (by decide +kernel)) ggX6_repeated_X6_putBack
theorem dX6_repeated_0 : decode cX6_repeated 0 = .ok (.aload_n 0, 1) := by decide +kernel
theorem dX6_repeated_1 : decode cX6_repeated 1 = .ok (.invokevirtual 143, 3) := by decide +kernel
theorem dX6_repeated_4 : decode cX6_repeated 4 = .ok (.iconst 0, 1) := by decide +kernel
theorem dX6_repeated_5 : decode cX6_repeated 5 = .ok (.istore_n 3, 1) := by decide +kernel
theorem dX6_repeated_6 : decode cX6_repeated 6 = .ok (.iconst 0, 1) := by decide +kernel
theorem dX6_repeated_7 : decode cX6_repeated 7 = .ok (.istore 4, 2) := by decide +kernel
theorem dX6_repeated_9 : decode cX6_repeated 9 = .ok (.iload 4, 2) := by decide +kernel
theorem dX6_repeated_11 : decode cX6_repeated 11 = .ok (.iload_n 2, 1) := by decide +kernel
theorem dX6_repeated_12 : decode cX6_repeated 12 = .ok (.if_icmp .ge 17, 3) := by decide +kernel
theorem dX6_repeated_15 : decode cX6_repeated 15 = .ok (.iload_n 3, 1) := by decide +kernel
theorem dX6_repeated_16 : decode cX6_repeated 16 = .ok (.aload_n 0, 1) := by decide +kernel
theorem dX6_repeated_17 : decode cX6_repeated 17 = .ok (.iload_n 1, 1) := by decide +kernel
theorem dX6_repeated_18 : decode cX6_repeated 18 = .ok (.invokevirtual 115, 3) := by decide +kernel
theorem dX6_repeated_21 : decode cX6_repeated 21 = .ok (.iadd, 1) := by decide +kernel
theorem dX6_repeated_22 : decode cX6_repeated 22 = .ok (.istore_n 3, 1) := by decide +kernel
theorem dX6_repeated_23 : decode cX6_repeated 23 = .ok (.iinc 4 1, 3) := by decide +kernel
theorem dX6_repeated_26 : decode cX6_repeated 26 = .ok (.goto (-17), 3) := by decide +kernel
theorem dX6_repeated_29 : decode cX6_repeated 29 = .ok (.aload_n 0, 1) := by decide +kernel
theorem dX6_repeated_30 : decode cX6_repeated 30 = .ok (.invokevirtual 149, 3) := by decide +kernel
theorem dX6_repeated_33 : decode cX6_repeated 33 = .ok (.iload_n 3, 1) := by decide +kernel
theorem dX6_repeated_34 : decode cX6_repeated 34 = .ok (.ireturn, 1) := by decide +kernel
set_option maxRecDepth 20000 in
theorem ggX6_ifRepeated_X6_in : GoodIn wsX6_ifRepeated wsX6_in := goodIn_r _ [4] (by decide +kernel) (by decide +kernel)
set_option maxRecDepth 20000 in
theorem gX6_ifRepeated_X6_in : GoodIn wsX6_ifRepeated (va_wsS RX6 105 yX6_in wsX6_in) := goodIn_app (goodIn_of _ (by decide +kernel)) ggX6_ifRepeated_X6_in
set_option maxRecDepth 20000 in
theorem ggX6_ifRepeated_X6_holds : GoodIn wsX6_ifRepeated wsX6_holds := goodIn_r _ [8, 9, 91, 92, 93, 94, 95, 96, 97, 98, 99, 100, 101, 102, 103, 104, 105, 106] (by decide +kernel) (by decide +kernel)
set_option maxRecDepth 20000 in
theorem gX6_ifRepeated_X6_holds : GoodIn wsX6_ifRepeated (wsV RX6 109 RX6 yX6_holds wsX6_holds) := goodIn_app (goodIn_of _ (by decide +kernel)) ggX6_ifRepeated_X6_holds
set_option maxRecDepth 20000 in
theorem ggX6_ifRepeated_X6_repeated : GoodIn wsX6_ifRepeated wsX6_repeated := goodIn_r _ [13, 14, 15, 16, 3, 17, 18, 19, 20, 21, 22, 23, 24, 25, 26, 27, 28, 29, 30, 31, 32, 33, 34, 35, 36, 37, 38, 39, 40, 41, 42, 43, 44, 45, 46, 47, 48, 49, 50, 51, 52, 53, 54, 55, 56, 57, 58, 59, 60, 61, 62, 63, 64, 65, 66, 67, 68, 69, 70, 71, 72, 73, 74, 75, 76, 77, 78, 79, 80, 81, 82, 83, 84, 85, 86, 87, 88, 89, 90, 91, 92, 93, 94, 95, 96, 97, 98, 99, 100, 101, 102, 103, 104, 105, 106] (by decide +kernel) (by decide +kernel)
set_option maxRecDepth 20000 in
theorem gX6_ifRepeated_X6_repeated : GoodIn wsX6_ifRepeated (wsV RX6 187 RX6 yX6_repeated wsX6_repeated) := goodIn_app (goodIn_of _ (by decide +kernel)) ggX6_ifRepeated_X6_repeated
theorem dX6_ifRepeated_0 : decode cX6_ifRepeated 0 = .ok (.aload_n 0, 1) := by decide +kernel
theorem dX6_ifRepeated_1 : decode cX6_ifRepeated 1 = .ok (.iload_n 1, 1) := by decide +kernel
theorem dX6_ifRepeated_2 : decode cX6_ifRepeated 2 = .ok (.iconst 0, 1) := by decide +kernel
theorem dX6_ifRepeated_3 : decode cX6_ifRepeated 3 = .ok (.iconst 3, 1) := by decide +kernel
theorem dX6_ifRepeated_4 : decode cX6_ifRepeated 4 = .ok (.invokestatic 105, 3) := by decide +kernel
theorem dX6_ifRepeated_7 : decode cX6_ifRepeated 7 = .ok (.ifCond .eq 18, 3) := by decide +kernel
theorem dX6_ifRepeated_10 : decode cX6_ifRepeated 10 = .ok (.iload_n 2, 1) := by decide +kernel
theorem dX6_ifRepeated_11 : decode cX6_ifRepeated 11 = .ok (.iconst 1, 1) := by decide +kernel
theorem dX6_ifRepeated_12 : decode cX6_ifRepeated 12 = .ok (.sipush 200, 3) := by decide +kernel
theorem dX6_ifRepeated_15 : decode cX6_ifRepeated 15 = .ok (.invokestatic 105, 3) := by decide +kernel
theorem dX6_ifRepeated_18 : decode cX6_ifRepeated 18 = .ok (.ifCond .eq 7, 3) := by decide +kernel
theorem dX6_ifRepeated_21 : decode cX6_ifRepeated 21 = .ok (.iconst 0, 1) := by decide +kernel
theorem dX6_ifRepeated_22 : decode cX6_ifRepeated 22 = .ok (.goto 4, 3) := by decide +kernel
theorem dX6_ifRepeated_25 : decode cX6_ifRepeated 25 = .ok (.iconst 1, 1) := by decide +kernel
theorem dX6_ifRepeated_26 : decode cX6_ifRepeated 26 = .ok (.invokevirtual 109, 3) := by decide +kernel
theorem dX6_ifRepeated_29 : decode cX6_ifRepeated 29 = .ok (.ifCond .eq 12, 3) := by decide +kernel
theorem dX6_ifRepeated_32 : decode cX6_ifRepeated 32 = .ok (.aload_n 0, 1) := by decide +kernel
theorem dX6_ifRepeated_33 : decode cX6_ifRepeated 33 = .ok (.iload_n 1, 1) := by decide +kernel
theorem dX6_ifRepeated_34 : decode cX6_ifRepeated 34 = .ok (.iload_n 2, 1) := by decide +kernel
theorem dX6_ifRepeated_35 : decode cX6_ifRepeated 35 = .ok (.invokevirtual 187, 3) := by decide +kernel
theorem dX6_ifRepeated_38 : decode cX6_ifRepeated 38 = .ok (.goto 4, 3) := by decide +kernel
theorem dX6_ifRepeated_41 : decode cX6_ifRepeated 41 = .ok (.iconst 0, 1) := by decide +kernel
theorem dX6_ifRepeated_42 : decode cX6_ifRepeated 42 = .ok (.ireturn, 1) := by decide +kernel
set_option maxRecDepth 20000 in
theorem ggX6_heaviestOf_X6_manyStates : GoodIn wsX6_heaviestOf wsX6_manyStates := goodIn_r _ [6, 7, 8, 9, 10, 5, 11, 12, 1, 13, 14, 15, 16, 17, 18, 19, 20, 21, 22, 23, 24, 25, 26, 27, 28, 29, 30, 31, 32, 33, 34, 35, 36, 37, 38, 39, 40, 41, 42] (by decide +kernel) (by decide +kernel)
set_option maxRecDepth 20000 in
theorem gX6_heaviestOf_X6_manyStates : GoodIn wsX6_heaviestOf (wsV RX6 190 RX6 yX6_manyStates wsX6_manyStates) := goodIn_app (goodIn_of _ (by decide +kernel)) ggX6_heaviestOf_X6_manyStates
theorem dX6_heaviestOf_0 : decode cX6_heaviestOf 0 = .ok (.iconst (-1), 1) := by decide +kernel
theorem dX6_heaviestOf_1 : decode cX6_heaviestOf 1 = .ok (.istore_n 1, 1) := by decide +kernel
theorem dX6_heaviestOf_2 : decode cX6_heaviestOf 2 = .ok (.iconst (-1), 1) := by decide +kernel
theorem dX6_heaviestOf_3 : decode cX6_heaviestOf 3 = .ok (.istore_n 2, 1) := by decide +kernel
theorem dX6_heaviestOf_4 : decode cX6_heaviestOf 4 = .ok (.aload_n 0, 1) := by decide +kernel
theorem dX6_heaviestOf_5 : decode cX6_heaviestOf 5 = .ok (.invokevirtual 190, 3) := by decide +kernel
theorem dX6_heaviestOf_8 : decode cX6_heaviestOf 8 = .ok (.istore_n 3, 1) := by decide +kernel
theorem dX6_heaviestOf_9 : decode cX6_heaviestOf 9 = .ok (.iconst 0, 1) := by decide +kernel
theorem dX6_heaviestOf_10 : decode cX6_heaviestOf 10 = .ok (.istore 4, 2) := by decide +kernel
theorem dX6_heaviestOf_12 : decode cX6_heaviestOf 12 = .ok (.iload 4, 2) := by decide +kernel
theorem dX6_heaviestOf_14 : decode cX6_heaviestOf 14 = .ok (.bipush 8, 2) := by decide +kernel
theorem dX6_heaviestOf_16 : decode cX6_heaviestOf 16 = .ok (.if_icmp .ge 90, 3) := by decide +kernel
theorem dX6_heaviestOf_19 : decode cX6_heaviestOf 19 = .ok (.aload_n 0, 1) := by decide +kernel
theorem dX6_heaviestOf_20 : decode cX6_heaviestOf 20 = .ok (.getfield 7, 3) := by decide +kernel
theorem dX6_heaviestOf_23 : decode cX6_heaviestOf 23 = .ok (.iconst 0, 1) := by decide +kernel
theorem dX6_heaviestOf_24 : decode cX6_heaviestOf 24 = .ok (.iload 4, 2) := by decide +kernel
theorem dX6_heaviestOf_26 : decode cX6_heaviestOf 26 = .ok (.iadd, 1) := by decide +kernel
theorem dX6_heaviestOf_27 : decode cX6_heaviestOf 27 = .ok (.iaload, 1) := by decide +kernel
theorem dX6_heaviestOf_28 : decode cX6_heaviestOf 28 = .ok (.istore 5, 2) := by decide +kernel
theorem dX6_heaviestOf_30 : decode cX6_heaviestOf 30 = .ok (.aload_n 0, 1) := by decide +kernel
theorem dX6_heaviestOf_31 : decode cX6_heaviestOf 31 = .ok (.getfield 7, 3) := by decide +kernel
theorem dX6_heaviestOf_34 : decode cX6_heaviestOf 34 = .ok (.iconst 0, 1) := by decide +kernel
theorem dX6_heaviestOf_35 : decode cX6_heaviestOf 35 = .ok (.iload 4, 2) := by decide +kernel
theorem dX6_heaviestOf_37 : decode cX6_heaviestOf 37 = .ok (.iadd, 1) := by decide +kernel
theorem dX6_heaviestOf_38 : decode cX6_heaviestOf 38 = .ok (.iconst 0, 1) := by decide +kernel
theorem dX6_heaviestOf_39 : decode cX6_heaviestOf 39 = .ok (.iastore, 1) := by decide +kernel
theorem dX6_heaviestOf_40 : decode cX6_heaviestOf 40 = .ok (.iload 5, 2) := by decide +kernel
theorem dX6_heaviestOf_42 : decode cX6_heaviestOf 42 = .ok (.ifCond .le 12, 3) := by decide +kernel
theorem dX6_heaviestOf_45 : decode cX6_heaviestOf 45 = .ok (.iload_n 3, 1) := by decide +kernel
theorem dX6_heaviestOf_46 : decode cX6_heaviestOf 46 = .ok (.aload_n 0, 1) := by decide +kernel
theorem dX6_heaviestOf_47 : decode cX6_heaviestOf 47 = .ok (.invokevirtual 190, 3) := by decide +kernel
theorem dX6_heaviestOf_50 : decode cX6_heaviestOf 50 = .ok (.isub, 1) := by decide +kernel
theorem dX6_heaviestOf_51 : decode cX6_heaviestOf 51 = .ok (.goto 4, 3) := by decide +kernel
theorem dX6_heaviestOf_54 : decode cX6_heaviestOf 54 = .ok (.iconst (-1), 1) := by decide +kernel
theorem dX6_heaviestOf_55 : decode cX6_heaviestOf 55 = .ok (.istore 6, 2) := by decide +kernel
theorem dX6_heaviestOf_57 : decode cX6_heaviestOf 57 = .ok (.aload_n 0, 1) := by decide +kernel
theorem dX6_heaviestOf_58 : decode cX6_heaviestOf 58 = .ok (.getfield 7, 3) := by decide +kernel
theorem dX6_heaviestOf_61 : decode cX6_heaviestOf 61 = .ok (.iconst 0, 1) := by decide +kernel
theorem dX6_heaviestOf_62 : decode cX6_heaviestOf 62 = .ok (.iload 4, 2) := by decide +kernel
theorem dX6_heaviestOf_64 : decode cX6_heaviestOf 64 = .ok (.iadd, 1) := by decide +kernel
theorem dX6_heaviestOf_65 : decode cX6_heaviestOf 65 = .ok (.iload 5, 2) := by decide +kernel
theorem dX6_heaviestOf_67 : decode cX6_heaviestOf 67 = .ok (.iastore, 1) := by decide +kernel
theorem dX6_heaviestOf_68 : decode cX6_heaviestOf 68 = .ok (.iload 6, 2) := by decide +kernel
theorem dX6_heaviestOf_70 : decode cX6_heaviestOf 70 = .ok (.iload_n 2, 1) := by decide +kernel
theorem dX6_heaviestOf_71 : decode cX6_heaviestOf 71 = .ok (.if_icmp .le 14, 3) := by decide +kernel
theorem dX6_heaviestOf_74 : decode cX6_heaviestOf 74 = .ok (.bipush 100, 2) := by decide +kernel
theorem dX6_heaviestOf_76 : decode cX6_heaviestOf 76 = .ok (.iload 6, 2) := by decide +kernel
theorem dX6_heaviestOf_78 : decode cX6_heaviestOf 78 = .ok (.imul, 1) := by decide +kernel
theorem dX6_heaviestOf_79 : decode cX6_heaviestOf 79 = .ok (.iload 4, 2) := by decide +kernel
theorem dX6_heaviestOf_81 : decode cX6_heaviestOf 81 = .ok (.iadd, 1) := by decide +kernel
theorem dX6_heaviestOf_82 : decode cX6_heaviestOf 82 = .ok (.goto 4, 3) := by decide +kernel
theorem dX6_heaviestOf_85 : decode cX6_heaviestOf 85 = .ok (.iload_n 1, 1) := by decide +kernel
theorem dX6_heaviestOf_86 : decode cX6_heaviestOf 86 = .ok (.istore_n 1, 1) := by decide +kernel
theorem dX6_heaviestOf_87 : decode cX6_heaviestOf 87 = .ok (.iload 6, 2) := by decide +kernel
theorem dX6_heaviestOf_89 : decode cX6_heaviestOf 89 = .ok (.iload_n 2, 1) := by decide +kernel
theorem dX6_heaviestOf_90 : decode cX6_heaviestOf 90 = .ok (.if_icmp .le 8, 3) := by decide +kernel
theorem dX6_heaviestOf_93 : decode cX6_heaviestOf 93 = .ok (.iload 6, 2) := by decide +kernel
theorem dX6_heaviestOf_95 : decode cX6_heaviestOf 95 = .ok (.goto 4, 3) := by decide +kernel
theorem dX6_heaviestOf_98 : decode cX6_heaviestOf 98 = .ok (.iload_n 2, 1) := by decide +kernel
theorem dX6_heaviestOf_99 : decode cX6_heaviestOf 99 = .ok (.istore_n 2, 1) := by decide +kernel
theorem dX6_heaviestOf_100 : decode cX6_heaviestOf 100 = .ok (.iinc 4 1, 3) := by decide +kernel
theorem dX6_heaviestOf_103 : decode cX6_heaviestOf 103 = .ok (.goto (-91), 3) := by decide +kernel
theorem dX6_heaviestOf_106 : decode cX6_heaviestOf 106 = .ok (.iload_n 1, 1) := by decide +kernel
theorem dX6_heaviestOf_107 : decode cX6_heaviestOf 107 = .ok (.ireturn, 1) := by decide +kernel
set_option maxRecDepth 20000 in
theorem ggX6_heaviest_X6_heaviestOf : GoodIn wsX6_heaviest wsX6_heaviestOf := goodIn_r _ [6, 7, 8, 9, 10, 5, 11, 12, 13, 14, 15, 16, 17, 18, 19, 20, 21, 22, 23, 24, 25, 26, 27, 28, 29, 30, 31, 32, 33, 34, 35, 36, 37, 38, 39, 40, 41, 42, 43, 44, 45, 46, 47] (by decide +kernel) (by decide +kernel)
set_option maxRecDepth 20000 in
theorem gX6_heaviest_X6_heaviestOf : GoodIn wsX6_heaviest (wsV RX6 193 RX6 yX6_heaviestOf wsX6_heaviestOf) := goodIn_app (goodIn_of _ (by decide +kernel)) ggX6_heaviest_X6_heaviestOf
theorem dX6_heaviest_0 : decode cX6_heaviest 0 = .ok (.aload_n 0, 1) := by decide +kernel
theorem dX6_heaviest_1 : decode cX6_heaviest 1 = .ok (.iconst 0, 1) := by decide +kernel
theorem dX6_heaviest_2 : decode cX6_heaviest 2 = .ok (.putfield 31, 3) := by decide +kernel
theorem dX6_heaviest_5 : decode cX6_heaviest 5 = .ok (.aload_n 0, 1) := by decide +kernel
theorem dX6_heaviest_6 : decode cX6_heaviest 6 = .ok (.invokevirtual 193, 3) := by decide +kernel
theorem dX6_heaviest_9 : decode cX6_heaviest 9 = .ok (.ireturn, 1) := by decide +kernel
set_option maxRecDepth 20000 in
theorem ggX6_share_X6_sumOfLengths : GoodIn wsX6_share wsX6_sumOfLengths := goodIn_r _ [5, 6, 7, 8, 9, 4, 10, 11, 12, 13, 31, 32, 33, 34, 35, 36, 37, 38, 39, 40, 41, 42, 43, 44, 45, 46] (by decide +kernel) (by decide +kernel)
set_option maxRecDepth 20000 in
theorem gX6_share_X6_sumOfLengths : GoodIn wsX6_share (wsV RX6 175 RX6 yX6_sumOfLengths wsX6_sumOfLengths) := goodIn_app (goodIn_of _ (by decide +kernel)) ggX6_share_X6_sumOfLengths
set_option maxRecDepth 20000 in
theorem ggX6_share_X6_manyStates : GoodIn wsX6_share wsX6_manyStates := goodIn_r _ [17, 18, 19, 20, 21, 4, 22, 23, 6, 7, 8, 9, 10, 11, 12, 13, 24, 25, 26, 27, 28, 29, 30, 31, 32, 33, 34, 35, 36, 37, 38, 39, 40, 41, 42, 43, 44, 45, 46] (by decide +kernel) (by decide +kernel)
set_option maxRecDepth 20000 in
theorem gX6_share_X6_manyStates : GoodIn wsX6_share (wsV RX6 190 RX6 yX6_manyStates wsX6_manyStates) := goodIn_app (goodIn_of _ (by decide +kernel)) ggX6_share_X6_manyStates
theorem dX6_share_0 : decode cX6_share 0 = .ok (.aload_n 0, 1) := by decide +kernel
theorem dX6_share_1 : decode cX6_share 1 = .ok (.invokevirtual 175, 3) := by decide +kernel
theorem dX6_share_4 : decode cX6_share 4 = .ok (.istore_n 1, 1) := by decide +kernel
theorem dX6_share_5 : decode cX6_share 5 = .ok (.iload_n 1, 1) := by decide +kernel
theorem dX6_share_6 : decode cX6_share 6 = .ok (.ifCond .ne 7, 3) := by decide +kernel
theorem dX6_share_9 : decode cX6_share 9 = .ok (.dconst 1, 1) := by decide +kernel
theorem dX6_share_10 : decode cX6_share 10 = .ok (.goto 13, 3) := by decide +kernel
theorem dX6_share_13 : decode cX6_share 13 = .ok (.aload_n 0, 1) := by decide +kernel
theorem dX6_share_14 : decode cX6_share 14 = .ok (.invokevirtual 190, 3) := by decide +kernel
theorem dX6_share_17 : decode cX6_share 17 = .ok (.iconst 1, 1) := by decide +kernel
theorem dX6_share_18 : decode cX6_share 18 = .ok (.isub, 1) := by decide +kernel
theorem dX6_share_19 : decode cX6_share 19 = .ok (.i2d, 1) := by decide +kernel
theorem dX6_share_20 : decode cX6_share 20 = .ok (.iload_n 1, 1) := by decide +kernel
theorem dX6_share_21 : decode cX6_share 21 = .ok (.i2d, 1) := by decide +kernel
theorem dX6_share_22 : decode cX6_share 22 = .ok (.ddiv, 1) := by decide +kernel
theorem dX6_share_23 : decode cX6_share 23 = .ok (.dreturn, 1) := by decide +kernel
set_option maxRecDepth 20000 in
theorem ggX6_sharing_X6_share : GoodIn wsX6_sharing wsX6_share := goodIn_r _ [6, 7, 8, 9, 5, 10, 11, 12, 13, 14, 15, 16, 17, 18, 19, 20, 21, 22, 23, 24, 25, 26, 27, 28, 29, 30, 31, 32, 33, 34, 35, 36, 37, 38, 39, 40, 41, 42, 43, 44, 45, 46, 47, 48, 49, 50, 51] (by decide +kernel) (by decide +kernel)
set_option maxRecDepth 20000 in
theorem gX6_sharing_X6_share : GoodIn wsX6_sharing (wsV RX6 196 RX6 yX6_share wsX6_share) := goodIn_app (goodIn_of _ (by decide +kernel)) ggX6_sharing_X6_share
theorem dX6_sharing_0 : decode cX6_sharing 0 = .ok (.aload_n 0, 1) := by decide +kernel
theorem dX6_sharing_1 : decode cX6_sharing 1 = .ok (.iconst 0, 1) := by decide +kernel
theorem dX6_sharing_2 : decode cX6_sharing 2 = .ok (.putfield 31, 3) := by decide +kernel
theorem dX6_sharing_5 : decode cX6_sharing 5 = .ok (.aload_n 0, 1) := by decide +kernel
theorem dX6_sharing_6 : decode cX6_sharing 6 = .ok (.invokevirtual 196, 3) := by decide +kernel
theorem dX6_sharing_9 : decode cX6_sharing 9 = .ok (.dreturn, 1) := by decide +kernel
theorem dX6_bitsOfShare_0 : decode cX6_bitsOfShare 0 = .ok (.ldc2_w 200, 3) := by decide +kernel
theorem dX6_bitsOfShare_3 : decode cX6_bitsOfShare 3 = .ok (.lstore_n 2, 1) := by decide +kernel
theorem dX6_bitsOfShare_4 : decode cX6_bitsOfShare 4 = .ok (.dload_n 0, 1) := by decide +kernel
theorem dX6_bitsOfShare_5 : decode cX6_bitsOfShare 5 = .ok (.dstore 4, 2) := by decide +kernel
theorem dX6_bitsOfShare_7 : decode cX6_bitsOfShare 7 = .ok (.dload 4, 2) := by decide +kernel
theorem dX6_bitsOfShare_9 : decode cX6_bitsOfShare 9 = .ok (.dconst 1, 1) := by decide +kernel
theorem dX6_bitsOfShare_10 : decode cX6_bitsOfShare 10 = .ok (.dcmp .g, 1) := by decide +kernel
theorem dX6_bitsOfShare_11 : decode cX6_bitsOfShare 11 = .ok (.ifCond .ge 18, 3) := by decide +kernel
theorem dX6_bitsOfShare_14 : decode cX6_bitsOfShare 14 = .ok (.dload 4, 2) := by decide +kernel
theorem dX6_bitsOfShare_16 : decode cX6_bitsOfShare 16 = .ok (.ldc2_w 202, 3) := by decide +kernel
theorem dX6_bitsOfShare_19 : decode cX6_bitsOfShare 19 = .ok (.dmul, 1) := by decide +kernel
theorem dX6_bitsOfShare_20 : decode cX6_bitsOfShare 20 = .ok (.dstore 4, 2) := by decide +kernel
theorem dX6_bitsOfShare_22 : decode cX6_bitsOfShare 22 = .ok (.lload_n 2, 1) := by decide +kernel
theorem dX6_bitsOfShare_23 : decode cX6_bitsOfShare 23 = .ok (.lconst 1, 1) := by decide +kernel
theorem dX6_bitsOfShare_24 : decode cX6_bitsOfShare 24 = .ok (.lsub, 1) := by decide +kernel
theorem dX6_bitsOfShare_25 : decode cX6_bitsOfShare 25 = .ok (.lstore_n 2, 1) := by decide +kernel
theorem dX6_bitsOfShare_26 : decode cX6_bitsOfShare 26 = .ok (.goto (-19), 3) := by decide +kernel
theorem dX6_bitsOfShare_29 : decode cX6_bitsOfShare 29 = .ok (.lload_n 2, 1) := by decide +kernel
theorem dX6_bitsOfShare_30 : decode cX6_bitsOfShare 30 = .ok (.ldc2_w 204, 3) := by decide +kernel
theorem dX6_bitsOfShare_33 : decode cX6_bitsOfShare 33 = .ok (.lmul, 1) := by decide +kernel
theorem dX6_bitsOfShare_34 : decode cX6_bitsOfShare 34 = .ok (.dload 4, 2) := by decide +kernel
theorem dX6_bitsOfShare_36 : decode cX6_bitsOfShare 36 = .ok (.dconst 1, 1) := by decide +kernel
theorem dX6_bitsOfShare_37 : decode cX6_bitsOfShare 37 = .ok (.dsub, 1) := by decide +kernel
theorem dX6_bitsOfShare_38 : decode cX6_bitsOfShare 38 = .ok (.ldc2_w 206, 3) := by decide +kernel
theorem dX6_bitsOfShare_41 : decode cX6_bitsOfShare 41 = .ok (.dmul, 1) := by decide +kernel
theorem dX6_bitsOfShare_42 : decode cX6_bitsOfShare 42 = .ok (.d2l, 1) := by decide +kernel
theorem dX6_bitsOfShare_43 : decode cX6_bitsOfShare 43 = .ok (.ladd, 1) := by decide +kernel
theorem dX6_bitsOfShare_44 : decode cX6_bitsOfShare 44 = .ok (.lreturn, 1) := by decide +kernel
theorem dX6_digestOne_0 : decode cX6_digestOne 0 = .ok (.aload_n 0, 1) := by decide +kernel
theorem dX6_digestOne_1 : decode cX6_digestOne 1 = .ok (.ldc2_w 208, 3) := by decide +kernel
theorem dX6_digestOne_4 : decode cX6_digestOne 4 = .ok (.aload_n 0, 1) := by decide +kernel
theorem dX6_digestOne_5 : decode cX6_digestOne 5 = .ok (.getfield 210, 3) := by decide +kernel
theorem dX6_digestOne_8 : decode cX6_digestOne 8 = .ok (.lmul, 1) := by decide +kernel
theorem dX6_digestOne_9 : decode cX6_digestOne 9 = .ok (.lload_n 1, 1) := by decide +kernel
theorem dX6_digestOne_10 : decode cX6_digestOne 10 = .ok (.ladd, 1) := by decide +kernel
theorem dX6_digestOne_11 : decode cX6_digestOne 11 = .ok (.putfield 210, 3) := by decide +kernel
theorem dX6_digestOne_14 : decode cX6_digestOne 14 = .ok (.return_, 1) := by decide +kernel
set_option maxRecDepth 20000 in
theorem ggX6_digest_X6_list : GoodIn wsX6_digest wsX6_list := goodIn_r _ [12, 13, 5, 4, 14, 15, 16, 11, 17, 18, 19, 20, 21, 22, 23, 24, 25, 26, 27, 162, 163, 164, 165, 166, 167, 168, 169, 170, 171, 172, 173, 174, 175, 176, 177] (by decide +kernel) (by decide +kernel)
set_option maxRecDepth 20000 in
theorem gX6_digest_X6_list : GoodIn wsX6_digest (wsV RX6 83 RX6 yX6_list wsX6_list) := goodIn_app (goodIn_of _ (by decide +kernel)) ggX6_digest_X6_list
set_option maxRecDepth 20000 in
theorem ggX6_digest_X6_counted : GoodIn wsX6_digest wsX6_counted := goodIn_r _ [31, 5, 4, 32, 33, 34, 35, 11, 36, 14, 15, 16, 17, 37, 38, 39, 18, 19, 20, 21, 22, 23, 40, 41, 42, 43, 44, 45, 46, 47, 48, 49, 50, 51, 52, 53, 54, 55, 56, 57, 58, 59, 60, 61, 62, 13, 63, 64, 65, 66, 162, 163, 164, 165, 166, 167, 168, 169, 170, 171, 172, 173, 174, 175, 176, 177] (by decide +kernel) (by decide +kernel)
set_option maxRecDepth 20000 in
theorem gX6_digest_X6_counted : GoodIn wsX6_digest (wsV RX6 178 RX6 yX6_counted wsX6_counted) := goodIn_app (goodIn_of _ (by decide +kernel)) ggX6_digest_X6_counted
set_option maxRecDepth 20000 in
theorem ggX6_digest_X6_digestOne : GoodIn wsX6_digest wsX6_digestOne := goodIn_r _ [70, 71, 3, 162, 163, 164, 165, 166, 167, 168, 169, 170, 171, 172, 173, 174, 175, 176, 177] (by decide +kernel) (by decide +kernel)
set_option maxRecDepth 20000 in
theorem gX6_digest_X6_digestOne : GoodIn wsX6_digest (wsV RX6 216 RX6 yX6_digestOne wsX6_digestOne) := goodIn_app (goodIn_of _ (by decide +kernel)) ggX6_digest_X6_digestOne
set_option maxRecDepth 20000 in
theorem ggX6_digest_X6_patternOf : GoodIn wsX6_digest wsX6_patternOf := goodIn_r _ [75, 4, 14, 15, 16, 11, 17, 18, 19, 20, 59, 60, 61, 62, 13, 76, 77, 78, 79, 80, 81, 82, 21, 22, 23, 83, 84, 85, 52, 53, 54, 162, 163, 164, 165, 166, 167, 168, 169, 170, 171, 172, 173, 174, 175, 176, 177] (by decide +kernel) (by decide +kernel)
set_option maxRecDepth 20000 in
theorem gX6_digest_X6_patternOf : GoodIn wsX6_digest (wsV RX6 166 RX6 yX6_patternOf wsX6_patternOf) := goodIn_app (goodIn_of _ (by decide +kernel)) ggX6_digest_X6_patternOf
set_option maxRecDepth 20000 in
theorem ggX6_digest_X6_letterOf : GoodIn wsX6_digest wsX6_letterOf := goodIn_r _ [89, 4, 14, 15, 16, 11, 17, 18, 19, 20, 162, 163, 164, 165, 166, 167, 168, 169, 170, 171, 172, 173, 174, 175, 176, 177] (by decide +kernel) (by decide +kernel)
set_option maxRecDepth 20000 in
theorem gX6_digest_X6_letterOf : GoodIn wsX6_digest (wsV RX6 169 RX6 yX6_letterOf wsX6_letterOf) := goodIn_app (goodIn_of _ (by decide +kernel)) ggX6_digest_X6_letterOf
set_option maxRecDepth 20000 in
theorem ggX6_digest_X6_lettersOf : GoodIn wsX6_digest wsX6_lettersOf := goodIn_r _ [93, 4, 14, 15, 16, 11, 17, 18, 19, 20, 44, 45, 46, 47, 21, 22, 23, 83, 84, 85, 52, 53, 54, 162, 163, 164, 165, 166, 167, 168, 169, 170, 171, 172, 173, 174, 175, 176, 177] (by decide +kernel) (by decide +kernel)
set_option maxRecDepth 20000 in
theorem gX6_digest_X6_lettersOf : GoodIn wsX6_digest (wsV RX6 184 RX6 yX6_lettersOf wsX6_lettersOf) := goodIn_app (goodIn_of _ (by decide +kernel)) ggX6_digest_X6_lettersOf
set_option maxRecDepth 20000 in
theorem ggX6_digest_X6_stateOf : GoodIn wsX6_digest wsX6_stateOf := goodIn_r _ [97, 13, 18, 19, 11, 20, 98, 99, 100, 101, 48, 49, 50, 51, 52, 53, 54, 55, 56, 57, 58, 33, 34, 35, 36, 4, 14, 15, 16, 17, 37, 38, 39, 21, 22, 23, 59, 60, 61, 62, 102, 103, 104, 105, 83, 84, 85, 106, 107, 108, 109, 162, 163, 164, 165, 166, 167, 168, 169, 170, 171, 172, 173, 174, 175, 176, 177] (by decide +kernel) (by decide +kernel)
set_option maxRecDepth 20000 in
theorem gX6_digest_X6_stateOf : GoodIn wsX6_digest (wsV RX6 172 RX6 yX6_stateOf wsX6_stateOf) := goodIn_app (goodIn_of _ (by decide +kernel)) ggX6_digest_X6_stateOf
set_option maxRecDepth 20000 in
theorem ggX6_digest_X6_fed : GoodIn wsX6_digest wsX6_fed := goodIn_r _ [113, 4, 40, 41, 42, 11, 43, 44, 45, 46, 47, 18, 19, 20, 48, 49, 50, 51, 52, 53, 54, 55, 56, 57, 58, 33, 34, 35, 36, 14, 15, 16, 17, 37, 38, 39, 21, 22, 23, 106, 107, 108, 109, 102, 103, 104, 105, 83, 84, 85, 114, 115, 116, 117, 59, 60, 61, 62, 13, 118, 119, 120, 121, 98, 99, 100, 101, 122, 123, 124, 162, 163, 164, 165, 166, 167, 168, 169, 170, 171, 172, 173, 174, 175, 176, 177] (by decide +kernel) (by decide +kernel)
set_option maxRecDepth 20000 in
theorem gX6_digest_X6_fed : GoodIn wsX6_digest (wsV RX6 181 RX6 yX6_fed wsX6_fed) := goodIn_app (goodIn_of _ (by decide +kernel)) ggX6_digest_X6_fed
set_option maxRecDepth 20000 in
theorem ggX6_digest_X6_repeated : GoodIn wsX6_digest wsX6_repeated := goodIn_r _ [128, 129, 130, 131, 11, 132, 133, 4, 134, 135, 136, 137, 138, 40, 41, 42, 43, 44, 45, 46, 47, 18, 19, 20, 48, 49, 50, 51, 52, 53, 54, 55, 56, 57, 58, 33, 34, 35, 36, 14, 15, 16, 17, 37, 38, 39, 21, 22, 23, 118, 119, 120, 121, 98, 99, 100, 101, 106, 107, 108, 109, 102, 103, 104, 105, 83, 84, 85, 114, 115, 116, 117, 122, 123, 124, 139, 140, 141, 142, 162, 163, 164, 165, 166, 167, 168, 169, 170, 171, 172, 173, 174, 175, 176, 177] (by decide +kernel) (by decide +kernel)
set_option maxRecDepth 20000 in
theorem gX6_digest_X6_repeated : GoodIn wsX6_digest (wsV RX6 187 RX6 yX6_repeated wsX6_repeated) := goodIn_app (goodIn_of _ (by decide +kernel)) ggX6_digest_X6_repeated
set_option maxRecDepth 20000 in
theorem ggX6_digest_X6_heaviestOf : GoodIn wsX6_digest wsX6_heaviestOf := goodIn_r _ [146, 4, 147, 148, 149, 11, 150, 5, 8, 9, 10, 12, 13, 14, 15, 16, 17, 18, 19, 20, 21, 22, 23, 24, 25, 26, 27, 162, 163, 164, 165, 166, 167, 168, 169, 170, 171, 172, 173, 174, 175, 176, 177] (by decide +kernel) (by decide +kernel)
set_option maxRecDepth 20000 in
theorem gX6_digest_X6_heaviestOf : GoodIn wsX6_digest (wsV RX6 193 RX6 yX6_heaviestOf wsX6_heaviestOf) := goodIn_app (goodIn_of _ (by decide +kernel)) ggX6_digest_X6_heaviestOf
set_option maxRecDepth 20000 in
theorem ggX6_digest_X6_share : GoodIn wsX6_digest wsX6_share := goodIn_r _ [154, 63, 64, 65, 11, 66, 4, 14, 15, 16, 17, 18, 19, 20, 147, 148, 149, 150, 5, 8, 9, 10, 12, 13, 21, 22, 23, 24, 25, 26, 27, 162, 163, 164, 165, 166, 167, 168, 169, 170, 171, 172, 173, 174, 175, 176, 177] (by decide +kernel) (by decide +kernel)
set_option maxRecDepth 20000 in
theorem gX6_digest_X6_share : GoodIn wsX6_digest (wsV RX6 196 RX6 yX6_share wsX6_share) := goodIn_app (goodIn_of _ (by decide +kernel)) ggX6_digest_X6_share
set_option maxRecDepth 20000 in
theorem ggX6_digest_X6_bitsOfShare : GoodIn wsX6_digest wsX6_bitsOfShare := goodIn_r _ [157, 158, 159, 160, 161] (by decide +kernel) (by decide +kernel)
set_option maxRecDepth 20000 in
theorem gX6_digest_X6_bitsOfShare : GoodIn wsX6_digest (va_wsS RX6 220 yX6_bitsOfShare wsX6_bitsOfShare) := goodIn_app (goodIn_of _ (by decide +kernel)) ggX6_digest_X6_bitsOfShare
theorem dX6_digest_0 : decode cX6_digest 0 = .ok (.aload_n 0, 1) := by decide +kernel
theorem dX6_digest_1 : decode cX6_digest 1 = .ok (.iconst 0, 1) := by decide +kernel
theorem dX6_digest_2 : decode cX6_digest 2 = .ok (.putfield 31, 3) := by decide +kernel
theorem dX6_digest_5 : decode cX6_digest 5 = .ok (.aload_n 0, 1) := by decide +kernel
theorem dX6_digest_6 : decode cX6_digest 6 = .ok (.ldc2_w 214, 3) := by decide +kernel
theorem dX6_digest_9 : decode cX6_digest 9 = .ok (.putfield 210, 3) := by decide +kernel
theorem dX6_digest_12 : decode cX6_digest 12 = .ok (.aload_n 0, 1) := by decide +kernel
theorem dX6_digest_13 : decode cX6_digest 13 = .ok (.invokevirtual 83, 3) := by decide +kernel
theorem dX6_digest_16 : decode cX6_digest 16 = .ok (.iconst 0, 1) := by decide +kernel
theorem dX6_digest_17 : decode cX6_digest 17 = .ok (.istore_n 1, 1) := by decide +kernel
theorem dX6_digest_18 : decode cX6_digest 18 = .ok (.iload_n 1, 1) := by decide +kernel
theorem dX6_digest_19 : decode cX6_digest 19 = .ok (.bipush 10, 2) := by decide +kernel
theorem dX6_digest_21 : decode cX6_digest 21 = .ok (.if_icmp .ge 19, 3) := by decide +kernel
theorem dX6_digest_24 : decode cX6_digest 24 = .ok (.aload_n 0, 1) := by decide +kernel
theorem dX6_digest_25 : decode cX6_digest 25 = .ok (.aload_n 0, 1) := by decide +kernel
theorem dX6_digest_26 : decode cX6_digest 26 = .ok (.iload_n 1, 1) := by decide +kernel
theorem dX6_digest_27 : decode cX6_digest 27 = .ok (.invokevirtual 178, 3) := by decide +kernel
theorem dX6_digest_30 : decode cX6_digest 30 = .ok (.i2l, 1) := by decide +kernel
theorem dX6_digest_31 : decode cX6_digest 31 = .ok (.invokevirtual 216, 3) := by decide +kernel
theorem dX6_digest_34 : decode cX6_digest 34 = .ok (.iinc 1 1, 3) := by decide +kernel
theorem dX6_digest_37 : decode cX6_digest 37 = .ok (.goto (-19), 3) := by decide +kernel
theorem dX6_digest_40 : decode cX6_digest 40 = .ok (.aload_n 0, 1) := by decide +kernel
theorem dX6_digest_41 : decode cX6_digest 41 = .ok (.aload_n 0, 1) := by decide +kernel
theorem dX6_digest_42 : decode cX6_digest 42 = .ok (.getfield 7, 3) := by decide +kernel
theorem dX6_digest_45 : decode cX6_digest 45 = .ok (.bipush 24, 2) := by decide +kernel
theorem dX6_digest_47 : decode cX6_digest 47 = .ok (.iaload, 1) := by decide +kernel
theorem dX6_digest_48 : decode cX6_digest 48 = .ok (.i2l, 1) := by decide +kernel
theorem dX6_digest_49 : decode cX6_digest 49 = .ok (.invokevirtual 216, 3) := by decide +kernel
theorem dX6_digest_52 : decode cX6_digest 52 = .ok (.iconst 0, 1) := by decide +kernel
theorem dX6_digest_53 : decode cX6_digest 53 = .ok (.istore_n 1, 1) := by decide +kernel
theorem dX6_digest_54 : decode cX6_digest 54 = .ok (.iload_n 1, 1) := by decide +kernel
theorem dX6_digest_55 : decode cX6_digest 55 = .ok (.bipush 8, 2) := by decide +kernel
theorem dX6_digest_57 : decode cX6_digest 57 = .ok (.if_icmp .ge 73, 3) := by decide +kernel
theorem dX6_digest_60 : decode cX6_digest 60 = .ok (.iconst 0, 1) := by decide +kernel
theorem dX6_digest_61 : decode cX6_digest 61 = .ok (.istore_n 2, 1) := by decide +kernel
theorem dX6_digest_62 : decode cX6_digest 62 = .ok (.iload_n 2, 1) := by decide +kernel
theorem dX6_digest_63 : decode cX6_digest 63 = .ok (.bipush 6, 2) := by decide +kernel
theorem dX6_digest_65 : decode cX6_digest 65 = .ok (.if_icmp .ge 20, 3) := by decide +kernel
theorem dX6_digest_68 : decode cX6_digest 68 = .ok (.aload_n 0, 1) := by decide +kernel
theorem dX6_digest_69 : decode cX6_digest 69 = .ok (.aload_n 0, 1) := by decide +kernel
theorem dX6_digest_70 : decode cX6_digest 70 = .ok (.iload_n 1, 1) := by decide +kernel
theorem dX6_digest_71 : decode cX6_digest 71 = .ok (.iload_n 2, 1) := by decide +kernel
theorem dX6_digest_72 : decode cX6_digest 72 = .ok (.invokevirtual 166, 3) := by decide +kernel
theorem dX6_digest_75 : decode cX6_digest 75 = .ok (.i2l, 1) := by decide +kernel
theorem dX6_digest_76 : decode cX6_digest 76 = .ok (.invokevirtual 216, 3) := by decide +kernel
theorem dX6_digest_79 : decode cX6_digest 79 = .ok (.iinc 2 1, 3) := by decide +kernel
theorem dX6_digest_82 : decode cX6_digest 82 = .ok (.goto (-20), 3) := by decide +kernel
theorem dX6_digest_85 : decode cX6_digest 85 = .ok (.iconst 0, 1) := by decide +kernel
theorem dX6_digest_86 : decode cX6_digest 86 = .ok (.istore_n 2, 1) := by decide +kernel
theorem dX6_digest_87 : decode cX6_digest 87 = .ok (.iload_n 2, 1) := by decide +kernel
theorem dX6_digest_88 : decode cX6_digest 88 = .ok (.aload_n 0, 1) := by decide +kernel
theorem dX6_digest_89 : decode cX6_digest 89 = .ok (.iload_n 1, 1) := by decide +kernel
theorem dX6_digest_90 : decode cX6_digest 90 = .ok (.iconst 0, 1) := by decide +kernel
theorem dX6_digest_91 : decode cX6_digest 91 = .ok (.invokevirtual 166, 3) := by decide +kernel
theorem dX6_digest_94 : decode cX6_digest 94 = .ok (.if_icmp .ge 20, 3) := by decide +kernel
theorem dX6_digest_97 : decode cX6_digest 97 = .ok (.aload_n 0, 1) := by decide +kernel
theorem dX6_digest_98 : decode cX6_digest 98 = .ok (.aload_n 0, 1) := by decide +kernel
theorem dX6_digest_99 : decode cX6_digest 99 = .ok (.iload_n 1, 1) := by decide +kernel
theorem dX6_digest_100 : decode cX6_digest 100 = .ok (.iload_n 2, 1) := by decide +kernel
theorem dX6_digest_101 : decode cX6_digest 101 = .ok (.invokevirtual 169, 3) := by decide +kernel
theorem dX6_digest_104 : decode cX6_digest 104 = .ok (.i2l, 1) := by decide +kernel
theorem dX6_digest_105 : decode cX6_digest 105 = .ok (.invokevirtual 216, 3) := by decide +kernel
theorem dX6_digest_108 : decode cX6_digest 108 = .ok (.iinc 2 1, 3) := by decide +kernel
theorem dX6_digest_111 : decode cX6_digest 111 = .ok (.goto (-24), 3) := by decide +kernel
theorem dX6_digest_114 : decode cX6_digest 114 = .ok (.aload_n 0, 1) := by decide +kernel
theorem dX6_digest_115 : decode cX6_digest 115 = .ok (.aload_n 0, 1) := by decide +kernel
theorem dX6_digest_116 : decode cX6_digest 116 = .ok (.iload_n 1, 1) := by decide +kernel
theorem dX6_digest_117 : decode cX6_digest 117 = .ok (.invokevirtual 184, 3) := by decide +kernel
theorem dX6_digest_120 : decode cX6_digest 120 = .ok (.i2l, 1) := by decide +kernel
theorem dX6_digest_121 : decode cX6_digest 121 = .ok (.invokevirtual 216, 3) := by decide +kernel
theorem dX6_digest_124 : decode cX6_digest 124 = .ok (.iinc 1 1, 3) := by decide +kernel
theorem dX6_digest_127 : decode cX6_digest 127 = .ok (.goto (-73), 3) := by decide +kernel
theorem dX6_digest_130 : decode cX6_digest 130 = .ok (.iconst 0, 1) := by decide +kernel
theorem dX6_digest_131 : decode cX6_digest 131 = .ok (.istore_n 1, 1) := by decide +kernel
theorem dX6_digest_132 : decode cX6_digest 132 = .ok (.iload_n 1, 1) := by decide +kernel
theorem dX6_digest_133 : decode cX6_digest 133 = .ok (.aload_n 0, 1) := by decide +kernel
theorem dX6_digest_134 : decode cX6_digest 134 = .ok (.getfield 76, 3) := by decide +kernel
theorem dX6_digest_137 : decode cX6_digest 137 = .ok (.if_icmp .ge 34, 3) := by decide +kernel
theorem dX6_digest_140 : decode cX6_digest 140 = .ok (.iconst 0, 1) := by decide +kernel
theorem dX6_digest_141 : decode cX6_digest 141 = .ok (.istore_n 2, 1) := by decide +kernel
theorem dX6_digest_142 : decode cX6_digest 142 = .ok (.iload_n 2, 1) := by decide +kernel
theorem dX6_digest_143 : decode cX6_digest 143 = .ok (.bipush 9, 2) := by decide +kernel
theorem dX6_digest_145 : decode cX6_digest 145 = .ok (.if_icmp .ge 20, 3) := by decide +kernel
theorem dX6_digest_148 : decode cX6_digest 148 = .ok (.aload_n 0, 1) := by decide +kernel
theorem dX6_digest_149 : decode cX6_digest 149 = .ok (.aload_n 0, 1) := by decide +kernel
theorem dX6_digest_150 : decode cX6_digest 150 = .ok (.iload_n 1, 1) := by decide +kernel
theorem dX6_digest_151 : decode cX6_digest 151 = .ok (.iload_n 2, 1) := by decide +kernel
theorem dX6_digest_152 : decode cX6_digest 152 = .ok (.invokevirtual 172, 3) := by decide +kernel
theorem dX6_digest_155 : decode cX6_digest 155 = .ok (.i2l, 1) := by decide +kernel
theorem dX6_digest_156 : decode cX6_digest 156 = .ok (.invokevirtual 216, 3) := by decide +kernel
theorem dX6_digest_159 : decode cX6_digest 159 = .ok (.iinc 2 1, 3) := by decide +kernel
theorem dX6_digest_162 : decode cX6_digest 162 = .ok (.goto (-20), 3) := by decide +kernel
theorem dX6_digest_165 : decode cX6_digest 165 = .ok (.iinc 1 1, 3) := by decide +kernel
theorem dX6_digest_168 : decode cX6_digest 168 = .ok (.goto (-36), 3) := by decide +kernel
theorem dX6_digest_171 : decode cX6_digest 171 = .ok (.iconst 0, 1) := by decide +kernel
theorem dX6_digest_172 : decode cX6_digest 172 = .ok (.istore_n 1, 1) := by decide +kernel
theorem dX6_digest_173 : decode cX6_digest 173 = .ok (.iload_n 1, 1) := by decide +kernel
theorem dX6_digest_174 : decode cX6_digest 174 = .ok (.iconst 4, 1) := by decide +kernel
theorem dX6_digest_175 : decode cX6_digest 175 = .ok (.if_icmp .ge 33, 3) := by decide +kernel
theorem dX6_digest_178 : decode cX6_digest 178 = .ok (.iconst 0, 1) := by decide +kernel
theorem dX6_digest_179 : decode cX6_digest 179 = .ok (.istore_n 2, 1) := by decide +kernel
theorem dX6_digest_180 : decode cX6_digest 180 = .ok (.iload_n 2, 1) := by decide +kernel
theorem dX6_digest_181 : decode cX6_digest 181 = .ok (.iconst 4, 1) := by decide +kernel
theorem dX6_digest_182 : decode cX6_digest 182 = .ok (.if_icmp .ge 20, 3) := by decide +kernel
theorem dX6_digest_185 : decode cX6_digest 185 = .ok (.aload_n 0, 1) := by decide +kernel
theorem dX6_digest_186 : decode cX6_digest 186 = .ok (.aload_n 0, 1) := by decide +kernel
theorem dX6_digest_187 : decode cX6_digest 187 = .ok (.iload_n 1, 1) := by decide +kernel
theorem dX6_digest_188 : decode cX6_digest 188 = .ok (.iload_n 2, 1) := by decide +kernel
theorem dX6_digest_189 : decode cX6_digest 189 = .ok (.invokevirtual 181, 3) := by decide +kernel
theorem dX6_digest_192 : decode cX6_digest 192 = .ok (.i2l, 1) := by decide +kernel
theorem dX6_digest_193 : decode cX6_digest 193 = .ok (.invokevirtual 216, 3) := by decide +kernel
theorem dX6_digest_196 : decode cX6_digest 196 = .ok (.iinc 2 1, 3) := by decide +kernel
theorem dX6_digest_199 : decode cX6_digest 199 = .ok (.goto (-19), 3) := by decide +kernel
theorem dX6_digest_202 : decode cX6_digest 202 = .ok (.iinc 1 1, 3) := by decide +kernel
theorem dX6_digest_205 : decode cX6_digest 205 = .ok (.goto (-32), 3) := by decide +kernel
theorem dX6_digest_208 : decode cX6_digest 208 = .ok (.iconst 0, 1) := by decide +kernel
theorem dX6_digest_209 : decode cX6_digest 209 = .ok (.istore_n 1, 1) := by decide +kernel
theorem dX6_digest_210 : decode cX6_digest 210 = .ok (.iload_n 1, 1) := by decide +kernel
theorem dX6_digest_211 : decode cX6_digest 211 = .ok (.iconst 4, 1) := by decide +kernel
theorem dX6_digest_212 : decode cX6_digest 212 = .ok (.if_icmp .ge 21, 3) := by decide +kernel
theorem dX6_digest_215 : decode cX6_digest 215 = .ok (.aload_n 0, 1) := by decide +kernel
