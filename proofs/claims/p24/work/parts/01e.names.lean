theorem dL_add_54 : decode cL_add 54 = .ok (.bipush 7, 2) := by decide +kernel
theorem dL_add_56 : decode cL_add 56 = .ok (.iload 4, 2) := by decide +kernel
theorem dL_add_58 : decode cL_add 58 = .ok (.imul, 1) := by decide +kernel
theorem dL_add_59 : decode cL_add 59 = .ok (.iadd, 1) := by decide +kernel
theorem dL_add_60 : decode cL_add 60 = .ok (.ishr, 1) := by decide +kernel
theorem dL_add_61 : decode cL_add 61 = .ok (.iconst 3, 1) := by decide +kernel
theorem dL_add_62 : decode cL_add 62 = .ok (.invokestatic 14, 3) := by decide +kernel
theorem dL_add_65 : decode cL_add 65 = .ok (.iadd, 1) := by decide +kernel
theorem dL_add_66 : decode cL_add 66 = .ok (.invokevirtual 20, 3) := by decide +kernel
theorem dL_add_69 : decode cL_add 69 = .ok (.istore_n 2, 1) := by decide +kernel
theorem dL_add_70 : decode cL_add 70 = .ok (.iinc 6 1, 3) := by decide +kernel
theorem dL_add_73 : decode cL_add 73 = .ok (.goto (-34), 3) := by decide +kernel
theorem dL_add_76 : decode cL_add 76 = .ok (.iload 4, 2) := by decide +kernel
theorem dL_add_78 : decode cL_add 78 = .ok (.iload_n 3, 1) := by decide +kernel
theorem dL_add_79 : decode cL_add 79 = .ok (.iconst 1, 1) := by decide +kernel
theorem dL_add_80 : decode cL_add 80 = .ok (.isub, 1) := by decide +kernel
theorem dL_add_81 : decode cL_add 81 = .ok (.if_icmp .ge 10, 3) := by decide +kernel
theorem dL_add_84 : decode cL_add 84 = .ok (.aload_n 0, 1) := by decide +kernel
theorem dL_add_85 : decode cL_add 85 = .ok (.bipush 59, 2) := by decide +kernel
theorem dL_add_87 : decode cL_add 87 = .ok (.invokevirtual 20, 3) := by decide +kernel
theorem dL_add_90 : decode cL_add 90 = .ok (.istore_n 2, 1) := by decide +kernel
theorem dL_add_91 : decode cL_add 91 = .ok (.iinc 4 1, 3) := by decide +kernel
theorem dL_add_94 : decode cL_add 94 = .ok (.goto (-80), 3) := by decide +kernel
theorem dL_add_97 : decode cL_add 97 = .ok (.aload_n 0, 1) := by decide +kernel
theorem dL_add_98 : decode cL_add 98 = .ok (.iconst 0, 1) := by decide +kernel
theorem dL_add_99 : decode cL_add 99 = .ok (.invokevirtual 24, 3) := by decide +kernel
theorem dL_add_102 : decode cL_add 102 = .ok (.iload_n 3, 1) := by decide +kernel
theorem dL_add_103 : decode cL_add 103 = .ok (.iadd, 1) := by decide +kernel
theorem dL_add_104 : decode cL_add 104 = .ok (.bipush 8, 2) := by decide +kernel
theorem dL_add_106 : decode cL_add 106 = .ok (.if_icmp .gt 8, 3) := by decide +kernel
theorem dL_add_109 : decode cL_add 109 = .ok (.aload_n 0, 1) := by decide +kernel
theorem dL_add_110 : decode cL_add 110 = .ok (.invokevirtual 27, 3) := by decide +kernel
theorem dL_add_113 : decode cL_add 113 = .ok (.istore_n 2, 1) := by decide +kernel
theorem dL_add_114 : decode cL_add 114 = .ok (.return_, 1) := by decide +kernel
set_option maxRecDepth 20000 in
theorem ggL_does_L_add : GoodIn wsL_does wsL_add := goodIn_ca (goodIn_ca (goodIn_r _ [4, 5, 6, 7, 8, 9, 10, 11, 12, 13, 14, 15, 16, 17, 18, 19, 3, 20, 21, 22, 23, 24, 25, 26, 27, 28, 29, 30, 31, 32, 33, 34, 35, 36, 37, 38, 39, 40, 41, 42, 43, 44, 45, 46, 47, 48, 49, 50, 51, 52, 53, 54, 55, 56, 57, 58, 59, 60, 61, 62, 63, 64, 65, 66, 67, 68, 69, 70, 71, 72, 73, 74, 75, 76, 77, 78, 79, 80, 81, 82, 83, 84, 85, 86, 87, 88, 89, 90, 91, 92, 93, 94, 95, 96, 97, 98, 99, 100, 101, 102, 103, 104, 105, 106, 107, 108, 109, 110, 111, 112, 113, 114, 115, 116, 117, 118, 119, 120, 121, 122, 123, 124, 125, 126, 127, 128, 129, 130, 131, 132, 133, 134, 135, 136, 137, 138, 139, 140, 141, 142, 143, 144, 145, 146, 147, 148, 149, 150, 151, 152, 153, 154, 155, 156, 157, 158, 159, 160, 161, 162, 163, 164, 165, 166, 167, 168, 169, 170, 171, 172, 173, 174, 175, 176, 177, 178, 179, 180, 181, 182, 183, 184, 185, 186, 290, 291, 292, 293, 294, 295, 296, 297, 298, 299, 300, 301, 302, 303, 304, 305, 306, 307, 308, 309, 310, 311, 312, 313, 314] (by decide +kernel) (by decide +kernel)) (goodIn_sub (fun _ h => List.mem_cons_of_mem _ (List.mem_append_left _ (List.mem_append_left _ (List.mem_append_right _ h)))) (by decide +kernel))) (goodIn_sub (fun _ h => List.mem_cons_of_mem _ (List.mem_append_left _ (List.mem_append_right _ h))) (by decide +kernel))
set_option maxRecDepth 20000 in
theorem gL_does_L_add : GoodIn wsL_does (va_wsS RL 30 yL_add wsL_add) := goodIn_app (goodIn_of _ (by decide +kernel)) ggL_does_L_add
set_option maxRecDepth 20000 in
theorem ggL_does_X5_pattern : GoodIn wsL_does wsX5_pattern := goodIn_ca (goodIn_ca (goodIn_r _ [190, 191, 192, 26, 27, 193, 194, 8, 195, 196, 197, 198, 199, 47, 200, 201, 45, 59, 60, 61, 62, 63, 64, 65, 66, 97, 78, 79, 80, 72, 73, 74, 75, 76, 77, 81, 82, 83, 84, 85, 86, 87, 88, 89, 90, 91, 92, 202, 203, 204, 205, 206, 207, 208, 209, 171, 172, 210, 211, 212, 213, 214, 215, 216, 217, 218, 219, 290, 291, 292, 293, 294, 302, 303, 304, 305, 306, 307, 308, 309, 310, 311, 297, 298, 299, 300, 301] (by decide +kernel) (by decide +kernel)) (goodIn_sub (fun _ h => List.mem_cons_of_mem _ (List.mem_append_right _ h)) (by decide +kernel))) (goodIn_sub (fun _ h => List.mem_cons_of_mem _ (List.mem_append_left _ (List.mem_append_left _ (List.mem_append_right _ h)))) (by decide +kernel))
set_option maxRecDepth 20000 in
theorem gL_does_X5_pattern : GoodIn wsL_does (wsV RL 33 RX5 yX5_pattern wsX5_pattern) := goodIn_app (goodIn_of _ (by decide +kernel)) ggL_does_X5_pattern
set_option maxRecDepth 20000 in
theorem ggL_does_X5_remove : GoodIn wsL_does wsX5_remove := goodIn_ca (goodIn_ca (goodIn_r _ [223, 191, 192, 28, 29, 53, 47, 200, 63, 45, 193, 194, 8, 195, 59, 60, 61, 62, 64, 65, 66, 132, 133, 134, 135, 136, 137, 138, 139, 140, 141, 142, 143, 144, 145, 146, 147, 148, 149, 150, 151, 152, 153, 154, 155, 156, 157, 158, 35, 36, 123, 224, 225, 226, 227, 159, 160, 161, 75, 162, 163, 164, 165, 166, 167, 168, 169, 77, 78, 79, 80, 170, 171, 172, 84, 173, 174, 175, 176, 92, 177, 86, 87, 178, 179, 180, 181, 182, 88, 89, 90, 91, 183, 184, 185, 186, 290, 291, 292, 293, 294, 302, 303, 304, 305, 306, 307, 308, 309, 310, 311, 312, 313, 314, 297, 298, 299, 300, 301] (by decide +kernel) (by decide +kernel)) (goodIn_sub (fun _ h => List.mem_cons_of_mem _ (List.mem_append_right _ h)) (by decide +kernel))) (goodIn_sub (fun _ h => List.mem_cons_of_mem _ (List.mem_append_left _ (List.mem_append_right _ h))) (by decide +kernel))
set_option maxRecDepth 20000 in
theorem gL_does_X5_remove : GoodIn wsL_does (wsV RL 36 RX5 yX5_remove wsX5_remove) := goodIn_app (goodIn_of _ (by decide +kernel)) ggL_does_X5_remove
set_option maxRecDepth 20000 in
theorem ggL_does_L_low : GoodIn wsL_does wsL_low := goodIn_r _ [20, 21] (by decide +kernel) (by decide +kernel)
set_option maxRecDepth 20000 in
theorem gL_does_L_low : GoodIn wsL_does (va_wsS RL 14 yL_low wsL_low) := goodIn_app (goodIn_of _ (by decide +kernel)) ggL_does_L_low
set_option maxRecDepth 20000 in
theorem ggL_does_X5_rule : GoodIn wsL_does wsX5_rule := goodIn_ca (goodIn_r _ [231, 26, 27, 53, 47, 232, 132, 133, 134, 135, 136, 137, 138, 139, 140, 141, 142, 143, 144, 145, 146, 147, 148, 149, 150, 151, 152, 153, 154, 155, 156, 157, 158, 65, 8, 66, 35, 36, 290, 291, 292, 293, 294, 302, 303, 304, 305, 306, 307, 308, 309, 310, 311, 312, 313, 314] (by decide +kernel) (by decide +kernel)) (goodIn_sub (fun _ h => List.mem_cons_of_mem _ (List.mem_append_left _ (List.mem_append_left _ (List.mem_append_right _ h)))) (by decide +kernel))
set_option maxRecDepth 20000 in
theorem gL_does_X5_rule : GoodIn wsL_does (wsV RL 39 RX5 yX5_rule wsX5_rule) := goodIn_app (goodIn_of _ (by decide +kernel)) ggL_does_X5_rule
set_option maxRecDepth 20000 in
theorem ggL_does_X5_begin : GoodIn wsL_does wsX5_begin := goodIn_r _ [236, 53, 47, 48, 132, 133, 134, 135, 136, 137, 138, 139, 140, 141, 142, 143, 144, 145, 146, 147, 148, 149, 150, 151, 152, 153, 154, 155, 156, 157, 158, 65, 8, 66, 35, 36, 237, 238, 239, 240, 241, 225, 226, 227, 290, 291, 292, 293, 294, 302, 303, 304, 305, 306, 307, 308, 309, 310, 311, 312, 313, 314] (by decide +kernel) (by decide +kernel)
set_option maxRecDepth 20000 in
theorem gL_does_X5_begin : GoodIn wsL_does (wsV RL 42 RX5 yX5_begin wsX5_begin) := goodIn_app (goodIn_of _ (by decide +kernel)) ggL_does_X5_begin
set_option maxRecDepth 20000 in
theorem ggL_does_X5_feed : GoodIn wsL_does wsX5_feed := goodIn_ca (goodIn_ca (goodIn_r _ [245, 26, 27, 28, 29, 47, 48, 53, 246, 247, 8, 248, 132, 133, 134, 135, 136, 137, 138, 139, 140, 141, 142, 143, 144, 145, 146, 147, 148, 149, 150, 151, 152, 153, 154, 155, 156, 157, 158, 65, 66, 35, 36, 249, 250, 251, 252, 45, 50, 71, 67, 68, 69, 70, 72, 73, 74, 75, 76, 77, 78, 79, 80, 81, 82, 83, 84, 85, 86, 87, 88, 89, 90, 91, 92, 253, 254, 255, 256, 257, 258, 232, 64, 59, 60, 61, 62, 63, 97, 259, 260, 261, 262, 182, 263, 264, 265, 266, 169, 267, 125, 126, 268, 269, 270, 271, 272, 273, 274, 275, 276, 277, 278, 279, 124, 280, 281, 282, 213, 214, 215, 283, 284, 285, 286, 287, 288, 289, 290, 291, 292, 293, 294, 302, 303, 304, 305, 306, 307, 308, 309, 310, 311, 312, 313, 314, 297, 298, 299, 300, 301] (by decide +kernel) (by decide +kernel)) (goodIn_sub (fun _ h => List.mem_cons_of_mem _ (List.mem_append_left _ (List.mem_append_left _ (List.mem_append_right _ h)))) (by decide +kernel))) (goodIn_sub (fun _ h => List.mem_cons_of_mem _ (List.mem_append_left _ (List.mem_append_right _ h))) (by decide +kernel))
set_option maxRecDepth 20000 in
theorem gL_does_X5_feed : GoodIn wsL_does (wsV RL 45 RX5 yX5_feed wsX5_feed) := goodIn_app (goodIn_of _ (by decide +kernel)) ggL_does_X5_feed
theorem dL_does_0 : decode cL_does 0 = .ok (.iconst 0, 1) := by decide +kernel
theorem dL_does_1 : decode cL_does 1 = .ok (.istore_n 2, 1) := by decide +kernel
theorem dL_does_2 : decode cL_does 2 = .ok (.iload_n 1, 1) := by decide +kernel
theorem dL_does_3 : decode cL_does 3 = .ok (.bipush 15, 2) := by decide +kernel
theorem dL_does_5 : decode cL_does 5 = .ok (.iand, 1) := by decide +kernel
theorem dL_does_6 : decode cL_does 6 = .ok (.tableswitch 118 0 4 #[34, 34, 44, 82, 97], 34) := by decide +kernel
theorem dL_does_40 : decode cL_does 40 = .ok (.aload_n 0, 1) := by decide +kernel
theorem dL_does_41 : decode cL_does 41 = .ok (.iload_n 1, 1) := by decide +kernel
theorem dL_does_42 : decode cL_does 42 = .ok (.iconst 4, 1) := by decide +kernel
theorem dL_does_43 : decode cL_does 43 = .ok (.ishr, 1) := by decide +kernel
theorem dL_does_44 : decode cL_does 44 = .ok (.invokestatic 30, 3) := by decide +kernel
theorem dL_does_47 : decode cL_does 47 = .ok (.goto 89, 3) := by decide +kernel
theorem dL_does_50 : decode cL_does 50 = .ok (.iload_n 1, 1) := by decide +kernel
theorem dL_does_51 : decode cL_does 51 = .ok (.iconst 4, 1) := by decide +kernel
theorem dL_does_52 : decode cL_does 52 = .ok (.ishr, 1) := by decide +kernel
theorem dL_does_53 : decode cL_does 53 = .ok (.bipush 7, 2) := by decide +kernel
theorem dL_does_55 : decode cL_does 55 = .ok (.iand, 1) := by decide +kernel
theorem dL_does_56 : decode cL_does 56 = .ok (.istore_n 3, 1) := by decide +kernel
theorem dL_does_57 : decode cL_does 57 = .ok (.iload_n 1, 1) := by decide +kernel
theorem dL_does_58 : decode cL_does 58 = .ok (.bipush 7, 2) := by decide +kernel
theorem dL_does_60 : decode cL_does 60 = .ok (.ishr, 1) := by decide +kernel
theorem dL_does_61 : decode cL_does 61 = .ok (.iconst 1, 1) := by decide +kernel
theorem dL_does_62 : decode cL_does 62 = .ok (.iand, 1) := by decide +kernel
theorem dL_does_63 : decode cL_does 63 = .ok (.ifCond .ne 20, 3) := by decide +kernel
theorem dL_does_66 : decode cL_does 66 = .ok (.aload_n 0, 1) := by decide +kernel
theorem dL_does_67 : decode cL_does 67 = .ok (.iload_n 3, 1) := by decide +kernel
theorem dL_does_68 : decode cL_does 68 = .ok (.iconst 0, 1) := by decide +kernel
theorem dL_does_69 : decode cL_does 69 = .ok (.invokevirtual 33, 3) := by decide +kernel
theorem dL_does_72 : decode cL_does 72 = .ok (.ifCond .le 11, 3) := by decide +kernel
theorem dL_does_75 : decode cL_does 75 = .ok (.aload_n 0, 1) := by decide +kernel
theorem dL_does_76 : decode cL_does 76 = .ok (.iload_n 3, 1) := by decide +kernel
theorem dL_does_77 : decode cL_does 77 = .ok (.invokevirtual 36, 3) := by decide +kernel
theorem dL_does_80 : decode cL_does 80 = .ok (.goto 4, 3) := by decide +kernel
theorem dL_does_83 : decode cL_does 83 = .ok (.iconst 0, 1) := by decide +kernel
theorem dL_does_84 : decode cL_does 84 = .ok (.istore_n 2, 1) := by decide +kernel
theorem dL_does_85 : decode cL_does 85 = .ok (.goto 51, 3) := by decide +kernel
theorem dL_does_88 : decode cL_does 88 = .ok (.aload_n 0, 1) := by decide +kernel
theorem dL_does_89 : decode cL_does 89 = .ok (.iload_n 1, 1) := by decide +kernel
theorem dL_does_90 : decode cL_does 90 = .ok (.iconst 4, 1) := by decide +kernel
theorem dL_does_91 : decode cL_does 91 = .ok (.ishr, 1) := by decide +kernel
theorem dL_does_92 : decode cL_does 92 = .ok (.iconst 3, 1) := by decide +kernel
theorem dL_does_93 : decode cL_does 93 = .ok (.invokestatic 14, 3) := by decide +kernel
theorem dL_does_96 : decode cL_does 96 = .ok (.invokevirtual 39, 3) := by decide +kernel
theorem dL_does_99 : decode cL_does 99 = .ok (.istore_n 2, 1) := by decide +kernel
theorem dL_does_100 : decode cL_does 100 = .ok (.goto 36, 3) := by decide +kernel
theorem dL_does_103 : decode cL_does 103 = .ok (.iload_n 1, 1) := by decide +kernel
theorem dL_does_104 : decode cL_does 104 = .ok (.iconst 4, 1) := by decide +kernel
theorem dL_does_105 : decode cL_does 105 = .ok (.ishr, 1) := by decide +kernel
theorem dL_does_106 : decode cL_does 106 = .ok (.bipush 7, 2) := by decide +kernel
theorem dL_does_108 : decode cL_does 108 = .ok (.iand, 1) := by decide +kernel
theorem dL_does_109 : decode cL_does 109 = .ok (.ifCond .ne 10, 3) := by decide +kernel
theorem dL_does_112 : decode cL_does 112 = .ok (.aload_n 0, 1) := by decide +kernel
theorem dL_does_113 : decode cL_does 113 = .ok (.invokevirtual 42, 3) := by decide +kernel
theorem dL_does_116 : decode cL_does 116 = .ok (.goto 4, 3) := by decide +kernel
theorem dL_does_119 : decode cL_does 119 = .ok (.iconst 0, 1) := by decide +kernel
theorem dL_does_120 : decode cL_does 120 = .ok (.istore_n 2, 1) := by decide +kernel
theorem dL_does_121 : decode cL_does 121 = .ok (.goto 15, 3) := by decide +kernel
theorem dL_does_124 : decode cL_does 124 = .ok (.aload_n 0, 1) := by decide +kernel
theorem dL_does_125 : decode cL_does 125 = .ok (.iload_n 1, 1) := by decide +kernel
theorem dL_does_126 : decode cL_does 126 = .ok (.iconst 4, 1) := by decide +kernel
theorem dL_does_127 : decode cL_does 127 = .ok (.ishr, 1) := by decide +kernel
theorem dL_does_128 : decode cL_does 128 = .ok (.iconst 3, 1) := by decide +kernel
theorem dL_does_129 : decode cL_does 129 = .ok (.invokestatic 14, 3) := by decide +kernel
theorem dL_does_132 : decode cL_does 132 = .ok (.invokevirtual 45, 3) := by decide +kernel
theorem dL_does_135 : decode cL_does 135 = .ok (.istore_n 2, 1) := by decide +kernel
theorem dL_does_136 : decode cL_does 136 = .ok (.return_, 1) := by decide +kernel
set_option maxRecDepth 20000 in
theorem ggL_areStatesSo_X5_count : GoodIn wsL_areStatesSo wsX5_count := goodIn_ca (goodIn_r _ [5, 6, 7, 8, 9, 10, 4, 11, 12, 13, 14, 15, 16, 17, 18, 19, 20, 21, 22, 23, 24, 25, 26, 27, 28, 29, 30, 31, 32, 33, 34, 35, 36, 37, 38, 39, 40, 41, 42, 43, 44, 45, 46, 47, 48, 49, 50, 51, 52, 53, 54, 55, 56, 57, 58, 59, 60, 61, 62, 63, 64, 125, 126, 127, 128, 129, 130, 131, 132, 133, 134, 135, 136, 137, 138, 139, 140, 141, 142, 143, 144, 145, 146, 147] (by decide +kernel) (by decide +kernel)) (goodIn_sub (fun _ h => List.mem_cons_of_mem _ (List.mem_append_left _ (List.mem_append_right _ h))) (by decide +kernel))
set_option maxRecDepth 20000 in
theorem gL_areStatesSo_X5_count : GoodIn wsL_areStatesSo (wsV RL 24 RX5 yX5_count wsX5_count) := goodIn_app (goodIn_of _ (by decide +kernel)) ggL_areStatesSo_X5_count
set_option maxRecDepth 20000 in
theorem ggL_areStatesSo_X5_state : GoodIn wsL_areStatesSo wsX5_state := goodIn_ca (goodIn_ca (goodIn_r _ [68, 69, 70, 6, 7, 12, 13, 71, 72, 73, 4, 74, 75, 76, 77, 31, 32, 33, 64, 45, 46, 47, 78, 53, 54, 79, 80, 81, 82, 26, 27, 28, 29, 14, 30, 83, 84, 85, 51, 86, 56, 57, 42, 58, 59, 125, 126, 127, 128, 129, 130, 131, 132, 133, 134, 135, 136, 137, 138, 139, 140, 141, 142, 143, 144] (by decide +kernel) (by decide +kernel)) (goodIn_sub (fun _ h => List.mem_cons_of_mem _ (List.mem_append_right _ h)) (by decide +kernel))) (goodIn_sub (fun _ h => List.mem_cons_of_mem _ (List.mem_append_left _ (List.mem_append_right _ h))) (by decide +kernel))
set_option maxRecDepth 20000 in
theorem gL_areStatesSo_X5_state : GoodIn wsL_areStatesSo (wsV RL 48 RX5 yX5_state wsX5_state) := goodIn_app (goodIn_of _ (by decide +kernel)) ggL_areStatesSo_X5_state
set_option maxRecDepth 20000 in
theorem ggL_areStatesSo_X5_pattern : GoodIn wsL_areStatesSo wsX5_pattern := goodIn_ca (goodIn_ca (goodIn_r _ [90, 69, 70, 6, 7, 91, 92, 4, 93, 94, 95, 96, 97, 14, 98, 99, 12, 26, 27, 28, 29, 30, 31, 32, 33, 64, 45, 46, 47, 39, 40, 41, 42, 43, 44, 48, 49, 50, 51, 52, 53, 54, 55, 56, 57, 58, 59, 100, 101, 102, 103, 104, 105, 106, 107, 108, 109, 110, 111, 112, 113, 114, 115, 116, 117, 118, 119, 125, 126, 127, 128, 129, 135, 136, 137, 138, 139, 140, 141, 142, 143, 144, 130, 131, 132, 133, 134] (by decide +kernel) (by decide +kernel)) (goodIn_sub (fun _ h => List.mem_cons_of_mem _ (List.mem_append_right _ h)) (by decide +kernel))) (goodIn_sub (fun _ h => List.mem_cons_of_mem _ (List.mem_append_left _ (List.mem_append_right _ h))) (by decide +kernel))
set_option maxRecDepth 20000 in
theorem gL_areStatesSo_X5_pattern : GoodIn wsL_areStatesSo (wsV RL 33 RX5 yX5_pattern wsX5_pattern) := goodIn_app (goodIn_of _ (by decide +kernel)) ggL_areStatesSo_X5_pattern
set_option maxRecDepth 20000 in
theorem ggL_areStatesSo_X5_letter : GoodIn wsL_areStatesSo wsX5_letter := goodIn_ca (goodIn_ca (goodIn_r _ [123, 69, 70, 6, 7, 91, 92, 4, 93, 26, 27, 28, 29, 14, 30, 31, 32, 33, 124, 49, 46, 50, 51, 45, 47, 52, 53, 54, 125, 126, 127, 128, 129, 135, 136, 137, 138, 139, 140, 141, 142, 143, 144] (by decide +kernel) (by decide +kernel)) (goodIn_sub (fun _ h => List.mem_cons_of_mem _ (List.mem_append_right _ h)) (by decide +kernel))) (goodIn_sub (fun _ h => List.mem_cons_of_mem _ (List.mem_append_left _ (List.mem_append_right _ h))) (by decide +kernel))
set_option maxRecDepth 20000 in
theorem gL_areStatesSo_X5_letter : GoodIn wsL_areStatesSo (wsV RL 51 RX5 yX5_letter wsX5_letter) := goodIn_app (goodIn_of _ (by decide +kernel)) ggL_areStatesSo_X5_letter
theorem dL_areStatesSo_0 : decode cL_areStatesSo 0 = .ok (.aload_n 0, 1) := by decide +kernel
theorem dL_areStatesSo_1 : decode cL_areStatesSo 1 = .ok (.iconst 1, 1) := by decide +kernel
theorem dL_areStatesSo_2 : decode cL_areStatesSo 2 = .ok (.invokevirtual 24, 3) := by decide +kernel
theorem dL_areStatesSo_5 : decode cL_areStatesSo 5 = .ok (.istore_n 1, 1) := by decide +kernel
theorem dL_areStatesSo_6 : decode cL_areStatesSo 6 = .ok (.iload_n 1, 1) := by decide +kernel
theorem dL_areStatesSo_7 : decode cL_areStatesSo 7 = .ok (.aload_n 0, 1) := by decide +kernel
theorem dL_areStatesSo_8 : decode cL_areStatesSo 8 = .ok (.bipush 8, 2) := by decide +kernel
theorem dL_areStatesSo_10 : decode cL_areStatesSo 10 = .ok (.invokevirtual 24, 3) := by decide +kernel
theorem dL_areStatesSo_13 : decode cL_areStatesSo 13 = .ok (.iconst 1, 1) := by decide +kernel
theorem dL_areStatesSo_14 : decode cL_areStatesSo 14 = .ok (.iadd, 1) := by decide +kernel
theorem dL_areStatesSo_15 : decode cL_areStatesSo 15 = .ok (.if_icmp .gt 49, 3) := by decide +kernel
theorem dL_areStatesSo_18 : decode cL_areStatesSo 18 = .ok (.aload_n 0, 1) := by decide +kernel
theorem dL_areStatesSo_19 : decode cL_areStatesSo 19 = .ok (.iconst 0, 1) := by decide +kernel
theorem dL_areStatesSo_20 : decode cL_areStatesSo 20 = .ok (.iconst 4, 1) := by decide +kernel
theorem dL_areStatesSo_21 : decode cL_areStatesSo 21 = .ok (.invokevirtual 48, 3) := by decide +kernel
theorem dL_areStatesSo_24 : decode cL_areStatesSo 24 = .ok (.aload_n 0, 1) := by decide +kernel
theorem dL_areStatesSo_25 : decode cL_areStatesSo 25 = .ok (.iconst 0, 1) := by decide +kernel
theorem dL_areStatesSo_26 : decode cL_areStatesSo 26 = .ok (.invokevirtual 24, 3) := by decide +kernel
theorem dL_areStatesSo_29 : decode cL_areStatesSo 29 = .ok (.if_icmp .ne 35, 3) := by decide +kernel
theorem dL_areStatesSo_32 : decode cL_areStatesSo 32 = .ok (.aload_n 0, 1) := by decide +kernel
theorem dL_areStatesSo_33 : decode cL_areStatesSo 33 = .ok (.iconst 0, 1) := by decide +kernel
theorem dL_areStatesSo_34 : decode cL_areStatesSo 34 = .ok (.iconst 2, 1) := by decide +kernel
theorem dL_areStatesSo_35 : decode cL_areStatesSo 35 = .ok (.invokevirtual 48, 3) := by decide +kernel
theorem dL_areStatesSo_38 : decode cL_areStatesSo 38 = .ok (.iconst (-1), 1) := by decide +kernel
theorem dL_areStatesSo_39 : decode cL_areStatesSo 39 = .ok (.if_icmp .ne 25, 3) := by decide +kernel
theorem dL_areStatesSo_42 : decode cL_areStatesSo 42 = .ok (.aload_n 0, 1) := by decide +kernel
theorem dL_areStatesSo_43 : decode cL_areStatesSo 43 = .ok (.iconst 0, 1) := by decide +kernel
theorem dL_areStatesSo_44 : decode cL_areStatesSo 44 = .ok (.iconst 0, 1) := by decide +kernel
theorem dL_areStatesSo_45 : decode cL_areStatesSo 45 = .ok (.invokevirtual 48, 3) := by decide +kernel
theorem dL_areStatesSo_48 : decode cL_areStatesSo 48 = .ok (.ifCond .ne 16, 3) := by decide +kernel
theorem dL_areStatesSo_51 : decode cL_areStatesSo 51 = .ok (.aload_n 0, 1) := by decide +kernel
theorem dL_areStatesSo_52 : decode cL_areStatesSo 52 = .ok (.iconst 2, 1) := by decide +kernel
theorem dL_areStatesSo_53 : decode cL_areStatesSo 53 = .ok (.invokevirtual 24, 3) := by decide +kernel
theorem dL_areStatesSo_56 : decode cL_areStatesSo 56 = .ok (.iload_n 1, 1) := by decide +kernel
theorem dL_areStatesSo_57 : decode cL_areStatesSo 57 = .ok (.if_icmp .ge 7, 3) := by decide +kernel
theorem dL_areStatesSo_60 : decode cL_areStatesSo 60 = .ok (.iconst 1, 1) := by decide +kernel
theorem dL_areStatesSo_61 : decode cL_areStatesSo 61 = .ok (.goto 4, 3) := by decide +kernel
theorem dL_areStatesSo_64 : decode cL_areStatesSo 64 = .ok (.iconst 0, 1) := by decide +kernel
theorem dL_areStatesSo_65 : decode cL_areStatesSo 65 = .ok (.istore_n 2, 1) := by decide +kernel
theorem dL_areStatesSo_66 : decode cL_areStatesSo 66 = .ok (.iconst 1, 1) := by decide +kernel
theorem dL_areStatesSo_67 : decode cL_areStatesSo 67 = .ok (.istore_n 3, 1) := by decide +kernel
theorem dL_areStatesSo_68 : decode cL_areStatesSo 68 = .ok (.iload_n 3, 1) := by decide +kernel
theorem dL_areStatesSo_69 : decode cL_areStatesSo 69 = .ok (.iload_n 1, 1) := by decide +kernel
theorem dL_areStatesSo_70 : decode cL_areStatesSo 70 = .ok (.if_icmp .ge 225, 3) := by decide +kernel
theorem dL_areStatesSo_73 : decode cL_areStatesSo 73 = .ok (.aload_n 0, 1) := by decide +kernel
theorem dL_areStatesSo_74 : decode cL_areStatesSo 74 = .ok (.iload_n 3, 1) := by decide +kernel
theorem dL_areStatesSo_75 : decode cL_areStatesSo 75 = .ok (.iconst 0, 1) := by decide +kernel
theorem dL_areStatesSo_76 : decode cL_areStatesSo 76 = .ok (.invokevirtual 48, 3) := by decide +kernel
theorem dL_areStatesSo_79 : decode cL_areStatesSo 79 = .ok (.istore 4, 2) := by decide +kernel
theorem dL_areStatesSo_81 : decode cL_areStatesSo 81 = .ok (.aload_n 0, 1) := by decide +kernel
theorem dL_areStatesSo_82 : decode cL_areStatesSo 82 = .ok (.iload_n 3, 1) := by decide +kernel
theorem dL_areStatesSo_83 : decode cL_areStatesSo 83 = .ok (.iconst 2, 1) := by decide +kernel
theorem dL_areStatesSo_84 : decode cL_areStatesSo 84 = .ok (.invokevirtual 48, 3) := by decide +kernel
theorem dL_areStatesSo_87 : decode cL_areStatesSo 87 = .ok (.istore 5, 2) := by decide +kernel
theorem dL_areStatesSo_89 : decode cL_areStatesSo 89 = .ok (.iload_n 2, 1) := by decide +kernel
theorem dL_areStatesSo_90 : decode cL_areStatesSo 90 = .ok (.ifCond .eq 66, 3) := by decide +kernel
theorem dL_areStatesSo_93 : decode cL_areStatesSo 93 = .ok (.iload 4, 2) := by decide +kernel
theorem dL_areStatesSo_95 : decode cL_areStatesSo 95 = .ok (.aload_n 0, 1) := by decide +kernel
theorem dL_areStatesSo_96 : decode cL_areStatesSo 96 = .ok (.iload_n 3, 1) := by decide +kernel
theorem dL_areStatesSo_97 : decode cL_areStatesSo 97 = .ok (.iconst 1, 1) := by decide +kernel
theorem dL_areStatesSo_98 : decode cL_areStatesSo 98 = .ok (.isub, 1) := by decide +kernel
theorem dL_areStatesSo_99 : decode cL_areStatesSo 99 = .ok (.iconst 0, 1) := by decide +kernel
theorem dL_areStatesSo_100 : decode cL_areStatesSo 100 = .ok (.invokevirtual 48, 3) := by decide +kernel
theorem dL_areStatesSo_103 : decode cL_areStatesSo 103 = .ok (.if_icmp .lt 53, 3) := by decide +kernel
theorem dL_areStatesSo_106 : decode cL_areStatesSo 106 = .ok (.iload 5, 2) := by decide +kernel
theorem dL_areStatesSo_108 : decode cL_areStatesSo 108 = .ok (.iload_n 3, 1) := by decide +kernel
theorem dL_areStatesSo_109 : decode cL_areStatesSo 109 = .ok (.if_icmp .ge 47, 3) := by decide +kernel
theorem dL_areStatesSo_112 : decode cL_areStatesSo 112 = .ok (.aload_n 0, 1) := by decide +kernel
theorem dL_areStatesSo_113 : decode cL_areStatesSo 113 = .ok (.iload 5, 2) := by decide +kernel
theorem dL_areStatesSo_115 : decode cL_areStatesSo 115 = .ok (.iconst 0, 1) := by decide +kernel
theorem dL_areStatesSo_116 : decode cL_areStatesSo 116 = .ok (.invokevirtual 48, 3) := by decide +kernel
theorem dL_areStatesSo_119 : decode cL_areStatesSo 119 = .ok (.iload 4, 2) := by decide +kernel
theorem dL_areStatesSo_121 : decode cL_areStatesSo 121 = .ok (.if_icmp .ge 35, 3) := by decide +kernel
theorem dL_areStatesSo_124 : decode cL_areStatesSo 124 = .ok (.aload_n 0, 1) := by decide +kernel
theorem dL_areStatesSo_125 : decode cL_areStatesSo 125 = .ok (.iload_n 3, 1) := by decide +kernel
theorem dL_areStatesSo_126 : decode cL_areStatesSo 126 = .ok (.iconst 4, 1) := by decide +kernel
theorem dL_areStatesSo_127 : decode cL_areStatesSo 127 = .ok (.invokevirtual 48, 3) := by decide +kernel
theorem dL_areStatesSo_130 : decode cL_areStatesSo 130 = .ok (.ifCond .le 26, 3) := by decide +kernel
theorem dL_areStatesSo_133 : decode cL_areStatesSo 133 = .ok (.aload_n 0, 1) := by decide +kernel
theorem dL_areStatesSo_134 : decode cL_areStatesSo 134 = .ok (.iload 5, 2) := by decide +kernel
theorem dL_areStatesSo_136 : decode cL_areStatesSo 136 = .ok (.iconst 3, 1) := by decide +kernel
theorem dL_areStatesSo_137 : decode cL_areStatesSo 137 = .ok (.invokevirtual 48, 3) := by decide +kernel
theorem dL_areStatesSo_140 : decode cL_areStatesSo 140 = .ok (.aload_n 0, 1) := by decide +kernel
theorem dL_areStatesSo_141 : decode cL_areStatesSo 141 = .ok (.iload_n 3, 1) := by decide +kernel
theorem dL_areStatesSo_142 : decode cL_areStatesSo 142 = .ok (.iconst 3, 1) := by decide +kernel
theorem dL_areStatesSo_143 : decode cL_areStatesSo 143 = .ok (.invokevirtual 48, 3) := by decide +kernel
theorem dL_areStatesSo_146 : decode cL_areStatesSo 146 = .ok (.iconst (-1), 1) := by decide +kernel
theorem dL_areStatesSo_147 : decode cL_areStatesSo 147 = .ok (.ixor, 1) := by decide +kernel
theorem dL_areStatesSo_148 : decode cL_areStatesSo 148 = .ok (.iand, 1) := by decide +kernel
theorem dL_areStatesSo_149 : decode cL_areStatesSo 149 = .ok (.ifCond .ne 7, 3) := by decide +kernel
theorem dL_areStatesSo_152 : decode cL_areStatesSo 152 = .ok (.iconst 1, 1) := by decide +kernel
theorem dL_areStatesSo_153 : decode cL_areStatesSo 153 = .ok (.goto 4, 3) := by decide +kernel
theorem dL_areStatesSo_156 : decode cL_areStatesSo 156 = .ok (.iconst 0, 1) := by decide +kernel
theorem dL_areStatesSo_157 : decode cL_areStatesSo 157 = .ok (.istore_n 2, 1) := by decide +kernel
theorem dL_areStatesSo_158 : decode cL_areStatesSo 158 = .ok (.iload_n 2, 1) := by decide +kernel
theorem dL_areStatesSo_159 : decode cL_areStatesSo 159 = .ok (.ifCond .eq 28, 3) := by decide +kernel
theorem dL_areStatesSo_162 : decode cL_areStatesSo 162 = .ok (.iload 5, 2) := by decide +kernel
theorem dL_areStatesSo_164 : decode cL_areStatesSo 164 = .ok (.ifCond .eq 19, 3) := by decide +kernel
theorem dL_areStatesSo_167 : decode cL_areStatesSo 167 = .ok (.aload_n 0, 1) := by decide +kernel
theorem dL_areStatesSo_168 : decode cL_areStatesSo 168 = .ok (.iload 5, 2) := by decide +kernel
theorem dL_areStatesSo_170 : decode cL_areStatesSo 170 = .ok (.iconst 1, 1) := by decide +kernel
theorem dL_areStatesSo_171 : decode cL_areStatesSo 171 = .ok (.invokevirtual 48, 3) := by decide +kernel
theorem dL_areStatesSo_174 : decode cL_areStatesSo 174 = .ok (.aload_n 0, 1) := by decide +kernel
theorem dL_areStatesSo_175 : decode cL_areStatesSo 175 = .ok (.iload_n 3, 1) := by decide +kernel
theorem dL_areStatesSo_176 : decode cL_areStatesSo 176 = .ok (.iconst 1, 1) := by decide +kernel
theorem dL_areStatesSo_177 : decode cL_areStatesSo 177 = .ok (.invokevirtual 48, 3) := by decide +kernel
theorem dL_areStatesSo_180 : decode cL_areStatesSo 180 = .ok (.if_icmp .ne 7, 3) := by decide +kernel
theorem dL_areStatesSo_183 : decode cL_areStatesSo 183 = .ok (.iconst 1, 1) := by decide +kernel
theorem dL_areStatesSo_184 : decode cL_areStatesSo 184 = .ok (.goto 4, 3) := by decide +kernel
theorem dL_areStatesSo_187 : decode cL_areStatesSo 187 = .ok (.iconst 0, 1) := by decide +kernel
theorem dL_areStatesSo_188 : decode cL_areStatesSo 188 = .ok (.istore_n 2, 1) := by decide +kernel
theorem dL_areStatesSo_189 : decode cL_areStatesSo 189 = .ok (.iconst 0, 1) := by decide +kernel
theorem dL_areStatesSo_190 : decode cL_areStatesSo 190 = .ok (.istore 6, 2) := by decide +kernel
theorem dL_areStatesSo_192 : decode cL_areStatesSo 192 = .ok (.iload 6, 2) := by decide +kernel
theorem dL_areStatesSo_194 : decode cL_areStatesSo 194 = .ok (.iconst 4, 1) := by decide +kernel
theorem dL_areStatesSo_195 : decode cL_areStatesSo 195 = .ok (.if_icmp .ge 94, 3) := by decide +kernel
theorem dL_areStatesSo_198 : decode cL_areStatesSo 198 = .ok (.aload_n 0, 1) := by decide +kernel
theorem dL_areStatesSo_199 : decode cL_areStatesSo 199 = .ok (.iload_n 3, 1) := by decide +kernel
theorem dL_areStatesSo_200 : decode cL_areStatesSo 200 = .ok (.iconst 5, 1) := by decide +kernel
theorem dL_areStatesSo_201 : decode cL_areStatesSo 201 = .ok (.iload 6, 2) := by decide +kernel
theorem dL_areStatesSo_203 : decode cL_areStatesSo 203 = .ok (.iadd, 1) := by decide +kernel
theorem dL_areStatesSo_204 : decode cL_areStatesSo 204 = .ok (.invokevirtual 48, 3) := by decide +kernel
theorem dL_areStatesSo_207 : decode cL_areStatesSo 207 = .ok (.istore 7, 2) := by decide +kernel
theorem dL_areStatesSo_209 : decode cL_areStatesSo 209 = .ok (.aload_n 0, 1) := by decide +kernel
theorem dL_areStatesSo_210 : decode cL_areStatesSo 210 = .ok (.iload 5, 2) := by decide +kernel
theorem dL_areStatesSo_212 : decode cL_areStatesSo 212 = .ok (.iconst 5, 1) := by decide +kernel
theorem dL_areStatesSo_213 : decode cL_areStatesSo 213 = .ok (.iload 6, 2) := by decide +kernel
theorem dL_areStatesSo_215 : decode cL_areStatesSo 215 = .ok (.iadd, 1) := by decide +kernel
theorem dL_areStatesSo_216 : decode cL_areStatesSo 216 = .ok (.invokevirtual 48, 3) := by decide +kernel
theorem dL_areStatesSo_219 : decode cL_areStatesSo 219 = .ok (.istore 8, 2) := by decide +kernel
theorem dL_areStatesSo_221 : decode cL_areStatesSo 221 = .ok (.iload_n 2, 1) := by decide +kernel
theorem dL_areStatesSo_222 : decode cL_areStatesSo 222 = .ok (.ifCond .eq 59, 3) := by decide +kernel
theorem dL_areStatesSo_225 : decode cL_areStatesSo 225 = .ok (.aload_n 0, 1) := by decide +kernel
theorem dL_areStatesSo_226 : decode cL_areStatesSo 226 = .ok (.iload 7, 2) := by decide +kernel
theorem dL_areStatesSo_228 : decode cL_areStatesSo 228 = .ok (.iconst 0, 1) := by decide +kernel
theorem dL_areStatesSo_229 : decode cL_areStatesSo 229 = .ok (.invokevirtual 48, 3) := by decide +kernel
theorem dL_areStatesSo_232 : decode cL_areStatesSo 232 = .ok (.iload 4, 2) := by decide +kernel
theorem dL_areStatesSo_234 : decode cL_areStatesSo 234 = .ok (.iconst 1, 1) := by decide +kernel
theorem dL_areStatesSo_235 : decode cL_areStatesSo 235 = .ok (.iadd, 1) := by decide +kernel
theorem dL_areStatesSo_236 : decode cL_areStatesSo 236 = .ok (.if_icmp .gt 45, 3) := by decide +kernel
theorem dL_areStatesSo_239 : decode cL_areStatesSo 239 = .ok (.iload 7, 2) := by decide +kernel
theorem dL_areStatesSo_241 : decode cL_areStatesSo 241 = .ok (.ifCond .eq 15, 3) := by decide +kernel
theorem dL_areStatesSo_244 : decode cL_areStatesSo 244 = .ok (.aload_n 0, 1) := by decide +kernel
theorem dL_areStatesSo_245 : decode cL_areStatesSo 245 = .ok (.iload 7, 2) := by decide +kernel
theorem dL_areStatesSo_247 : decode cL_areStatesSo 247 = .ok (.iconst 1, 1) := by decide +kernel
theorem dL_areStatesSo_248 : decode cL_areStatesSo 248 = .ok (.invokevirtual 48, 3) := by decide +kernel
theorem dL_areStatesSo_251 : decode cL_areStatesSo 251 = .ok (.iload 6, 2) := by decide +kernel
theorem dL_areStatesSo_253 : decode cL_areStatesSo 253 = .ok (.if_icmp .ne 28, 3) := by decide +kernel
theorem dL_areStatesSo_256 : decode cL_areStatesSo 256 = .ok (.aload_n 0, 1) := by decide +kernel
theorem dL_areStatesSo_257 : decode cL_areStatesSo 257 = .ok (.iload 7, 2) := by decide +kernel
theorem dL_areStatesSo_259 : decode cL_areStatesSo 259 = .ok (.iconst 0, 1) := by decide +kernel
theorem dL_areStatesSo_260 : decode cL_areStatesSo 260 = .ok (.invokevirtual 48, 3) := by decide +kernel
theorem dL_areStatesSo_263 : decode cL_areStatesSo 263 = .ok (.iload 4, 2) := by decide +kernel
theorem dL_areStatesSo_265 : decode cL_areStatesSo 265 = .ok (.iconst 1, 1) := by decide +kernel
theorem dL_areStatesSo_266 : decode cL_areStatesSo 266 = .ok (.iadd, 1) := by decide +kernel
theorem dL_areStatesSo_267 : decode cL_areStatesSo 267 = .ok (.if_icmp .eq 10, 3) := by decide +kernel
theorem dL_areStatesSo_270 : decode cL_areStatesSo 270 = .ok (.iload 7, 2) := by decide +kernel
theorem dL_areStatesSo_272 : decode cL_areStatesSo 272 = .ok (.iload 8, 2) := by decide +kernel
theorem dL_areStatesSo_274 : decode cL_areStatesSo 274 = .ok (.if_icmp .ne 7, 3) := by decide +kernel
theorem dL_areStatesSo_277 : decode cL_areStatesSo 277 = .ok (.iconst 1, 1) := by decide +kernel
theorem dL_areStatesSo_278 : decode cL_areStatesSo 278 = .ok (.goto 4, 3) := by decide +kernel
theorem dL_areStatesSo_281 : decode cL_areStatesSo 281 = .ok (.iconst 0, 1) := by decide +kernel
theorem dL_areStatesSo_282 : decode cL_areStatesSo 282 = .ok (.istore_n 2, 1) := by decide +kernel
theorem dL_areStatesSo_283 : decode cL_areStatesSo 283 = .ok (.iinc 6 1, 3) := by decide +kernel
theorem dL_areStatesSo_286 : decode cL_areStatesSo 286 = .ok (.goto (-94), 3) := by decide +kernel
theorem dL_areStatesSo_289 : decode cL_areStatesSo 289 = .ok (.iinc 3 1, 3) := by decide +kernel
theorem dL_areStatesSo_292 : decode cL_areStatesSo 292 = .ok (.goto (-224), 3) := by decide +kernel
theorem dL_areStatesSo_295 : decode cL_areStatesSo 295 = .ok (.iconst 0, 1) := by decide +kernel
theorem dL_areStatesSo_296 : decode cL_areStatesSo 296 = .ok (.istore_n 3, 1) := by decide +kernel
theorem dL_areStatesSo_297 : decode cL_areStatesSo 297 = .ok (.iload_n 3, 1) := by decide +kernel
theorem dL_areStatesSo_298 : decode cL_areStatesSo 298 = .ok (.bipush 8, 2) := by decide +kernel
theorem dL_areStatesSo_300 : decode cL_areStatesSo 300 = .ok (.if_icmp .ge 149, 3) := by decide +kernel
theorem dL_areStatesSo_303 : decode cL_areStatesSo 303 = .ok (.aload_n 0, 1) := by decide +kernel
theorem dL_areStatesSo_304 : decode cL_areStatesSo 304 = .ok (.iload_n 3, 1) := by decide +kernel
theorem dL_areStatesSo_305 : decode cL_areStatesSo 305 = .ok (.iconst 3, 1) := by decide +kernel
theorem dL_areStatesSo_306 : decode cL_areStatesSo 306 = .ok (.invokevirtual 33, 3) := by decide +kernel
theorem dL_areStatesSo_309 : decode cL_areStatesSo 309 = .ok (.istore 4, 2) := by decide +kernel
theorem dL_areStatesSo_311 : decode cL_areStatesSo 311 = .ok (.aload_n 0, 1) := by decide +kernel
theorem dL_areStatesSo_312 : decode cL_areStatesSo 312 = .ok (.iload_n 3, 1) := by decide +kernel
theorem dL_areStatesSo_313 : decode cL_areStatesSo 313 = .ok (.iconst 0, 1) := by decide +kernel
theorem dL_areStatesSo_314 : decode cL_areStatesSo 314 = .ok (.invokevirtual 33, 3) := by decide +kernel
theorem dL_areStatesSo_317 : decode cL_areStatesSo 317 = .ok (.ifCond .le 7, 3) := by decide +kernel
theorem dL_areStatesSo_320 : decode cL_areStatesSo 320 = .ok (.iconst 1, 1) := by decide +kernel
theorem dL_areStatesSo_321 : decode cL_areStatesSo 321 = .ok (.goto 4, 3) := by decide +kernel
theorem dL_areStatesSo_324 : decode cL_areStatesSo 324 = .ok (.iconst 0, 1) := by decide +kernel
theorem dL_areStatesSo_325 : decode cL_areStatesSo 325 = .ok (.istore 5, 2) := by decide +kernel
theorem dL_areStatesSo_327 : decode cL_areStatesSo 327 = .ok (.iload_n 2, 1) := by decide +kernel
theorem dL_areStatesSo_328 : decode cL_areStatesSo 328 = .ok (.ifCond .eq 58, 3) := by decide +kernel
theorem dL_areStatesSo_331 : decode cL_areStatesSo 331 = .ok (.iload 5, 2) := by decide +kernel
theorem dL_areStatesSo_333 : decode cL_areStatesSo 333 = .ok (.iload 4, 2) := by decide +kernel
theorem dL_areStatesSo_335 : decode cL_areStatesSo 335 = .ok (.ifCond .le 7, 3) := by decide +kernel
theorem dL_areStatesSo_338 : decode cL_areStatesSo 338 = .ok (.iconst 1, 1) := by decide +kernel
theorem dL_areStatesSo_339 : decode cL_areStatesSo 339 = .ok (.goto 4, 3) := by decide +kernel
theorem dL_areStatesSo_342 : decode cL_areStatesSo 342 = .ok (.iconst 0, 1) := by decide +kernel
theorem dL_areStatesSo_343 : decode cL_areStatesSo 343 = .ok (.if_icmp .ne 43, 3) := by decide +kernel
theorem dL_areStatesSo_346 : decode cL_areStatesSo 346 = .ok (.iload 5, 2) := by decide +kernel
theorem dL_areStatesSo_348 : decode cL_areStatesSo 348 = .ok (.ifCond .eq 34, 3) := by decide +kernel
theorem dL_areStatesSo_351 : decode cL_areStatesSo 351 = .ok (.aload_n 0, 1) := by decide +kernel
theorem dL_areStatesSo_352 : decode cL_areStatesSo 352 = .ok (.iload 4, 2) := by decide +kernel
theorem dL_areStatesSo_354 : decode cL_areStatesSo 354 = .ok (.iconst 0, 1) := by decide +kernel
theorem dL_areStatesSo_355 : decode cL_areStatesSo 355 = .ok (.invokevirtual 48, 3) := by decide +kernel
theorem dL_areStatesSo_358 : decode cL_areStatesSo 358 = .ok (.aload_n 0, 1) := by decide +kernel
theorem dL_areStatesSo_359 : decode cL_areStatesSo 359 = .ok (.iload_n 3, 1) := by decide +kernel
theorem dL_areStatesSo_360 : decode cL_areStatesSo 360 = .ok (.iconst 0, 1) := by decide +kernel
theorem dL_areStatesSo_361 : decode cL_areStatesSo 361 = .ok (.invokevirtual 33, 3) := by decide +kernel
theorem dL_areStatesSo_364 : decode cL_areStatesSo 364 = .ok (.if_icmp .ne 22, 3) := by decide +kernel
theorem dL_areStatesSo_367 : decode cL_areStatesSo 367 = .ok (.aload_n 0, 1) := by decide +kernel
theorem dL_areStatesSo_368 : decode cL_areStatesSo 368 = .ok (.iload 4, 2) := by decide +kernel
theorem dL_areStatesSo_370 : decode cL_areStatesSo 370 = .ok (.iconst 3, 1) := by decide +kernel
theorem dL_areStatesSo_371 : decode cL_areStatesSo 371 = .ok (.invokevirtual 48, 3) := by decide +kernel
theorem dL_areStatesSo_374 : decode cL_areStatesSo 374 = .ok (.iload_n 3, 1) := by decide +kernel
theorem dL_areStatesSo_375 : decode cL_areStatesSo 375 = .ok (.ishr, 1) := by decide +kernel
theorem dL_areStatesSo_376 : decode cL_areStatesSo 376 = .ok (.iconst 1, 1) := by decide +kernel
theorem dL_areStatesSo_377 : decode cL_areStatesSo 377 = .ok (.iand, 1) := by decide +kernel
theorem dL_areStatesSo_378 : decode cL_areStatesSo 378 = .ok (.iconst 1, 1) := by decide +kernel
theorem dL_areStatesSo_379 : decode cL_areStatesSo 379 = .ok (.if_icmp .ne 7, 3) := by decide +kernel
theorem dL_areStatesSo_382 : decode cL_areStatesSo 382 = .ok (.iconst 1, 1) := by decide +kernel
theorem dL_areStatesSo_383 : decode cL_areStatesSo 383 = .ok (.goto 4, 3) := by decide +kernel
theorem dL_areStatesSo_386 : decode cL_areStatesSo 386 = .ok (.iconst 0, 1) := by decide +kernel
theorem dL_areStatesSo_387 : decode cL_areStatesSo 387 = .ok (.istore_n 2, 1) := by decide +kernel
theorem dL_areStatesSo_388 : decode cL_areStatesSo 388 = .ok (.iload 5, 2) := by decide +kernel
theorem dL_areStatesSo_390 : decode cL_areStatesSo 390 = .ok (.ifCond .eq 14, 3) := by decide +kernel
theorem dL_areStatesSo_393 : decode cL_areStatesSo 393 = .ok (.aload_n 0, 1) := by decide +kernel
theorem dL_areStatesSo_394 : decode cL_areStatesSo 394 = .ok (.iload_n 3, 1) := by decide +kernel
theorem dL_areStatesSo_395 : decode cL_areStatesSo 395 = .ok (.iconst 0, 1) := by decide +kernel
theorem dL_areStatesSo_396 : decode cL_areStatesSo 396 = .ok (.invokevirtual 33, 3) := by decide +kernel
theorem dL_areStatesSo_399 : decode cL_areStatesSo 399 = .ok (.iconst 1, 1) := by decide +kernel
theorem dL_areStatesSo_400 : decode cL_areStatesSo 400 = .ok (.isub, 1) := by decide +kernel
theorem dL_areStatesSo_401 : decode cL_areStatesSo 401 = .ok (.goto 4, 3) := by decide +kernel
theorem dL_areStatesSo_404 : decode cL_areStatesSo 404 = .ok (.iconst 0, 1) := by decide +kernel
theorem dL_areStatesSo_405 : decode cL_areStatesSo 405 = .ok (.istore 6, 2) := by decide +kernel
theorem dL_areStatesSo_407 : decode cL_areStatesSo 407 = .ok (.iload_n 2, 1) := by decide +kernel
theorem dL_areStatesSo_408 : decode cL_areStatesSo 408 = .ok (.ifCond .eq 33, 3) := by decide +kernel
theorem dL_areStatesSo_411 : decode cL_areStatesSo 411 = .ok (.aload_n 0, 1) := by decide +kernel
theorem dL_areStatesSo_412 : decode cL_areStatesSo 412 = .ok (.iload_n 3, 1) := by decide +kernel
theorem dL_areStatesSo_413 : decode cL_areStatesSo 413 = .ok (.iload 6, 2) := by decide +kernel
theorem dL_areStatesSo_415 : decode cL_areStatesSo 415 = .ok (.invokevirtual 51, 3) := by decide +kernel
theorem dL_areStatesSo_418 : decode cL_areStatesSo 418 = .ok (.iload 5, 2) := by decide +kernel
theorem dL_areStatesSo_420 : decode cL_areStatesSo 420 = .ok (.ifCond .eq 13, 3) := by decide +kernel
theorem dL_areStatesSo_423 : decode cL_areStatesSo 423 = .ok (.aload_n 0, 1) := by decide +kernel
theorem dL_areStatesSo_424 : decode cL_areStatesSo 424 = .ok (.iload 4, 2) := by decide +kernel
theorem dL_areStatesSo_426 : decode cL_areStatesSo 426 = .ok (.iconst 1, 1) := by decide +kernel
theorem dL_areStatesSo_427 : decode cL_areStatesSo 427 = .ok (.invokevirtual 48, 3) := by decide +kernel
theorem dL_areStatesSo_430 : decode cL_areStatesSo 430 = .ok (.goto 4, 3) := by decide +kernel
theorem dL_areStatesSo_433 : decode cL_areStatesSo 433 = .ok (.iconst (-1), 1) := by decide +kernel
theorem dL_areStatesSo_434 : decode cL_areStatesSo 434 = .ok (.if_icmp .ne 7, 3) := by decide +kernel
theorem dL_areStatesSo_437 : decode cL_areStatesSo 437 = .ok (.iconst 1, 1) := by decide +kernel
theorem dL_areStatesSo_438 : decode cL_areStatesSo 438 = .ok (.goto 4, 3) := by decide +kernel
theorem dL_areStatesSo_441 : decode cL_areStatesSo 441 = .ok (.iconst 0, 1) := by decide +kernel
theorem dL_areStatesSo_442 : decode cL_areStatesSo 442 = .ok (.istore_n 2, 1) := by decide +kernel
theorem dL_areStatesSo_443 : decode cL_areStatesSo 443 = .ok (.iinc 3 1, 3) := by decide +kernel
theorem dL_areStatesSo_446 : decode cL_areStatesSo 446 = .ok (.goto (-149), 3) := by decide +kernel
theorem dL_areStatesSo_449 : decode cL_areStatesSo 449 = .ok (.iload_n 2, 1) := by decide +kernel
theorem dL_areStatesSo_450 : decode cL_areStatesSo 450 = .ok (.ireturn, 1) := by decide +kernel
set_option maxRecDepth 20000 in
theorem ggL_isFedSo_X5_count : GoodIn wsL_isFedSo wsX5_count := goodIn_ca (goodIn_r _ [5, 6, 7, 8, 9, 10, 4, 11, 12, 13, 14, 15, 16, 17, 18, 19, 20, 21, 22, 23, 24, 25, 26, 27, 28, 29, 30, 31, 32, 33, 34, 35, 36, 37, 38, 39, 40, 41, 42, 43, 44, 45, 46, 47, 48, 49, 50, 51, 52, 53, 54, 55, 56, 57, 58, 59, 60, 61, 62, 63, 64, 250, 251, 252, 253, 254, 255, 256, 257, 258, 259, 260, 261, 262, 263, 264, 265, 266, 267, 268, 269, 270, 271, 272] (by decide +kernel) (by decide +kernel)) (goodIn_sub (fun _ h => List.mem_cons_of_mem _ (List.mem_append_left _ (List.mem_append_left _ (List.mem_append_right _ h)))) (by decide +kernel))
set_option maxRecDepth 20000 in
theorem gL_isFedSo_X5_count : GoodIn wsL_isFedSo (wsV RL 24 RX5 yX5_count wsX5_count) := goodIn_app (goodIn_of _ (by decide +kernel)) ggL_isFedSo_X5_count
set_option maxRecDepth 20000 in
theorem ggL_isFedSo_X5_ifFed : GoodIn wsL_isFedSo wsX5_ifFed := goodIn_ca (goodIn_r _ [68, 6, 7, 69, 70, 4, 71, 72, 73, 74, 75, 12, 14, 15, 17, 34, 35, 36, 37, 38, 39, 40, 41, 42, 43, 44, 45, 46, 47, 48, 49, 50, 51, 52, 53, 54, 55, 56, 57, 58, 59, 32, 33, 76, 77, 78, 79, 80, 81, 82, 83, 84, 85, 86, 87, 88, 89, 90, 91, 92, 93, 94, 95, 31, 26, 27, 28, 29, 30, 64, 96, 97, 98, 99, 100, 101, 102, 103, 104, 105, 250, 251, 252, 253, 254, 260, 261, 262, 263, 264, 265, 266, 267, 268, 269, 255, 256, 257, 258, 259] (by decide +kernel) (by decide +kernel)) (goodIn_sub (fun _ h => List.mem_cons_of_mem _ (List.mem_append_left _ (List.mem_append_left _ (List.mem_append_right _ h)))) (by decide +kernel))
set_option maxRecDepth 20000 in
theorem gL_isFedSo_X5_ifFed : GoodIn wsL_isFedSo (wsV RL 54 RX5 yX5_ifFed wsX5_ifFed) := goodIn_app (goodIn_of _ (by decide +kernel)) ggL_isFedSo_X5_ifFed
set_option maxRecDepth 20000 in
theorem ggL_isFedSo_X5_pattern : GoodIn wsL_isFedSo wsX5_pattern := goodIn_ca (goodIn_ca (goodIn_r _ [109, 110, 111, 6, 7, 112, 113, 4, 114, 115, 116, 117, 118, 14, 119, 120, 12, 26, 27, 28, 29, 30, 31, 32, 33, 64, 45, 46, 47, 39, 40, 41, 42, 43, 44, 48, 49, 50, 51, 52, 53, 54, 55, 56, 57, 58, 59, 121, 122, 123, 124, 125, 126, 127, 128, 129, 130, 131, 132, 133, 134, 135, 136, 137, 138, 139, 140, 250, 251, 252, 253, 254, 260, 261, 262, 263, 264, 265, 266, 267, 268, 269, 255, 256, 257, 258, 259] (by decide +kernel) (by decide +kernel)) (goodIn_sub (fun _ h => List.mem_cons_of_mem _ (List.mem_append_left _ (List.mem_append_right _ h))) (by decide +kernel))) (goodIn_sub (fun _ h => List.mem_cons_of_mem _ (List.mem_append_left _ (List.mem_append_left _ (List.mem_append_right _ h)))) (by decide +kernel))
set_option maxRecDepth 20000 in
theorem gL_isFedSo_X5_pattern : GoodIn wsL_isFedSo (wsV RL 33 RX5 yX5_pattern wsX5_pattern) := goodIn_app (goodIn_of _ (by decide +kernel)) ggL_isFedSo_X5_pattern
set_option maxRecDepth 20000 in
theorem ggL_isFedSo_X5_state : GoodIn wsL_isFedSo wsX5_state := goodIn_ca (goodIn_ca (goodIn_r _ [144, 110, 111, 6, 7, 12, 13, 145, 146, 147, 4, 148, 149, 150, 94, 31, 32, 33, 64, 45, 46, 47, 151, 53, 54, 152, 153, 154, 155, 26, 27, 28, 29, 14, 30, 156, 157, 158, 51, 76, 56, 57, 42, 58, 59, 250, 251, 252, 253, 254, 255, 256, 257, 258, 259, 260, 261, 262, 263, 264, 265, 266, 267, 268, 269] (by decide +kernel) (by decide +kernel)) (goodIn_sub (fun _ h => List.mem_cons_of_mem _ (List.mem_append_left _ (List.mem_append_right _ h))) (by decide +kernel))) (goodIn_sub (fun _ h => List.mem_cons_of_mem _ (List.mem_append_left _ (List.mem_append_left _ (List.mem_append_right _ h)))) (by decide +kernel))
set_option maxRecDepth 20000 in
theorem gL_isFedSo_X5_state : GoodIn wsL_isFedSo (wsV RL 48 RX5 yX5_state wsX5_state) := goodIn_app (goodIn_of _ (by decide +kernel)) ggL_isFedSo_X5_state
set_option maxRecDepth 20000 in
theorem ggL_isFedSo_X5_setting : GoodIn wsL_isFedSo wsX5_setting := goodIn_r _ [162, 14, 95, 250, 251, 252, 253, 254, 260, 261, 262, 263, 264, 265, 266, 267, 268, 269] (by decide +kernel) (by decide +kernel)
set_option maxRecDepth 20000 in
theorem gL_isFedSo_X5_setting : GoodIn wsL_isFedSo (wsV RL 57 RX5 yX5_setting wsX5_setting) := goodIn_app (goodIn_of _ (by decide +kernel)) ggL_isFedSo_X5_setting
set_option maxRecDepth 20000 in
theorem ggL_isFedSo_X5_feed : GoodIn wsL_isFedSo wsX5_feed := goodIn_ca (goodIn_ca (goodIn_r _ [166, 6, 7, 167, 168, 14, 15, 20, 69, 70, 4, 71, 169, 170, 171, 172, 173, 174, 175, 176, 177, 178, 179, 180, 181, 182, 183, 184, 185, 186, 187, 188, 189, 190, 191, 192, 193, 194, 195, 32, 33, 196, 197, 198, 199, 200, 201, 12, 17, 38, 34, 35, 36, 37, 39, 40, 41, 42, 43, 44, 45, 46, 47, 48, 49, 50, 51, 52, 53, 54, 55, 56, 57, 58, 59, 76, 90, 91, 92, 93, 94, 95, 31, 26, 27, 28, 29, 30, 64, 77, 78, 79, 80, 81, 82, 83, 84, 85, 86, 87, 88, 89, 202, 203, 204, 205, 206, 207, 208, 209, 210, 211, 212, 213, 214, 215, 216, 217, 134, 135, 136, 96, 97, 98, 99, 100, 101, 102, 250, 251, 252, 253, 254, 260, 261, 262, 263, 264, 265, 266, 267, 268, 269, 270, 271, 272, 255, 256, 257, 258, 259] (by decide +kernel) (by decide +kernel)) (goodIn_sub (fun _ h => List.mem_cons_of_mem _ (List.mem_append_left _ (List.mem_append_left _ (List.mem_append_right _ h)))) (by decide +kernel))) (goodIn_sub (fun _ h => List.mem_cons_of_mem _ (List.mem_append_right _ h)) (by decide +kernel))
set_option maxRecDepth 20000 in
theorem gL_isFedSo_X5_feed : GoodIn wsL_isFedSo (wsV RL 45 RX5 yX5_feed wsX5_feed) := goodIn_app (goodIn_of _ (by decide +kernel)) ggL_isFedSo_X5_feed
set_option maxRecDepth 20000 in
theorem ggL_isFedSo_X5_undo : GoodIn wsL_isFedSo wsX5_undo := goodIn_ca (goodIn_r _ [221, 167, 168, 20, 21, 14, 12, 30, 222, 223, 224, 172, 225, 174, 176, 177, 178, 179, 175, 180, 181, 182, 183, 184, 185, 186, 187, 188, 189, 190, 191, 192, 193, 194, 195, 32, 4, 33, 196, 197, 226, 227, 228, 42, 229, 230, 231, 232, 233, 234, 235, 86, 44, 45, 46, 47, 236, 129, 130, 51, 237, 238, 239, 240, 59, 241, 53, 54, 242, 243, 244, 245, 81, 55, 56, 57, 58, 246, 247, 248, 249, 250, 251, 252, 253, 254, 270, 271, 272, 260, 261, 262, 263, 264, 265, 266, 267, 268, 269, 255, 256, 257, 258, 259] (by decide +kernel) (by decide +kernel)) (goodIn_sub (fun _ h => List.mem_cons_of_mem _ (List.mem_append_right _ h)) (by decide +kernel))
set_option maxRecDepth 20000 in
theorem gL_isFedSo_X5_undo : GoodIn wsL_isFedSo (wsV RL 60 RX5 yX5_undo wsX5_undo) := goodIn_app (goodIn_of _ (by decide +kernel)) ggL_isFedSo_X5_undo
theorem dL_isFedSo_0 : decode cL_isFedSo 0 = .ok (.aload_n 0, 1) := by decide +kernel
theorem dL_isFedSo_1 : decode cL_isFedSo 1 = .ok (.iconst 2, 1) := by decide +kernel
theorem dL_isFedSo_2 : decode cL_isFedSo 2 = .ok (.invokevirtual 24, 3) := by decide +kernel
theorem dL_isFedSo_5 : decode cL_isFedSo 5 = .ok (.istore_n 2, 1) := by decide +kernel
theorem dL_isFedSo_6 : decode cL_isFedSo 6 = .ok (.aload_n 0, 1) := by decide +kernel
theorem dL_isFedSo_7 : decode cL_isFedSo 7 = .ok (.iload_n 1, 1) := by decide +kernel
theorem dL_isFedSo_8 : decode cL_isFedSo 8 = .ok (.iconst 0, 1) := by decide +kernel
theorem dL_isFedSo_9 : decode cL_isFedSo 9 = .ok (.invokevirtual 54, 3) := by decide +kernel
theorem dL_isFedSo_12 : decode cL_isFedSo 12 = .ok (.istore_n 3, 1) := by decide +kernel
theorem dL_isFedSo_13 : decode cL_isFedSo 13 = .ok (.aload_n 0, 1) := by decide +kernel
theorem dL_isFedSo_14 : decode cL_isFedSo 14 = .ok (.iload_n 1, 1) := by decide +kernel
theorem dL_isFedSo_15 : decode cL_isFedSo 15 = .ok (.iconst 1, 1) := by decide +kernel
theorem dL_isFedSo_16 : decode cL_isFedSo 16 = .ok (.invokevirtual 54, 3) := by decide +kernel
theorem dL_isFedSo_19 : decode cL_isFedSo 19 = .ok (.istore 4, 2) := by decide +kernel
theorem dL_isFedSo_21 : decode cL_isFedSo 21 = .ok (.aload_n 0, 1) := by decide +kernel
theorem dL_isFedSo_22 : decode cL_isFedSo 22 = .ok (.iload_n 1, 1) := by decide +kernel
theorem dL_isFedSo_23 : decode cL_isFedSo 23 = .ok (.iconst 2, 1) := by decide +kernel
theorem dL_isFedSo_24 : decode cL_isFedSo 24 = .ok (.invokevirtual 54, 3) := by decide +kernel
theorem dL_isFedSo_27 : decode cL_isFedSo 27 = .ok (.istore 5, 2) := by decide +kernel
theorem dL_isFedSo_29 : decode cL_isFedSo 29 = .ok (.aload_n 0, 1) := by decide +kernel
theorem dL_isFedSo_30 : decode cL_isFedSo 30 = .ok (.iload_n 1, 1) := by decide +kernel
theorem dL_isFedSo_31 : decode cL_isFedSo 31 = .ok (.iconst 3, 1) := by decide +kernel
theorem dL_isFedSo_32 : decode cL_isFedSo 32 = .ok (.invokevirtual 54, 3) := by decide +kernel
theorem dL_isFedSo_35 : decode cL_isFedSo 35 = .ok (.istore 6, 2) := by decide +kernel
theorem dL_isFedSo_37 : decode cL_isFedSo 37 = .ok (.iload 6, 2) := by decide +kernel
theorem dL_isFedSo_39 : decode cL_isFedSo 39 = .ok (.ifCond .lt 13, 3) := by decide +kernel
theorem dL_isFedSo_42 : decode cL_isFedSo 42 = .ok (.aload_n 0, 1) := by decide +kernel
theorem dL_isFedSo_43 : decode cL_isFedSo 43 = .ok (.iload 6, 2) := by decide +kernel
theorem dL_isFedSo_45 : decode cL_isFedSo 45 = .ok (.iconst 1, 1) := by decide +kernel
theorem dL_isFedSo_46 : decode cL_isFedSo 46 = .ok (.invokevirtual 33, 3) := by decide +kernel
theorem dL_isFedSo_49 : decode cL_isFedSo 49 = .ok (.goto 4, 3) := by decide +kernel
theorem dL_isFedSo_52 : decode cL_isFedSo 52 = .ok (.iconst 0, 1) := by decide +kernel
theorem dL_isFedSo_53 : decode cL_isFedSo 53 = .ok (.istore 7, 2) := by decide +kernel
theorem dL_isFedSo_55 : decode cL_isFedSo 55 = .ok (.aload_n 0, 1) := by decide +kernel
theorem dL_isFedSo_56 : decode cL_isFedSo 56 = .ok (.bipush 6, 2) := by decide +kernel
theorem dL_isFedSo_58 : decode cL_isFedSo 58 = .ok (.invokevirtual 24, 3) := by decide +kernel
theorem dL_isFedSo_61 : decode cL_isFedSo 61 = .ok (.istore 8, 2) := by decide +kernel
theorem dL_isFedSo_63 : decode cL_isFedSo 63 = .ok (.aload_n 0, 1) := by decide +kernel
theorem dL_isFedSo_64 : decode cL_isFedSo 64 = .ok (.iconst 3, 1) := by decide +kernel
theorem dL_isFedSo_65 : decode cL_isFedSo 65 = .ok (.invokevirtual 24, 3) := by decide +kernel
theorem dL_isFedSo_68 : decode cL_isFedSo 68 = .ok (.istore 9, 2) := by decide +kernel
theorem dL_isFedSo_70 : decode cL_isFedSo 70 = .ok (.aload_n 0, 1) := by decide +kernel
theorem dL_isFedSo_71 : decode cL_isFedSo 71 = .ok (.iconst 4, 1) := by decide +kernel
theorem dL_isFedSo_72 : decode cL_isFedSo 72 = .ok (.invokevirtual 24, 3) := by decide +kernel
theorem dL_isFedSo_75 : decode cL_isFedSo 75 = .ok (.istore 10, 2) := by decide +kernel
theorem dL_isFedSo_77 : decode cL_isFedSo 77 = .ok (.aload_n 0, 1) := by decide +kernel
theorem dL_isFedSo_78 : decode cL_isFedSo 78 = .ok (.iload_n 2, 1) := by decide +kernel
theorem dL_isFedSo_79 : decode cL_isFedSo 79 = .ok (.iconst 5, 1) := by decide +kernel
theorem dL_isFedSo_80 : decode cL_isFedSo 80 = .ok (.iload_n 1, 1) := by decide +kernel
theorem dL_isFedSo_81 : decode cL_isFedSo 81 = .ok (.iadd, 1) := by decide +kernel
theorem dL_isFedSo_82 : decode cL_isFedSo 82 = .ok (.invokevirtual 48, 3) := by decide +kernel
theorem dL_isFedSo_85 : decode cL_isFedSo 85 = .ok (.iload_n 3, 1) := by decide +kernel
theorem dL_isFedSo_86 : decode cL_isFedSo 86 = .ok (.if_icmp .ne 56, 3) := by decide +kernel
theorem dL_isFedSo_89 : decode cL_isFedSo 89 = .ok (.iload 4, 2) := by decide +kernel
theorem dL_isFedSo_91 : decode cL_isFedSo 91 = .ok (.aload_n 0, 1) := by decide +kernel
theorem dL_isFedSo_92 : decode cL_isFedSo 92 = .ok (.iload_n 2, 1) := by decide +kernel
theorem dL_isFedSo_93 : decode cL_isFedSo 93 = .ok (.iconst 0, 1) := by decide +kernel
theorem dL_isFedSo_94 : decode cL_isFedSo 94 = .ok (.invokevirtual 48, 3) := by decide +kernel
theorem dL_isFedSo_97 : decode cL_isFedSo 97 = .ok (.iconst 1, 1) := by decide +kernel
theorem dL_isFedSo_98 : decode cL_isFedSo 98 = .ok (.iadd, 1) := by decide +kernel
theorem dL_isFedSo_99 : decode cL_isFedSo 99 = .ok (.if_icmp .gt 43, 3) := by decide +kernel
theorem dL_isFedSo_102 : decode cL_isFedSo 102 = .ok (.iload 6, 2) := by decide +kernel
theorem dL_isFedSo_104 : decode cL_isFedSo 104 = .ok (.ifCond .ge 7, 3) := by decide +kernel
theorem dL_isFedSo_107 : decode cL_isFedSo 107 = .ok (.iconst 1, 1) := by decide +kernel
theorem dL_isFedSo_108 : decode cL_isFedSo 108 = .ok (.goto 4, 3) := by decide +kernel
theorem dL_isFedSo_111 : decode cL_isFedSo 111 = .ok (.iconst 0, 1) := by decide +kernel
theorem dL_isFedSo_112 : decode cL_isFedSo 112 = .ok (.iload 5, 2) := by decide +kernel
theorem dL_isFedSo_114 : decode cL_isFedSo 114 = .ok (.ifCond .ne 7, 3) := by decide +kernel
theorem dL_isFedSo_117 : decode cL_isFedSo 117 = .ok (.iconst 1, 1) := by decide +kernel
theorem dL_isFedSo_118 : decode cL_isFedSo 118 = .ok (.goto 4, 3) := by decide +kernel
theorem dL_isFedSo_121 : decode cL_isFedSo 121 = .ok (.iconst 0, 1) := by decide +kernel
theorem dL_isFedSo_122 : decode cL_isFedSo 122 = .ok (.if_icmp .ne 20, 3) := by decide +kernel
theorem dL_isFedSo_125 : decode cL_isFedSo 125 = .ok (.aload_n 0, 1) := by decide +kernel
theorem dL_isFedSo_126 : decode cL_isFedSo 126 = .ok (.invokevirtual 57, 3) := by decide +kernel
theorem dL_isFedSo_129 : decode cL_isFedSo 129 = .ok (.ifCond .eq 9, 3) := by decide +kernel
theorem dL_isFedSo_132 : decode cL_isFedSo 132 = .ok (.iload 5, 2) := by decide +kernel
theorem dL_isFedSo_134 : decode cL_isFedSo 134 = .ok (.iconst 1, 1) := by decide +kernel
theorem dL_isFedSo_135 : decode cL_isFedSo 135 = .ok (.if_icmp .gt 7, 3) := by decide +kernel
theorem dL_isFedSo_138 : decode cL_isFedSo 138 = .ok (.iconst 1, 1) := by decide +kernel
theorem dL_isFedSo_139 : decode cL_isFedSo 139 = .ok (.goto 4, 3) := by decide +kernel
theorem dL_isFedSo_142 : decode cL_isFedSo 142 = .ok (.iconst 0, 1) := by decide +kernel
theorem dL_isFedSo_143 : decode cL_isFedSo 143 = .ok (.istore 11, 2) := by decide +kernel
theorem dL_isFedSo_145 : decode cL_isFedSo 145 = .ok (.iload 11, 2) := by decide +kernel
theorem dL_isFedSo_147 : decode cL_isFedSo 147 = .ok (.ifCond .eq 65, 3) := by decide +kernel
theorem dL_isFedSo_150 : decode cL_isFedSo 150 = .ok (.aload_n 0, 1) := by decide +kernel
theorem dL_isFedSo_151 : decode cL_isFedSo 151 = .ok (.iload_n 1, 1) := by decide +kernel
theorem dL_isFedSo_152 : decode cL_isFedSo 152 = .ok (.invokevirtual 45, 3) := by decide +kernel
theorem dL_isFedSo_155 : decode cL_isFedSo 155 = .ok (.iload 5, 2) := by decide +kernel
theorem dL_isFedSo_157 : decode cL_isFedSo 157 = .ok (.if_icmp .ne 55, 3) := by decide +kernel
theorem dL_isFedSo_160 : decode cL_isFedSo 160 = .ok (.aload_n 0, 1) := by decide +kernel
theorem dL_isFedSo_161 : decode cL_isFedSo 161 = .ok (.iconst 2, 1) := by decide +kernel
theorem dL_isFedSo_162 : decode cL_isFedSo 162 = .ok (.invokevirtual 24, 3) := by decide +kernel
theorem dL_isFedSo_165 : decode cL_isFedSo 165 = .ok (.iload_n 3, 1) := by decide +kernel
theorem dL_isFedSo_166 : decode cL_isFedSo 166 = .ok (.if_icmp .ne 46, 3) := by decide +kernel
theorem dL_isFedSo_169 : decode cL_isFedSo 169 = .ok (.aload_n 0, 1) := by decide +kernel
theorem dL_isFedSo_170 : decode cL_isFedSo 170 = .ok (.bipush 6, 2) := by decide +kernel
theorem dL_isFedSo_172 : decode cL_isFedSo 172 = .ok (.invokevirtual 24, 3) := by decide +kernel
theorem dL_isFedSo_175 : decode cL_isFedSo 175 = .ok (.iload 8, 2) := by decide +kernel
theorem dL_isFedSo_177 : decode cL_isFedSo 177 = .ok (.iload 4, 2) := by decide +kernel
theorem dL_isFedSo_179 : decode cL_isFedSo 179 = .ok (.iadd, 1) := by decide +kernel
theorem dL_isFedSo_180 : decode cL_isFedSo 180 = .ok (.if_icmp .ne 32, 3) := by decide +kernel
theorem dL_isFedSo_183 : decode cL_isFedSo 183 = .ok (.aload_n 0, 1) := by decide +kernel
theorem dL_isFedSo_184 : decode cL_isFedSo 184 = .ok (.iconst 3, 1) := by decide +kernel
theorem dL_isFedSo_185 : decode cL_isFedSo 185 = .ok (.invokevirtual 24, 3) := by decide +kernel
theorem dL_isFedSo_188 : decode cL_isFedSo 188 = .ok (.iload 9, 2) := by decide +kernel
theorem dL_isFedSo_190 : decode cL_isFedSo 190 = .ok (.iconst 1, 1) := by decide +kernel
theorem dL_isFedSo_191 : decode cL_isFedSo 191 = .ok (.iadd, 1) := by decide +kernel
theorem dL_isFedSo_192 : decode cL_isFedSo 192 = .ok (.if_icmp .ne 20, 3) := by decide +kernel
theorem dL_isFedSo_195 : decode cL_isFedSo 195 = .ok (.aload_n 0, 1) := by decide +kernel
theorem dL_isFedSo_196 : decode cL_isFedSo 196 = .ok (.iconst 4, 1) := by decide +kernel
theorem dL_isFedSo_197 : decode cL_isFedSo 197 = .ok (.invokevirtual 24, 3) := by decide +kernel
theorem dL_isFedSo_200 : decode cL_isFedSo 200 = .ok (.iload 10, 2) := by decide +kernel
theorem dL_isFedSo_202 : decode cL_isFedSo 202 = .ok (.iload 5, 2) := by decide +kernel
theorem dL_isFedSo_204 : decode cL_isFedSo 204 = .ok (.iadd, 1) := by decide +kernel
theorem dL_isFedSo_205 : decode cL_isFedSo 205 = .ok (.if_icmp .ne 7, 3) := by decide +kernel
theorem dL_isFedSo_208 : decode cL_isFedSo 208 = .ok (.iconst 1, 1) := by decide +kernel
theorem dL_isFedSo_209 : decode cL_isFedSo 209 = .ok (.goto 4, 3) := by decide +kernel
theorem dL_isFedSo_212 : decode cL_isFedSo 212 = .ok (.iconst 0, 1) := by decide +kernel
theorem dL_isFedSo_213 : decode cL_isFedSo 213 = .ok (.istore 11, 2) := by decide +kernel
theorem dL_isFedSo_215 : decode cL_isFedSo 215 = .ok (.iload 11, 2) := by decide +kernel
theorem dL_isFedSo_217 : decode cL_isFedSo 217 = .ok (.ifCond .eq 48, 3) := by decide +kernel
theorem dL_isFedSo_220 : decode cL_isFedSo 220 = .ok (.iload 6, 2) := by decide +kernel
theorem dL_isFedSo_222 : decode cL_isFedSo 222 = .ok (.ifCond .lt 39, 3) := by decide +kernel
theorem dL_isFedSo_225 : decode cL_isFedSo 225 = .ok (.aload_n 0, 1) := by decide +kernel
theorem dL_isFedSo_226 : decode cL_isFedSo 226 = .ok (.iload 6, 2) := by decide +kernel
theorem dL_isFedSo_228 : decode cL_isFedSo 228 = .ok (.iconst 1, 1) := by decide +kernel
theorem dL_isFedSo_229 : decode cL_isFedSo 229 = .ok (.invokevirtual 33, 3) := by decide +kernel
theorem dL_isFedSo_232 : decode cL_isFedSo 232 = .ok (.iload 7, 2) := by decide +kernel
theorem dL_isFedSo_234 : decode cL_isFedSo 234 = .ok (.iconst 1, 1) := by decide +kernel
theorem dL_isFedSo_235 : decode cL_isFedSo 235 = .ok (.iadd, 1) := by decide +kernel
theorem dL_isFedSo_236 : decode cL_isFedSo 236 = .ok (.if_icmp .ne 29, 3) := by decide +kernel
theorem dL_isFedSo_239 : decode cL_isFedSo 239 = .ok (.aload_n 0, 1) := by decide +kernel
theorem dL_isFedSo_240 : decode cL_isFedSo 240 = .ok (.iload 6, 2) := by decide +kernel
theorem dL_isFedSo_242 : decode cL_isFedSo 242 = .ok (.iconst 2, 1) := by decide +kernel
theorem dL_isFedSo_243 : decode cL_isFedSo 243 = .ok (.invokevirtual 33, 3) := by decide +kernel
theorem dL_isFedSo_246 : decode cL_isFedSo 246 = .ok (.iload 9, 2) := by decide +kernel
theorem dL_isFedSo_248 : decode cL_isFedSo 248 = .ok (.if_icmp .ne 17, 3) := by decide +kernel
theorem dL_isFedSo_251 : decode cL_isFedSo 251 = .ok (.aload_n 0, 1) := by decide +kernel
theorem dL_isFedSo_252 : decode cL_isFedSo 252 = .ok (.iconst 5, 1) := by decide +kernel
theorem dL_isFedSo_253 : decode cL_isFedSo 253 = .ok (.invokevirtual 24, 3) := by decide +kernel
theorem dL_isFedSo_256 : decode cL_isFedSo 256 = .ok (.iload 9, 2) := by decide +kernel
theorem dL_isFedSo_258 : decode cL_isFedSo 258 = .ok (.if_icmp .ne 7, 3) := by decide +kernel
theorem dL_isFedSo_261 : decode cL_isFedSo 261 = .ok (.iconst 1, 1) := by decide +kernel
theorem dL_isFedSo_262 : decode cL_isFedSo 262 = .ok (.goto 4, 3) := by decide +kernel
theorem dL_isFedSo_265 : decode cL_isFedSo 265 = .ok (.iconst 0, 1) := by decide +kernel
theorem dL_isFedSo_266 : decode cL_isFedSo 266 = .ok (.istore 11, 2) := by decide +kernel
theorem dL_isFedSo_268 : decode cL_isFedSo 268 = .ok (.aload_n 0, 1) := by decide +kernel
theorem dL_isFedSo_269 : decode cL_isFedSo 269 = .ok (.invokevirtual 60, 3) := by decide +kernel
theorem dL_isFedSo_272 : decode cL_isFedSo 272 = .ok (.istore 12, 2) := by decide +kernel
theorem dL_isFedSo_274 : decode cL_isFedSo 274 = .ok (.iload 11, 2) := by decide +kernel
theorem dL_isFedSo_276 : decode cL_isFedSo 276 = .ok (.ifCond .eq 31, 3) := by decide +kernel
theorem dL_isFedSo_279 : decode cL_isFedSo 279 = .ok (.iload 12, 2) := by decide +kernel
theorem dL_isFedSo_281 : decode cL_isFedSo 281 = .ok (.ifCond .lt 26, 3) := by decide +kernel
theorem dL_isFedSo_284 : decode cL_isFedSo 284 = .ok (.aload_n 0, 1) := by decide +kernel
theorem dL_isFedSo_285 : decode cL_isFedSo 285 = .ok (.iconst 2, 1) := by decide +kernel
theorem dL_isFedSo_286 : decode cL_isFedSo 286 = .ok (.invokevirtual 24, 3) := by decide +kernel
theorem dL_isFedSo_289 : decode cL_isFedSo 289 = .ok (.iload_n 2, 1) := by decide +kernel
theorem dL_isFedSo_290 : decode cL_isFedSo 290 = .ok (.if_icmp .ne 17, 3) := by decide +kernel
theorem dL_isFedSo_293 : decode cL_isFedSo 293 = .ok (.aload_n 0, 1) := by decide +kernel
theorem dL_isFedSo_294 : decode cL_isFedSo 294 = .ok (.iconst 3, 1) := by decide +kernel
theorem dL_isFedSo_295 : decode cL_isFedSo 295 = .ok (.invokevirtual 24, 3) := by decide +kernel
theorem dL_isFedSo_298 : decode cL_isFedSo 298 = .ok (.iload 9, 2) := by decide +kernel
theorem dL_isFedSo_300 : decode cL_isFedSo 300 = .ok (.if_icmp .ne 7, 3) := by decide +kernel
theorem dL_isFedSo_303 : decode cL_isFedSo 303 = .ok (.iconst 1, 1) := by decide +kernel
theorem dL_isFedSo_304 : decode cL_isFedSo 304 = .ok (.goto 4, 3) := by decide +kernel
theorem dL_isFedSo_307 : decode cL_isFedSo 307 = .ok (.iconst 0, 1) := by decide +kernel
theorem dL_isFedSo_308 : decode cL_isFedSo 308 = .ok (.ireturn, 1) := by decide +kernel
theorem dL_bits_0 : decode cL_bits 0 = .ok (.iconst 0, 1) := by decide +kernel
theorem dL_bits_1 : decode cL_bits 1 = .ok (.istore_n 1, 1) := by decide +kernel
theorem dL_bits_2 : decode cL_bits 2 = .ok (.iconst 0, 1) := by decide +kernel
theorem dL_bits_3 : decode cL_bits 3 = .ok (.istore_n 2, 1) := by decide +kernel
theorem dL_bits_4 : decode cL_bits 4 = .ok (.iload_n 2, 1) := by decide +kernel
theorem dL_bits_5 : decode cL_bits 5 = .ok (.bipush 8, 2) := by decide +kernel
theorem dL_bits_7 : decode cL_bits 7 = .ok (.if_icmp .ge 17, 3) := by decide +kernel
theorem dL_bits_10 : decode cL_bits 10 = .ok (.iload_n 1, 1) := by decide +kernel
theorem dL_bits_11 : decode cL_bits 11 = .ok (.iload_n 0, 1) := by decide +kernel
theorem dL_bits_12 : decode cL_bits 12 = .ok (.iload_n 2, 1) := by decide +kernel
theorem dL_bits_13 : decode cL_bits 13 = .ok (.ishr, 1) := by decide +kernel
theorem dL_bits_14 : decode cL_bits 14 = .ok (.iconst 1, 1) := by decide +kernel
theorem dL_bits_15 : decode cL_bits 15 = .ok (.iand, 1) := by decide +kernel
theorem dL_bits_16 : decode cL_bits 16 = .ok (.iadd, 1) := by decide +kernel
theorem dL_bits_17 : decode cL_bits 17 = .ok (.istore_n 1, 1) := by decide +kernel
theorem dL_bits_18 : decode cL_bits 18 = .ok (.iinc 2 1, 3) := by decide +kernel
theorem dL_bits_21 : decode cL_bits 21 = .ok (.goto (-17), 3) := by decide +kernel
theorem dL_bits_24 : decode cL_bits 24 = .ok (.iload_n 1, 1) := by decide +kernel
theorem dL_bits_25 : decode cL_bits 25 = .ok (.ireturn, 1) := by decide +kernel
set_option maxRecDepth 20000 in
theorem ggL_areWaysSo_X5_lettersTo : GoodIn wsL_areWaysSo wsX5_lettersTo := goodIn_ca (goodIn_r _ [6, 7, 8, 9, 10, 5, 11, 12, 13, 14, 15, 16, 17, 18, 19, 20, 21, 22, 23, 24, 25, 26, 27, 28, 29, 30, 31, 32, 33, 34, 35, 36, 37, 38, 39, 40, 41, 42, 43, 44, 45, 46, 47, 48, 49, 50, 51, 52, 53, 54, 55, 56, 57, 58, 59, 60, 61, 62, 131, 132, 133, 134, 135, 136, 137, 138, 139, 140, 141, 142, 143, 144, 145, 146, 147, 148, 149, 150] (by decide +kernel) (by decide +kernel)) (goodIn_sub (fun _ h => List.mem_cons_of_mem _ (List.mem_append_left _ (List.mem_append_right _ h))) (by decide +kernel))
set_option maxRecDepth 20000 in
theorem gL_areWaysSo_X5_lettersTo : GoodIn wsL_areWaysSo (wsV RL 63 RX5 yX5_lettersTo wsX5_lettersTo) := goodIn_app (goodIn_of _ (by decide +kernel)) ggL_areWaysSo_X5_lettersTo
set_option maxRecDepth 20000 in
theorem ggL_areWaysSo_X5_count : GoodIn wsL_areWaysSo wsX5_count := goodIn_ca (goodIn_r _ [66, 67, 68, 69, 70, 71, 5, 72, 25, 73, 16, 74, 75, 76, 77, 78, 79, 80, 81, 82, 83, 84, 12, 13, 14, 15, 17, 18, 19, 20, 27, 28, 29, 30, 31, 32, 33, 34, 35, 36, 37, 38, 39, 40, 41, 42, 43, 44, 45, 46, 47, 48, 49, 50, 51, 52, 85, 86, 87, 88, 53, 131, 132, 133, 134, 135, 146, 147, 148, 149, 150, 136, 137, 138, 139, 140, 141, 142, 143, 144, 145, 151, 152, 153] (by decide +kernel) (by decide +kernel)) (goodIn_sub (fun _ h => List.mem_cons_of_mem _ (List.mem_append_right _ h)) (by decide +kernel))
set_option maxRecDepth 20000 in
theorem gL_areWaysSo_X5_count : GoodIn wsL_areWaysSo (wsV RL 24 RX5 yX5_count wsX5_count) := goodIn_app (goodIn_of _ (by decide +kernel)) ggL_areWaysSo_X5_count
set_option maxRecDepth 20000 in
theorem ggL_areWaysSo_X5_pattern : GoodIn wsL_areWaysSo wsX5_pattern := goodIn_ca (goodIn_ca (goodIn_r _ [92, 7, 8, 67, 68, 9, 10, 5, 11, 93, 94, 95, 96, 16, 97, 98, 25, 12, 13, 14, 15, 17, 18, 19, 20, 53, 38, 39, 40, 32, 33, 34, 35, 36, 37, 41, 42, 43, 44, 45, 46, 47, 48, 49, 50, 51, 52, 99, 100, 101, 102, 103, 104, 105, 106, 55, 56, 107, 58, 59, 60, 61, 62, 108, 109, 110, 111, 131, 132, 133, 134, 135, 136, 137, 138, 139, 140, 141, 142, 143, 144, 145, 146, 147, 148, 149, 150] (by decide +kernel) (by decide +kernel)) (goodIn_sub (fun _ h => List.mem_cons_of_mem _ (List.mem_append_left _ (List.mem_append_right _ h))) (by decide +kernel))) (goodIn_sub (fun _ h => List.mem_cons_of_mem _ (List.mem_append_right _ h)) (by decide +kernel))
set_option maxRecDepth 20000 in
theorem gL_areWaysSo_X5_pattern : GoodIn wsL_areWaysSo (wsV RL 33 RX5 yX5_pattern wsX5_pattern) := goodIn_app (goodIn_of _ (by decide +kernel)) ggL_areWaysSo_X5_pattern
set_option maxRecDepth 20000 in
theorem ggL_areWaysSo_X5_state : GoodIn wsL_areWaysSo wsX5_state := goodIn_ca (goodIn_ca (goodIn_r _ [115, 7, 8, 67, 68, 25, 73, 116, 117, 118, 5, 119, 26, 120, 121, 18, 19, 20, 53, 38, 39, 40, 122, 46, 47, 123, 124, 125, 126, 12, 13, 14, 15, 16, 17, 127, 128, 129, 44, 130, 49, 50, 35, 51, 52, 131, 132, 133, 134, 135, 146, 147, 148, 149, 150, 136, 137, 138, 139, 140, 141, 142, 143, 144, 145] (by decide +kernel) (by decide +kernel)) (goodIn_sub (fun _ h => List.mem_cons_of_mem _ (List.mem_append_left _ (List.mem_append_right _ h))) (by decide +kernel))) (goodIn_sub (fun _ h => List.mem_cons_of_mem _ (List.mem_append_right _ h)) (by decide +kernel))
set_option maxRecDepth 20000 in
theorem gL_areWaysSo_X5_state : GoodIn wsL_areWaysSo (wsV RL 48 RX5 yX5_state wsX5_state) := goodIn_app (goodIn_of _ (by decide +kernel)) ggL_areWaysSo_X5_state
theorem dL_areWaysSo_0 : decode cL_areWaysSo 0 = .ok (.aload_n 0, 1) := by decide +kernel
theorem dL_areWaysSo_1 : decode cL_areWaysSo 1 = .ok (.iload_n 1, 1) := by decide +kernel
theorem dL_areWaysSo_2 : decode cL_areWaysSo 2 = .ok (.invokevirtual 63, 3) := by decide +kernel
theorem dL_areWaysSo_5 : decode cL_areWaysSo 5 = .ok (.istore_n 2, 1) := by decide +kernel
theorem dL_areWaysSo_6 : decode cL_areWaysSo 6 = .ok (.aload_n 0, 1) := by decide +kernel
theorem dL_areWaysSo_7 : decode cL_areWaysSo 7 = .ok (.iconst 1, 1) := by decide +kernel
theorem dL_areWaysSo_8 : decode cL_areWaysSo 8 = .ok (.invokevirtual 24, 3) := by decide +kernel
theorem dL_areWaysSo_11 : decode cL_areWaysSo 11 = .ok (.istore_n 3, 1) := by decide +kernel
theorem dL_areWaysSo_12 : decode cL_areWaysSo 12 = .ok (.aload_n 0, 1) := by decide +kernel
theorem dL_areWaysSo_13 : decode cL_areWaysSo 13 = .ok (.iload_n 1, 1) := by decide +kernel
theorem dL_areWaysSo_14 : decode cL_areWaysSo 14 = .ok (.iconst 0, 1) := by decide +kernel
theorem dL_areWaysSo_15 : decode cL_areWaysSo 15 = .ok (.invokevirtual 33, 3) := by decide +kernel
theorem dL_areWaysSo_18 : decode cL_areWaysSo 18 = .ok (.ifCond .eq 9, 3) := by decide +kernel
theorem dL_areWaysSo_21 : decode cL_areWaysSo 21 = .ok (.iload_n 3, 1) := by decide +kernel
theorem dL_areWaysSo_22 : decode cL_areWaysSo 22 = .ok (.bipush 64, 2) := by decide +kernel
theorem dL_areWaysSo_24 : decode cL_areWaysSo 24 = .ok (.if_icmp .le 20, 3) := by decide +kernel
theorem dL_areWaysSo_27 : decode cL_areWaysSo 27 = .ok (.iload_n 3, 1) := by decide +kernel
theorem dL_areWaysSo_28 : decode cL_areWaysSo 28 = .ok (.bipush 64, 2) := by decide +kernel
theorem dL_areWaysSo_30 : decode cL_areWaysSo 30 = .ok (.if_icmp .gt 8, 3) := by decide +kernel
theorem dL_areWaysSo_33 : decode cL_areWaysSo 33 = .ok (.iload_n 2, 1) := by decide +kernel
theorem dL_areWaysSo_34 : decode cL_areWaysSo 34 = .ok (.iconst (-1), 1) := by decide +kernel
theorem dL_areWaysSo_35 : decode cL_areWaysSo 35 = .ok (.if_icmp .ne 7, 3) := by decide +kernel
theorem dL_areWaysSo_38 : decode cL_areWaysSo 38 = .ok (.iconst 1, 1) := by decide +kernel
theorem dL_areWaysSo_39 : decode cL_areWaysSo 39 = .ok (.goto 4, 3) := by decide +kernel
theorem dL_areWaysSo_42 : decode cL_areWaysSo 42 = .ok (.iconst 0, 1) := by decide +kernel
theorem dL_areWaysSo_43 : decode cL_areWaysSo 43 = .ok (.ireturn, 1) := by decide +kernel
theorem dL_areWaysSo_44 : decode cL_areWaysSo 44 = .ok (.bipush 64, 2) := by decide +kernel
theorem dL_areWaysSo_46 : decode cL_areWaysSo 46 = .ok (.newarray .int, 2) := by decide +kernel
theorem dL_areWaysSo_48 : decode cL_areWaysSo 48 = .ok (.astore 4, 2) := by decide +kernel
theorem dL_areWaysSo_50 : decode cL_areWaysSo 50 = .ok (.aload 4, 2) := by decide +kernel
theorem dL_areWaysSo_52 : decode cL_areWaysSo 52 = .ok (.aload_n 0, 1) := by decide +kernel
theorem dL_areWaysSo_53 : decode cL_areWaysSo 53 = .ok (.iconst 2, 1) := by decide +kernel
theorem dL_areWaysSo_54 : decode cL_areWaysSo 54 = .ok (.invokevirtual 24, 3) := by decide +kernel
theorem dL_areWaysSo_57 : decode cL_areWaysSo 57 = .ok (.iconst 1, 1) := by decide +kernel
theorem dL_areWaysSo_58 : decode cL_areWaysSo 58 = .ok (.iastore, 1) := by decide +kernel
theorem dL_areWaysSo_59 : decode cL_areWaysSo 59 = .ok (.iconst 1, 1) := by decide +kernel
theorem dL_areWaysSo_60 : decode cL_areWaysSo 60 = .ok (.istore 5, 2) := by decide +kernel
theorem dL_areWaysSo_62 : decode cL_areWaysSo 62 = .ok (.iload 5, 2) := by decide +kernel
theorem dL_areWaysSo_64 : decode cL_areWaysSo 64 = .ok (.iload_n 2, 1) := by decide +kernel
theorem dL_areWaysSo_65 : decode cL_areWaysSo 65 = .ok (.if_icmp .gt 124, 3) := by decide +kernel
theorem dL_areWaysSo_68 : decode cL_areWaysSo 68 = .ok (.bipush 64, 2) := by decide +kernel
theorem dL_areWaysSo_70 : decode cL_areWaysSo 70 = .ok (.newarray .int, 2) := by decide +kernel
theorem dL_areWaysSo_72 : decode cL_areWaysSo 72 = .ok (.astore 6, 2) := by decide +kernel
theorem dL_areWaysSo_74 : decode cL_areWaysSo 74 = .ok (.iconst 0, 1) := by decide +kernel
theorem dL_areWaysSo_75 : decode cL_areWaysSo 75 = .ok (.istore 7, 2) := by decide +kernel
theorem dL_areWaysSo_77 : decode cL_areWaysSo 77 = .ok (.iconst 0, 1) := by decide +kernel
theorem dL_areWaysSo_78 : decode cL_areWaysSo 78 = .ok (.istore 8, 2) := by decide +kernel
theorem dL_areWaysSo_80 : decode cL_areWaysSo 80 = .ok (.iload 8, 2) := by decide +kernel
theorem dL_areWaysSo_82 : decode cL_areWaysSo 82 = .ok (.iload_n 3, 1) := by decide +kernel
theorem dL_areWaysSo_83 : decode cL_areWaysSo 83 = .ok (.if_icmp .ge 78, 3) := by decide +kernel
theorem dL_areWaysSo_86 : decode cL_areWaysSo 86 = .ok (.iconst 0, 1) := by decide +kernel
theorem dL_areWaysSo_87 : decode cL_areWaysSo 87 = .ok (.istore 9, 2) := by decide +kernel
theorem dL_areWaysSo_89 : decode cL_areWaysSo 89 = .ok (.iload 9, 2) := by decide +kernel
theorem dL_areWaysSo_91 : decode cL_areWaysSo 91 = .ok (.iconst 4, 1) := by decide +kernel
theorem dL_areWaysSo_92 : decode cL_areWaysSo 92 = .ok (.if_icmp .ge 63, 3) := by decide +kernel
theorem dL_areWaysSo_95 : decode cL_areWaysSo 95 = .ok (.aload 4, 2) := by decide +kernel
theorem dL_areWaysSo_97 : decode cL_areWaysSo 97 = .ok (.iload 8, 2) := by decide +kernel
theorem dL_areWaysSo_99 : decode cL_areWaysSo 99 = .ok (.iaload, 1) := by decide +kernel
theorem dL_areWaysSo_100 : decode cL_areWaysSo 100 = .ok (.iconst 1, 1) := by decide +kernel
theorem dL_areWaysSo_101 : decode cL_areWaysSo 101 = .ok (.if_icmp .ne 54, 3) := by decide +kernel
theorem dL_areWaysSo_104 : decode cL_areWaysSo 104 = .ok (.aload_n 0, 1) := by decide +kernel
theorem dL_areWaysSo_105 : decode cL_areWaysSo 105 = .ok (.iload 8, 2) := by decide +kernel
theorem dL_areWaysSo_107 : decode cL_areWaysSo 107 = .ok (.iconst 5, 1) := by decide +kernel
theorem dL_areWaysSo_108 : decode cL_areWaysSo 108 = .ok (.iload 9, 2) := by decide +kernel
theorem dL_areWaysSo_110 : decode cL_areWaysSo 110 = .ok (.iadd, 1) := by decide +kernel
theorem dL_areWaysSo_111 : decode cL_areWaysSo 111 = .ok (.invokevirtual 48, 3) := by decide +kernel
theorem dL_areWaysSo_114 : decode cL_areWaysSo 114 = .ok (.istore 10, 2) := by decide +kernel
theorem dL_areWaysSo_116 : decode cL_areWaysSo 116 = .ok (.aload 6, 2) := by decide +kernel
theorem dL_areWaysSo_118 : decode cL_areWaysSo 118 = .ok (.iload 10, 2) := by decide +kernel
theorem dL_areWaysSo_120 : decode cL_areWaysSo 120 = .ok (.iconst 1, 1) := by decide +kernel
theorem dL_areWaysSo_121 : decode cL_areWaysSo 121 = .ok (.iastore, 1) := by decide +kernel
theorem dL_areWaysSo_122 : decode cL_areWaysSo 122 = .ok (.iload 7, 2) := by decide +kernel
theorem dL_areWaysSo_124 : decode cL_areWaysSo 124 = .ok (.ifCond .ne 18, 3) := by decide +kernel
theorem dL_areWaysSo_127 : decode cL_areWaysSo 127 = .ok (.aload_n 0, 1) := by decide +kernel
theorem dL_areWaysSo_128 : decode cL_areWaysSo 128 = .ok (.iload 10, 2) := by decide +kernel
theorem dL_areWaysSo_130 : decode cL_areWaysSo 130 = .ok (.iconst 3, 1) := by decide +kernel
theorem dL_areWaysSo_131 : decode cL_areWaysSo 131 = .ok (.invokevirtual 48, 3) := by decide +kernel
theorem dL_areWaysSo_134 : decode cL_areWaysSo 134 = .ok (.iload_n 1, 1) := by decide +kernel
theorem dL_areWaysSo_135 : decode cL_areWaysSo 135 = .ok (.ishr, 1) := by decide +kernel
theorem dL_areWaysSo_136 : decode cL_areWaysSo 136 = .ok (.iconst 1, 1) := by decide +kernel
theorem dL_areWaysSo_137 : decode cL_areWaysSo 137 = .ok (.iand, 1) := by decide +kernel
theorem dL_areWaysSo_138 : decode cL_areWaysSo 138 = .ok (.iconst 1, 1) := by decide +kernel
theorem dL_areWaysSo_139 : decode cL_areWaysSo 139 = .ok (.if_icmp .ne 7, 3) := by decide +kernel
theorem dL_areWaysSo_142 : decode cL_areWaysSo 142 = .ok (.iconst 1, 1) := by decide +kernel
theorem dL_areWaysSo_143 : decode cL_areWaysSo 143 = .ok (.goto 4, 3) := by decide +kernel
theorem dL_areWaysSo_146 : decode cL_areWaysSo 146 = .ok (.iconst 0, 1) := by decide +kernel
theorem dL_areWaysSo_147 : decode cL_areWaysSo 147 = .ok (.istore 7, 2) := by decide +kernel
theorem dL_areWaysSo_149 : decode cL_areWaysSo 149 = .ok (.iinc 9 1, 3) := by decide +kernel
theorem dL_areWaysSo_152 : decode cL_areWaysSo 152 = .ok (.goto (-63), 3) := by decide +kernel
theorem dL_areWaysSo_155 : decode cL_areWaysSo 155 = .ok (.iinc 8 1, 3) := by decide +kernel
theorem dL_areWaysSo_158 : decode cL_areWaysSo 158 = .ok (.goto (-78), 3) := by decide +kernel
theorem dL_areWaysSo_161 : decode cL_areWaysSo 161 = .ok (.iload 7, 2) := by decide +kernel
theorem dL_areWaysSo_163 : decode cL_areWaysSo 163 = .ok (.iload 5, 2) := by decide +kernel
theorem dL_areWaysSo_165 : decode cL_areWaysSo 165 = .ok (.iload_n 2, 1) := by decide +kernel
theorem dL_areWaysSo_166 : decode cL_areWaysSo 166 = .ok (.if_icmp .ne 7, 3) := by decide +kernel
theorem dL_areWaysSo_169 : decode cL_areWaysSo 169 = .ok (.iconst 1, 1) := by decide +kernel
theorem dL_areWaysSo_170 : decode cL_areWaysSo 170 = .ok (.goto 4, 3) := by decide +kernel
theorem dL_areWaysSo_173 : decode cL_areWaysSo 173 = .ok (.iconst 0, 1) := by decide +kernel
theorem dL_areWaysSo_174 : decode cL_areWaysSo 174 = .ok (.if_icmp .eq 5, 3) := by decide +kernel
theorem dL_areWaysSo_177 : decode cL_areWaysSo 177 = .ok (.iconst 0, 1) := by decide +kernel
theorem dL_areWaysSo_178 : decode cL_areWaysSo 178 = .ok (.ireturn, 1) := by decide +kernel
theorem dL_areWaysSo_179 : decode cL_areWaysSo 179 = .ok (.aload 6, 2) := by decide +kernel
theorem dL_areWaysSo_181 : decode cL_areWaysSo 181 = .ok (.astore 4, 2) := by decide +kernel
theorem dL_areWaysSo_183 : decode cL_areWaysSo 183 = .ok (.iinc 5 1, 3) := by decide +kernel
theorem dL_areWaysSo_186 : decode cL_areWaysSo 186 = .ok (.goto (-124), 3) := by decide +kernel
theorem dL_areWaysSo_189 : decode cL_areWaysSo 189 = .ok (.iload_n 2, 1) := by decide +kernel
theorem dL_areWaysSo_190 : decode cL_areWaysSo 190 = .ok (.iconst 1, 1) := by decide +kernel
theorem dL_areWaysSo_191 : decode cL_areWaysSo 191 = .ok (.if_icmp .lt 13, 3) := by decide +kernel
theorem dL_areWaysSo_194 : decode cL_areWaysSo 194 = .ok (.iload_n 2, 1) := by decide +kernel
theorem dL_areWaysSo_195 : decode cL_areWaysSo 195 = .ok (.bipush 8, 2) := by decide +kernel
theorem dL_areWaysSo_197 : decode cL_areWaysSo 197 = .ok (.if_icmp .gt 7, 3) := by decide +kernel
theorem dL_areWaysSo_200 : decode cL_areWaysSo 200 = .ok (.iconst 1, 1) := by decide +kernel
theorem dL_areWaysSo_201 : decode cL_areWaysSo 201 = .ok (.goto 4, 3) := by decide +kernel
theorem dL_areWaysSo_204 : decode cL_areWaysSo 204 = .ok (.iconst 0, 1) := by decide +kernel
theorem dL_areWaysSo_205 : decode cL_areWaysSo 205 = .ok (.ireturn, 1) := by decide +kernel
set_option maxRecDepth 20000 in
theorem ggL_law_X5_init : GoodIn wsL_law wsX5_init := goodIn_r _ [5, 6, 7, 8, 9, 10, 11, 12, 13, 14, 15, 16, 17, 18, 19, 20, 21, 22, 23, 24, 25, 26, 27, 28, 29, 30, 31, 32, 33, 34, 35, 36, 37, 38, 39, 40, 41, 42, 43, 44, 45, 46, 47, 48, 49, 50, 51, 52, 53, 2, 54, 55, 56, 57, 58, 59, 411, 412, 413, 414, 415, 416, 417, 418, 419, 420, 406, 407, 408, 409, 410, 421, 422, 423, 424, 425, 426, 427, 428, 429, 430] (by decide +kernel) (by decide +kernel)
set_option maxRecDepth 20000 in
theorem gL_law_X5_init : GoodIn wsL_law (wsX5_init) := ggL_law_X5_init
set_option maxRecDepth 20000 in
theorem ggL_law_L_cell : GoodIn wsL_law wsL_cell := goodIn_r _ [63] (by decide +kernel) (by decide +kernel)
set_option maxRecDepth 20000 in
theorem gL_law_L_cell : GoodIn wsL_law (va_wsS RL 67 yL_cell wsL_cell) := goodIn_app (goodIn_of _ (by decide +kernel)) ggL_law_L_cell
set_option maxRecDepth 20000 in
theorem ggL_law_L_add : GoodIn wsL_law wsL_add := goodIn_ca (goodIn_ca (goodIn_r _ [66, 67, 68, 69, 2, 70, 24, 71, 72, 73, 74, 23, 75, 76, 77, 78, 62, 79, 80, 81, 82, 83, 84, 85, 86, 87, 88, 89, 90, 91, 92, 59, 53, 54, 93, 94, 95, 96, 97, 98, 99, 100, 20, 101, 12, 102, 103, 104, 105, 106, 16, 107, 108, 109, 110, 111, 112, 113, 114, 115, 116, 117, 118, 119, 120, 121, 122, 123, 124, 125, 126, 127, 19, 128, 129, 130, 131, 132, 133, 134, 135, 136, 137, 138, 139, 140, 141, 142, 143, 51, 144, 145, 146, 147, 148, 149, 150, 151, 152, 26, 153, 154, 155, 156, 157, 158, 159, 160, 161, 162, 163, 164, 165, 166, 167, 168, 169, 170, 171, 172, 173, 174, 175, 176, 177, 178, 179, 180, 181, 182, 183, 184, 15, 185, 186, 187, 188, 189, 190, 191, 42, 192, 193, 194, 11, 195, 31, 32, 33, 34, 35, 196, 197, 36, 198, 199, 200, 201, 202, 203, 52, 50, 204, 205, 206, 207, 48, 208, 209, 210, 211, 212, 213, 214, 215, 216, 217, 218, 219, 49, 220, 221, 222, 223, 406, 407, 408, 409, 410, 429, 430, 424, 425, 426, 427, 428, 411, 412, 413, 414, 415, 416, 417, 418, 419, 420, 421, 422, 423] (by decide +kernel) (by decide +kernel)) (goodIn_sub (fun _ h => List.mem_append_left _ (List.mem_append_left _ (List.mem_append_right _ h))) (by decide +kernel))) (goodIn_sub (fun _ h => List.mem_append_left _ (List.mem_append_right _ h)) (by decide +kernel))
set_option maxRecDepth 20000 in
theorem gL_law_L_add : GoodIn wsL_law (va_wsS RL 30 yL_add wsL_add) := goodIn_app (goodIn_of _ (by decide +kernel)) ggL_law_L_add
set_option maxRecDepth 20000 in
theorem ggL_law_L_does : GoodIn wsL_law wsL_does := goodIn_ca (goodIn_ca (goodIn_ca (goodIn_r _ [226, 64, 65, 62, 66, 67, 68, 69, 2, 70, 24, 71, 72, 73, 74, 23, 75, 76, 77, 78, 79, 80, 81, 82, 83, 84, 85, 86, 87, 88, 89, 90, 91, 92, 59, 53, 54, 93, 94, 95, 96, 97, 98, 99, 100, 20, 101, 12, 102, 103, 104, 105, 106, 16, 107, 108, 109, 110, 111, 112, 113, 114, 115, 116, 117, 118, 119, 120, 121, 122, 123, 124, 125, 126, 127, 19, 128, 129, 130, 131, 132, 133, 134, 135, 136, 137, 138, 139, 140, 141, 142, 143, 51, 144, 145, 146, 147, 148, 149, 150, 151, 152, 26, 153, 154, 155, 156, 157, 158, 159, 160, 161, 162, 163, 164, 165, 166, 167, 168, 169, 170, 171, 172, 173, 174, 175, 176, 177, 178, 179, 180, 181, 182, 183, 184, 15, 185, 186, 187, 188, 189, 190, 191, 42, 192, 193, 194, 11, 195, 31, 32, 33, 34, 35, 196, 197, 36, 198, 199, 200, 201, 202, 203, 52, 50, 204, 205, 206, 207, 48, 208, 209, 210, 211, 212, 213, 214, 215, 216, 217, 218, 219, 49, 220, 221, 222, 223, 227, 228, 229, 230, 231, 232, 233, 234, 235, 236, 237, 238, 239, 240, 241, 242, 243, 244, 245, 246, 247, 248, 249, 250, 251, 252, 253, 254, 255, 256, 257, 258, 259, 260, 261, 262, 263, 264, 265, 266, 267, 268, 269, 270, 271, 272, 273, 274, 275, 276, 277, 278, 279, 280, 281, 282, 283, 284, 285, 286, 287, 288, 289, 290, 291, 292, 293, 294, 295, 296, 297, 298, 299, 300, 301, 302, 303, 304, 305, 306, 307, 308, 309, 310, 311, 312, 313, 314, 315, 316, 317, 318, 319, 320, 321, 322, 323, 324, 325, 326, 327, 328, 329, 406, 407, 408, 409, 410, 429, 430, 424, 425, 426, 427, 428, 411, 412, 413, 414, 415, 416, 417, 418, 419, 420, 421, 422, 423] (by decide +kernel) (by decide +kernel)) (goodIn_sub (fun _ h => List.mem_append_left _ (List.mem_append_left _ (List.mem_append_right _ h))) (by decide +kernel))) (goodIn_sub (fun _ h => List.mem_append_left _ (List.mem_append_right _ h)) (by decide +kernel))) (goodIn_sub (fun _ h => List.mem_append_right _ h) (by decide +kernel))
set_option maxRecDepth 20000 in
theorem gL_law_L_does : GoodIn wsL_law (va_wsS RL 71 yL_does wsL_does) := goodIn_app (goodIn_of _ (by decide +kernel)) ggL_law_L_does
set_option maxRecDepth 20000 in
theorem ggL_law_L_low : GoodIn wsL_law wsL_low := goodIn_r _ [79, 80] (by decide +kernel) (by decide +kernel)
set_option maxRecDepth 20000 in
theorem gL_law_L_low : GoodIn wsL_law (va_wsS RL 14 yL_low wsL_low) := goodIn_app (goodIn_of _ (by decide +kernel)) ggL_law_L_low
set_option maxRecDepth 20000 in
theorem ggL_law_L_isFedSo : GoodIn wsL_law wsL_isFedSo := goodIn_ca (goodIn_ca (goodIn_ca (goodIn_r _ [332, 93, 94, 95, 2, 96, 85, 86, 97, 98, 99, 100, 20, 101, 12, 102, 103, 104, 105, 106, 16, 107, 108, 109, 110, 111, 112, 113, 114, 115, 116, 117, 118, 119, 120, 121, 122, 123, 124, 125, 126, 127, 19, 128, 129, 130, 131, 132, 133, 134, 135, 136, 137, 138, 139, 140, 141, 142, 143, 51, 144, 145, 146, 147, 148, 333, 334, 335, 336, 286, 287, 288, 337, 338, 339, 340, 293, 299, 300, 301, 302, 49, 303, 304, 305, 306, 48, 307, 175, 176, 294, 295, 296, 297, 298, 272, 323, 324, 325, 326, 327, 328, 329, 341, 342, 343, 227, 228, 229, 230, 231, 232, 233, 234, 235, 236, 237, 238, 239, 240, 241, 242, 243, 244, 245, 246, 247, 248, 249, 209, 210, 250, 251, 252, 253, 254, 255, 256, 257, 258, 259, 344, 345, 346, 347, 348, 349, 350, 351, 352, 353, 354, 355, 356, 357, 358, 359, 360, 361, 362, 363, 364, 365, 282, 283, 284, 285, 87, 88, 182, 183, 184, 15, 185, 186, 187, 188, 189, 190, 191, 42, 192, 193, 194, 11, 195, 31, 32, 33, 34, 35, 196, 197, 36, 198, 199, 53, 54, 289, 290, 291, 292, 308, 309, 310, 311, 312, 313, 314, 315, 316, 317, 318, 319, 174, 320, 321, 322, 366, 367, 368, 369, 370, 371, 372, 373, 200, 201, 202, 203, 52, 50, 204, 205, 206, 207, 208, 211, 212, 213, 214, 215, 216, 217, 218, 219, 220, 221, 222, 223, 406, 407, 408, 409, 410, 424, 425, 426, 427, 428, 411, 412, 413, 414, 415, 416, 417, 418, 419, 420, 421, 422, 423] (by decide +kernel) (by decide +kernel)) (goodIn_sub (fun _ h => List.mem_append_left _ (List.mem_append_left _ (List.mem_append_right _ h))) (by decide +kernel))) (goodIn_sub (fun _ h => List.mem_append_right _ h) (by decide +kernel))) (goodIn_sub (fun _ h => List.mem_append_left _ (List.mem_append_right _ h)) (by decide +kernel))
set_option maxRecDepth 20000 in
theorem gL_law_L_isFedSo : GoodIn wsL_law (va_wsS RL 74 yL_isFedSo wsL_isFedSo) := goodIn_app (goodIn_of _ (by decide +kernel)) ggL_law_L_isFedSo
set_option maxRecDepth 20000 in
theorem ggL_law_X5_count : GoodIn wsL_law wsX5_count := goodIn_ca (goodIn_r _ [96, 85, 86, 97, 98, 99, 2, 100, 20, 101, 12, 102, 103, 104, 105, 106, 16, 107, 108, 109, 110, 111, 112, 113, 114, 115, 116, 117, 118, 119, 120, 121, 122, 123, 124, 125, 126, 127, 19, 128, 129, 130, 131, 132, 133, 134, 135, 136, 137, 138, 139, 140, 141, 142, 143, 51, 144, 145, 146, 147, 148, 406, 407, 408, 409, 410, 424, 425, 426, 427, 428, 411, 412, 413, 414, 415, 416, 417, 418, 419, 420, 421, 422, 423] (by decide +kernel) (by decide +kernel)) (goodIn_sub (fun _ h => List.mem_append_left _ (List.mem_append_left _ (List.mem_append_right _ h))) (by decide +kernel))
set_option maxRecDepth 20000 in
theorem gL_law_X5_count : GoodIn wsL_law (wsV RL 24 RX5 yX5_count wsX5_count) := goodIn_app (goodIn_of _ (by decide +kernel)) ggL_law_X5_count
set_option maxRecDepth 20000 in
theorem ggL_law_L_areStatesSo : GoodIn wsL_law wsL_areStatesSo := goodIn_ca (goodIn_ca (goodIn_r _ [376, 93, 94, 95, 2, 96, 85, 86, 97, 98, 99, 100, 20, 101, 12, 102, 103, 104, 105, 106, 16, 107, 108, 109, 110, 111, 112, 113, 114, 115, 116, 117, 118, 119, 120, 121, 122, 123, 124, 125, 126, 127, 19, 128, 129, 130, 131, 132, 133, 134, 135, 136, 137, 138, 139, 140, 141, 142, 143, 51, 144, 145, 146, 147, 148, 344, 345, 346, 347, 231, 232, 348, 349, 350, 351, 352, 353, 298, 354, 355, 356, 357, 358, 359, 360, 361, 293, 227, 228, 229, 230, 233, 234, 235, 236, 237, 238, 239, 240, 241, 242, 243, 244, 245, 246, 247, 248, 249, 209, 210, 250, 251, 252, 253, 254, 255, 256, 257, 258, 259, 377, 378, 379, 380, 381, 406, 407, 408, 409, 410, 424, 425, 426, 427, 428, 411, 412, 413, 414, 415, 416, 417, 418, 419, 420, 421, 422, 423] (by decide +kernel) (by decide +kernel)) (goodIn_sub (fun _ h => List.mem_append_left _ (List.mem_append_left _ (List.mem_append_right _ h))) (by decide +kernel))) (goodIn_sub (fun _ h => List.mem_append_right _ h) (by decide +kernel))
set_option maxRecDepth 20000 in
theorem gL_law_L_areStatesSo : GoodIn wsL_law (va_wsS RL 78 yL_areStatesSo wsL_areStatesSo) := goodIn_app (goodIn_of _ (by decide +kernel)) ggL_law_L_areStatesSo
set_option maxRecDepth 20000 in
theorem ggL_law_L_areWaysSo : GoodIn wsL_law wsL_areWaysSo := goodIn_ca (goodIn_ca (goodIn_r _ [384, 25, 385, 386, 387, 2, 388, 231, 232, 233, 234, 235, 112, 113, 114, 115, 12, 116, 117, 118, 119, 389, 390, 391, 392, 20, 352, 120, 121, 122, 123, 124, 125, 126, 127, 19, 128, 129, 130, 131, 132, 133, 134, 135, 136, 137, 138, 139, 140, 141, 142, 143, 51, 148, 393, 209, 210, 394, 251, 252, 253, 254, 255, 93, 94, 95, 96, 85, 86, 97, 98, 99, 100, 101, 102, 103, 104, 105, 106, 16, 107, 108, 109, 110, 111, 144, 145, 146, 147, 227, 228, 229, 230, 236, 237, 238, 239, 240, 241, 242, 243, 244, 245, 246, 247, 248, 249, 250, 256, 257, 258, 259, 344, 345, 346, 347, 348, 349, 350, 351, 353, 298, 354, 355, 356, 357, 358, 359, 360, 361, 293, 406, 407, 408, 409, 410, 411, 412, 413, 414, 415, 416, 417, 418, 419, 420, 424, 425, 426, 427, 428, 421, 422, 423] (by decide +kernel) (by decide +kernel)) (goodIn_sub (fun _ h => List.mem_append_right _ h) (by decide +kernel))) (goodIn_sub (fun _ h => List.mem_append_left _ (List.mem_append_left _ (List.mem_append_right _ h))) (by decide +kernel))
set_option maxRecDepth 20000 in
theorem gL_law_L_areWaysSo : GoodIn wsL_law (va_wsS RL 82 yL_areWaysSo wsL_areWaysSo) := goodIn_app (goodIn_of _ (by decide +kernel)) ggL_law_L_areWaysSo
set_option maxRecDepth 20000 in
theorem ggL_law_X5_ifFed : GoodIn wsL_law wsX5_ifFed := goodIn_ca (goodIn_r _ [336, 85, 86, 286, 287, 2, 288, 337, 338, 339, 340, 20, 12, 102, 104, 120, 121, 122, 123, 124, 125, 126, 127, 19, 128, 129, 130, 131, 132, 133, 134, 135, 136, 137, 138, 139, 140, 141, 142, 143, 51, 118, 119, 293, 299, 300, 301, 302, 49, 303, 304, 305, 306, 48, 307, 175, 176, 294, 295, 296, 297, 298, 272, 117, 112, 113, 114, 115, 116, 148, 323, 324, 325, 326, 327, 328, 329, 341, 342, 343, 406, 407, 408, 409, 410, 411, 412, 413, 414, 415, 416, 417, 418, 419, 420, 424, 425, 426, 427, 428] (by decide +kernel) (by decide +kernel)) (goodIn_sub (fun _ h => List.mem_append_left _ (List.mem_append_left _ (List.mem_append_right _ h))) (by decide +kernel))
set_option maxRecDepth 20000 in
theorem gL_law_X5_ifFed : GoodIn wsL_law (wsV RL 54 RX5 yX5_ifFed wsX5_ifFed) := goodIn_app (goodIn_of _ (by decide +kernel)) ggL_law_X5_ifFed
set_option maxRecDepth 20000 in
theorem ggL_law_X5_setting : GoodIn wsL_law wsX5_setting := goodIn_r _ [365, 12, 272, 406, 407, 408, 409, 410, 411, 412, 413, 414, 415, 416, 417, 418, 419, 420] (by decide +kernel) (by decide +kernel)
set_option maxRecDepth 20000 in
theorem gL_law_X5_setting : GoodIn wsL_law (wsV RL 57 RX5 yX5_setting wsX5_setting) := goodIn_app (goodIn_of _ (by decide +kernel)) ggL_law_X5_setting
set_option maxRecDepth 20000 in
theorem ggL_law_X5_state : GoodIn wsL_law wsX5_state := goodIn_ca (goodIn_ca (goodIn_r _ [347, 231, 232, 85, 86, 20, 101, 348, 349, 350, 2, 351, 352, 353, 298, 117, 118, 119, 148, 130, 131, 132, 354, 138, 139, 355, 356, 357, 358, 112, 113, 114, 115, 12, 116, 359, 360, 361, 136, 293, 141, 142, 19, 143, 51, 406, 407, 408, 409, 410, 424, 425, 426, 427, 428, 411, 412, 413, 414, 415, 416, 417, 418, 419, 420] (by decide +kernel) (by decide +kernel)) (goodIn_sub (fun _ h => List.mem_append_right _ h) (by decide +kernel))) (goodIn_sub (fun _ h => List.mem_append_left _ (List.mem_append_left _ (List.mem_append_right _ h))) (by decide +kernel))
set_option maxRecDepth 20000 in
theorem gL_law_X5_state : GoodIn wsL_law (wsV RL 48 RX5 yX5_state wsX5_state) := goodIn_app (goodIn_of _ (by decide +kernel)) ggL_law_X5_state
set_option maxRecDepth 20000 in
theorem ggL_law_L_bits : GoodIn wsL_law wsL_bits := goodIn_r _ [397] (by decide +kernel) (by decide +kernel)
set_option maxRecDepth 20000 in
theorem gL_law_L_bits : GoodIn wsL_law (va_wsS RL 85 yL_bits wsL_bits) := goodIn_app (goodIn_of _ (by decide +kernel)) ggL_law_L_bits
set_option maxRecDepth 20000 in
theorem ggL_law_X5_ifRepeated : GoodIn wsL_law wsX5_ifRepeated := goodIn_ca (goodIn_r _ [401, 85, 86, 286, 287, 2, 288, 402, 403, 404, 405, 12, 104, 20, 102, 120, 121, 122, 123, 124, 125, 126, 127, 19, 128, 129, 130, 131, 132, 133, 134, 135, 136, 137, 138, 139, 140, 141, 142, 143, 51, 118, 119, 293, 294, 295, 296, 297, 298, 272, 117, 112, 113, 114, 115, 116, 148, 323, 324, 325, 326, 327, 328, 329, 406, 407, 408, 409, 410, 411, 412, 413, 414, 415, 416, 417, 418, 419, 420, 424, 425, 426, 427, 428] (by decide +kernel) (by decide +kernel)) (goodIn_sub (fun _ h => List.mem_append_left _ (List.mem_append_left _ (List.mem_append_right _ h))) (by decide +kernel))
set_option maxRecDepth 20000 in
theorem gL_law_X5_ifRepeated : GoodIn wsL_law (wsV RL 88 RX5 yX5_ifRepeated wsX5_ifRepeated) := goodIn_app (goodIn_of _ (by decide +kernel)) ggL_law_X5_ifRepeated
theorem dL_law_0 : decode cL_law 0 = .ok (.new 9, 3) := by decide +kernel
theorem dL_law_3 : decode cL_law 3 = .ok (.dup, 1) := by decide +kernel
theorem dL_law_4 : decode cL_law 4 = .ok (.invokespecial 66, 3) := by decide +kernel
theorem dL_law_7 : decode cL_law 7 = .ok (.astore_n 1, 1) := by decide +kernel
theorem dL_law_8 : decode cL_law 8 = .ok (.aload_n 1, 1) := by decide +kernel
theorem dL_law_9 : decode cL_law 9 = .ok (.aload_n 0, 1) := by decide +kernel
theorem dL_law_10 : decode cL_law 10 = .ok (.iconst 0, 1) := by decide +kernel
theorem dL_law_11 : decode cL_law 11 = .ok (.invokestatic 67, 3) := by decide +kernel
theorem dL_law_14 : decode cL_law 14 = .ok (.invokestatic 30, 3) := by decide +kernel
theorem dL_law_17 : decode cL_law 17 = .ok (.iconst 1, 1) := by decide +kernel
theorem dL_law_18 : decode cL_law 18 = .ok (.istore_n 2, 1) := by decide +kernel
theorem dL_law_19 : decode cL_law 19 = .ok (.iload_n 2, 1) := by decide +kernel
theorem dL_law_20 : decode cL_law 20 = .ok (.bipush 40, 2) := by decide +kernel
theorem dL_law_22 : decode cL_law 22 = .ok (.if_icmp .ge 150, 3) := by decide +kernel
theorem dL_law_25 : decode cL_law 25 = .ok (.aload_n 0, 1) := by decide +kernel
theorem dL_law_26 : decode cL_law 26 = .ok (.iload_n 2, 1) := by decide +kernel
theorem dL_law_27 : decode cL_law 27 = .ok (.invokestatic 67, 3) := by decide +kernel
theorem dL_law_30 : decode cL_law 30 = .ok (.istore_n 3, 1) := by decide +kernel
theorem dL_law_31 : decode cL_law 31 = .ok (.aload_n 1, 1) := by decide +kernel
theorem dL_law_32 : decode cL_law 32 = .ok (.iload_n 3, 1) := by decide +kernel
theorem dL_law_33 : decode cL_law 33 = .ok (.invokestatic 71, 3) := by decide +kernel
theorem dL_law_36 : decode cL_law 36 = .ok (.aload_n 1, 1) := by decide +kernel
theorem dL_law_37 : decode cL_law 37 = .ok (.iload_n 3, 1) := by decide +kernel
theorem dL_law_38 : decode cL_law 38 = .ok (.iconst 5, 1) := by decide +kernel
theorem dL_law_39 : decode cL_law 39 = .ok (.ishr, 1) := by decide +kernel
theorem dL_law_40 : decode cL_law 40 = .ok (.iconst 4, 1) := by decide +kernel
theorem dL_law_41 : decode cL_law 41 = .ok (.invokestatic 14, 3) := by decide +kernel
theorem dL_law_44 : decode cL_law 44 = .ok (.invokestatic 74, 3) := by decide +kernel
theorem dL_law_47 : decode cL_law 47 = .ok (.ifCond .eq 52, 3) := by decide +kernel
theorem dL_law_50 : decode cL_law 50 = .ok (.aload_n 1, 1) := by decide +kernel
theorem dL_law_51 : decode cL_law 51 = .ok (.iconst 5, 1) := by decide +kernel
theorem dL_law_52 : decode cL_law 52 = .ok (.invokevirtual 24, 3) := by decide +kernel
theorem dL_law_55 : decode cL_law 55 = .ok (.aload_n 1, 1) := by decide +kernel
theorem dL_law_56 : decode cL_law 56 = .ok (.iconst 3, 1) := by decide +kernel
theorem dL_law_57 : decode cL_law 57 = .ok (.invokevirtual 24, 3) := by decide +kernel
theorem dL_law_60 : decode cL_law 60 = .ok (.if_icmp .ge 39, 3) := by decide +kernel
theorem dL_law_63 : decode cL_law 63 = .ok (.iload_n 2, 1) := by decide +kernel
theorem dL_law_64 : decode cL_law 64 = .ok (.iconst 5, 1) := by decide +kernel
theorem dL_law_65 : decode cL_law 65 = .ok (.irem, 1) := by decide +kernel
theorem dL_law_66 : decode cL_law 66 = .ok (.ifCond .ne 10, 3) := by decide +kernel
theorem dL_law_69 : decode cL_law 69 = .ok (.aload_n 1, 1) := by decide +kernel
theorem dL_law_70 : decode cL_law 70 = .ok (.invokestatic 78, 3) := by decide +kernel
theorem dL_law_73 : decode cL_law 73 = .ok (.ifCond .eq 26, 3) := by decide +kernel
theorem dL_law_76 : decode cL_law 76 = .ok (.iload_n 2, 1) := by decide +kernel
theorem dL_law_77 : decode cL_law 77 = .ok (.bipush 8, 2) := by decide +kernel
theorem dL_law_79 : decode cL_law 79 = .ok (.irem, 1) := by decide +kernel
theorem dL_law_80 : decode cL_law 80 = .ok (.bipush 7, 2) := by decide +kernel
theorem dL_law_82 : decode cL_law 82 = .ok (.if_icmp .ne 19, 3) := by decide +kernel
theorem dL_law_85 : decode cL_law 85 = .ok (.aload_n 1, 1) := by decide +kernel
theorem dL_law_86 : decode cL_law 86 = .ok (.iload_n 3, 1) := by decide +kernel
theorem dL_law_87 : decode cL_law 87 = .ok (.bipush 6, 2) := by decide +kernel
theorem dL_law_89 : decode cL_law 89 = .ok (.ishr, 1) := by decide +kernel
theorem dL_law_90 : decode cL_law 90 = .ok (.bipush 7, 2) := by decide +kernel
theorem dL_law_92 : decode cL_law 92 = .ok (.iand, 1) := by decide +kernel
theorem dL_law_93 : decode cL_law 93 = .ok (.invokestatic 82, 3) := by decide +kernel
theorem dL_law_96 : decode cL_law 96 = .ok (.ifCond .ne 5, 3) := by decide +kernel
theorem dL_law_99 : decode cL_law 99 = .ok (.iconst 0, 1) := by decide +kernel
theorem dL_law_100 : decode cL_law 100 = .ok (.ireturn, 1) := by decide +kernel
theorem dL_law_101 : decode cL_law 101 = .ok (.iload_n 3, 1) := by decide +kernel
theorem dL_law_102 : decode cL_law 102 = .ok (.bipush 7, 2) := by decide +kernel
theorem dL_law_104 : decode cL_law 104 = .ok (.ishr, 1) := by decide +kernel
theorem dL_law_105 : decode cL_law 105 = .ok (.iconst 4, 1) := by decide +kernel
theorem dL_law_106 : decode cL_law 106 = .ok (.invokestatic 14, 3) := by decide +kernel
theorem dL_law_109 : decode cL_law 109 = .ok (.istore 4, 2) := by decide +kernel
theorem dL_law_111 : decode cL_law 111 = .ok (.aload_n 1, 1) := by decide +kernel
theorem dL_law_112 : decode cL_law 112 = .ok (.iload 4, 2) := by decide +kernel
theorem dL_law_114 : decode cL_law 114 = .ok (.iconst 0, 1) := by decide +kernel
theorem dL_law_115 : decode cL_law 115 = .ok (.invokevirtual 54, 3) := by decide +kernel
theorem dL_law_118 : decode cL_law 118 = .ok (.istore 5, 2) := by decide +kernel
theorem dL_law_120 : decode cL_law 120 = .ok (.aload_n 1, 1) := by decide +kernel
theorem dL_law_121 : decode cL_law 121 = .ok (.invokevirtual 57, 3) := by decide +kernel
theorem dL_law_124 : decode cL_law 124 = .ok (.ifCond .ne 23, 3) := by decide +kernel
theorem dL_law_127 : decode cL_law 127 = .ok (.aload_n 1, 1) := by decide +kernel
theorem dL_law_128 : decode cL_law 128 = .ok (.iload 4, 2) := by decide +kernel
theorem dL_law_130 : decode cL_law 130 = .ok (.iconst 2, 1) := by decide +kernel
theorem dL_law_131 : decode cL_law 131 = .ok (.invokevirtual 54, 3) := by decide +kernel
theorem dL_law_134 : decode cL_law 134 = .ok (.aload_n 1, 1) := by decide +kernel
theorem dL_law_135 : decode cL_law 135 = .ok (.iload 5, 2) := by decide +kernel
theorem dL_law_137 : decode cL_law 137 = .ok (.iconst 3, 1) := by decide +kernel
theorem dL_law_138 : decode cL_law 138 = .ok (.invokevirtual 48, 3) := by decide +kernel
theorem dL_law_141 : decode cL_law 141 = .ok (.invokestatic 85, 3) := by decide +kernel
theorem dL_law_144 : decode cL_law 144 = .ok (.if_icmp .ne 20, 3) := by decide +kernel
theorem dL_law_147 : decode cL_law 147 = .ok (.aload_n 1, 1) := by decide +kernel
theorem dL_law_148 : decode cL_law 148 = .ok (.iload 4, 2) := by decide +kernel
theorem dL_law_150 : decode cL_law 150 = .ok (.iconst 1, 1) := by decide +kernel
theorem dL_law_151 : decode cL_law 151 = .ok (.invokevirtual 88, 3) := by decide +kernel
theorem dL_law_154 : decode cL_law 154 = .ok (.aload_n 1, 1) := by decide +kernel
theorem dL_law_155 : decode cL_law 155 = .ok (.iload 4, 2) := by decide +kernel
theorem dL_law_157 : decode cL_law 157 = .ok (.iconst 2, 1) := by decide +kernel
theorem dL_law_158 : decode cL_law 158 = .ok (.invokevirtual 54, 3) := by decide +kernel
theorem dL_law_161 : decode cL_law 161 = .ok (.if_icmp .eq 5, 3) := by decide +kernel
theorem dL_law_164 : decode cL_law 164 = .ok (.iconst 0, 1) := by decide +kernel
theorem dL_law_165 : decode cL_law 165 = .ok (.ireturn, 1) := by decide +kernel
theorem dL_law_166 : decode cL_law 166 = .ok (.iinc 2 1, 3) := by decide +kernel
theorem dL_law_169 : decode cL_law 169 = .ok (.goto (-150), 3) := by decide +kernel
theorem dL_law_172 : decode cL_law 172 = .ok (.iconst 1, 1) := by decide +kernel
theorem dL_law_173 : decode cL_law 173 = .ok (.ireturn, 1) := by decide +kernel
abbrev vwCl : List vw_C := [(RX0, TX0, 2), (RX1, TX1, 5), (RX2, TX2, 10), (RX4, TX4, 3), (RX5, TX5, 5)]
