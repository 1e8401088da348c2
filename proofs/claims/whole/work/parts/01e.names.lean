theorem dX5_bitsOf_19 : decode cX5_bitsOf 19 = .ok (.dconst 1, 1) := by decide +kernel
theorem dX5_bitsOf_20 : decode cX5_bitsOf 20 = .ok (.dcmp .g, 1) := by decide +kernel
theorem dX5_bitsOf_21 : decode cX5_bitsOf 21 = .ok (.ifCond .ge 21, 3) := by decide +kernel
theorem dX5_bitsOf_24 : decode cX5_bitsOf 24 = .ok (.dload_n 2, 1) := by decide +kernel
theorem dX5_bitsOf_25 : decode cX5_bitsOf 25 = .ok (.ldc2_w 352, 3) := by decide +kernel
theorem dX5_bitsOf_28 : decode cX5_bitsOf 28 = .ok (.dmul, 1) := by decide +kernel
theorem dX5_bitsOf_29 : decode cX5_bitsOf 29 = .ok (.dstore_n 2, 1) := by decide +kernel
theorem dX5_bitsOf_30 : decode cX5_bitsOf 30 = .ok (.lload 4, 2) := by decide +kernel
theorem dX5_bitsOf_32 : decode cX5_bitsOf 32 = .ok (.lconst 1, 1) := by decide +kernel
theorem dX5_bitsOf_33 : decode cX5_bitsOf 33 = .ok (.lsub, 1) := by decide +kernel
theorem dX5_bitsOf_34 : decode cX5_bitsOf 34 = .ok (.lstore 4, 2) := by decide +kernel
theorem dX5_bitsOf_36 : decode cX5_bitsOf 36 = .ok (.iinc 6 1, 3) := by decide +kernel
theorem dX5_bitsOf_39 : decode cX5_bitsOf 39 = .ok (.goto (-29), 3) := by decide +kernel
theorem dX5_bitsOf_42 : decode cX5_bitsOf 42 = .ok (.dload_n 2, 1) := by decide +kernel
theorem dX5_bitsOf_43 : decode cX5_bitsOf 43 = .ok (.dconst 1, 1) := by decide +kernel
theorem dX5_bitsOf_44 : decode cX5_bitsOf 44 = .ok (.dsub, 1) := by decide +kernel
theorem dX5_bitsOf_45 : decode cX5_bitsOf 45 = .ok (.ldc2_w 354, 3) := by decide +kernel
theorem dX5_bitsOf_48 : decode cX5_bitsOf 48 = .ok (.dmul, 1) := by decide +kernel
theorem dX5_bitsOf_49 : decode cX5_bitsOf 49 = .ok (.d2l, 1) := by decide +kernel
theorem dX5_bitsOf_50 : decode cX5_bitsOf 50 = .ok (.lstore 6, 2) := by decide +kernel
theorem dX5_bitsOf_52 : decode cX5_bitsOf 52 = .ok (.lload 4, 2) := by decide +kernel
theorem dX5_bitsOf_54 : decode cX5_bitsOf 54 = .ok (.bipush 52, 2) := by decide +kernel
theorem dX5_bitsOf_56 : decode cX5_bitsOf 56 = .ok (.lshl, 1) := by decide +kernel
theorem dX5_bitsOf_57 : decode cX5_bitsOf 57 = .ok (.lload 6, 2) := by decide +kernel
theorem dX5_bitsOf_59 : decode cX5_bitsOf 59 = .ok (.ladd, 1) := by decide +kernel
theorem dX5_bitsOf_60 : decode cX5_bitsOf 60 = .ok (.lreturn, 1) := by decide +kernel
set_option maxRecDepth 20000 in
theorem ggX6_init_X6_clear : GoodIn wsX6_init wsX6_clear := goodIn_r _ [15, 5, 16, 17, 18, 19, 20, 21, 22, 23, 24, 25, 26, 27, 28, 29, 30, 31] (by decide +kernel) (by decide +kernel)
set_option maxRecDepth 20000 in
theorem gX6_init_X6_clear : GoodIn wsX6_init (wsV RX6 28 RX6 yX6_clear wsX6_clear) := goodIn_app (goodIn_of _ (by decide +kernel)) ggX6_init_X6_clear
theorem dX6_init_0 : decode cX6_init 0 = .ok (.aload_n 0, 1) := by decide +kernel
theorem dX6_init_1 : decode cX6_init 1 = .ok (.invokespecial 1, 3) := by decide +kernel
theorem dX6_init_4 : decode cX6_init 4 = .ok (.aload_n 0, 1) := by decide +kernel
theorem dX6_init_5 : decode cX6_init 5 = .ok (.bipush 31, 2) := by decide +kernel
theorem dX6_init_7 : decode cX6_init 7 = .ok (.newarray .int, 2) := by decide +kernel
theorem dX6_init_9 : decode cX6_init 9 = .ok (.putfield 7, 3) := by decide +kernel
theorem dX6_init_12 : decode cX6_init 12 = .ok (.aload_n 0, 1) := by decide +kernel
theorem dX6_init_13 : decode cX6_init 13 = .ok (.bipush 31, 2) := by decide +kernel
theorem dX6_init_15 : decode cX6_init 15 = .ok (.newarray .int, 2) := by decide +kernel
theorem dX6_init_17 : decode cX6_init 17 = .ok (.putfield 13, 3) := by decide +kernel
theorem dX6_init_20 : decode cX6_init 20 = .ok (.aload_n 0, 1) := by decide +kernel
theorem dX6_init_21 : decode cX6_init 21 = .ok (.sipush 186, 3) := by decide +kernel
theorem dX6_init_24 : decode cX6_init 24 = .ok (.newarray .int, 2) := by decide +kernel
theorem dX6_init_26 : decode cX6_init 26 = .ok (.putfield 16, 3) := by decide +kernel
theorem dX6_init_29 : decode cX6_init 29 = .ok (.aload_n 0, 1) := by decide +kernel
theorem dX6_init_30 : decode cX6_init 30 = .ok (.bipush 60, 2) := by decide +kernel
theorem dX6_init_32 : decode cX6_init 32 = .ok (.newarray .int, 2) := by decide +kernel
theorem dX6_init_34 : decode cX6_init 34 = .ok (.putfield 19, 3) := by decide +kernel
theorem dX6_init_37 : decode cX6_init 37 = .ok (.aload_n 0, 1) := by decide +kernel
theorem dX6_init_38 : decode cX6_init 38 = .ok (.bipush 66, 2) := by decide +kernel
theorem dX6_init_40 : decode cX6_init 40 = .ok (.newarray .int, 2) := by decide +kernel
theorem dX6_init_42 : decode cX6_init 42 = .ok (.putfield 22, 3) := by decide +kernel
theorem dX6_init_45 : decode cX6_init 45 = .ok (.aload_n 0, 1) := by decide +kernel
theorem dX6_init_46 : decode cX6_init 46 = .ok (.bipush 31, 2) := by decide +kernel
theorem dX6_init_48 : decode cX6_init 48 = .ok (.newarray .int, 2) := by decide +kernel
theorem dX6_init_50 : decode cX6_init 50 = .ok (.putfield 25, 3) := by decide +kernel
theorem dX6_init_53 : decode cX6_init 53 = .ok (.aload_n 0, 1) := by decide +kernel
theorem dX6_init_54 : decode cX6_init 54 = .ok (.invokevirtual 28, 3) := by decide +kernel
theorem dX6_init_57 : decode cX6_init 57 = .ok (.return_, 1) := by decide +kernel
theorem dX6_thrown_0 : decode cX6_thrown 0 = .ok (.aload_n 0, 1) := by decide +kernel
theorem dX6_thrown_1 : decode cX6_thrown 1 = .ok (.getfield 31, 3) := by decide +kernel
theorem dX6_thrown_4 : decode cX6_thrown 4 = .ok (.ireturn, 1) := by decide +kernel
theorem dX6_in_0 : decode cX6_in 0 = .ok (.iload_n 0, 1) := by decide +kernel
theorem dX6_in_1 : decode cX6_in 1 = .ok (.iload_n 1, 1) := by decide +kernel
theorem dX6_in_2 : decode cX6_in 2 = .ok (.if_icmp .lt 12, 3) := by decide +kernel
theorem dX6_in_5 : decode cX6_in 5 = .ok (.iload_n 0, 1) := by decide +kernel
theorem dX6_in_6 : decode cX6_in 6 = .ok (.iload_n 2, 1) := by decide +kernel
theorem dX6_in_7 : decode cX6_in 7 = .ok (.if_icmp .gt 7, 3) := by decide +kernel
theorem dX6_in_10 : decode cX6_in 10 = .ok (.iconst 1, 1) := by decide +kernel
theorem dX6_in_11 : decode cX6_in 11 = .ok (.goto 4, 3) := by decide +kernel
theorem dX6_in_14 : decode cX6_in 14 = .ok (.iconst 0, 1) := by decide +kernel
theorem dX6_in_15 : decode cX6_in 15 = .ok (.ireturn, 1) := by decide +kernel
theorem dX6_holds_0 : decode cX6_holds 0 = .ok (.aload_n 0, 1) := by decide +kernel
theorem dX6_holds_1 : decode cX6_holds 1 = .ok (.iload_n 1, 1) := by decide +kernel
theorem dX6_holds_2 : decode cX6_holds 2 = .ok (.putfield 31, 3) := by decide +kernel
theorem dX6_holds_5 : decode cX6_holds 5 = .ok (.iload_n 1, 1) := by decide +kernel
theorem dX6_holds_6 : decode cX6_holds 6 = .ok (.ifCond .ne 7, 3) := by decide +kernel
theorem dX6_holds_9 : decode cX6_holds 9 = .ok (.iconst 1, 1) := by decide +kernel
theorem dX6_holds_10 : decode cX6_holds 10 = .ok (.goto 4, 3) := by decide +kernel
theorem dX6_holds_13 : decode cX6_holds 13 = .ok (.iconst 0, 1) := by decide +kernel
theorem dX6_holds_14 : decode cX6_holds 14 = .ok (.ireturn, 1) := by decide +kernel
theorem dX6_save_0 : decode cX6_save 0 = .ok (.aload_n 0, 1) := by decide +kernel
theorem dX6_save_1 : decode cX6_save 1 = .ok (.getfield 35, 3) := by decide +kernel
theorem dX6_save_4 : decode cX6_save 4 = .ok (.bipush 6, 2) := by decide +kernel
theorem dX6_save_6 : decode cX6_save 6 = .ok (.if_icmp .ne 43, 3) := by decide +kernel
theorem dX6_save_9 : decode cX6_save 9 = .ok (.iconst 0, 1) := by decide +kernel
theorem dX6_save_10 : decode cX6_save 10 = .ok (.istore_n 1, 1) := by decide +kernel
theorem dX6_save_11 : decode cX6_save 11 = .ok (.iload_n 1, 1) := by decide +kernel
theorem dX6_save_12 : decode cX6_save 12 = .ok (.sipush 155, 3) := by decide +kernel
theorem dX6_save_15 : decode cX6_save 15 = .ok (.if_icmp .ge 24, 3) := by decide +kernel
theorem dX6_save_18 : decode cX6_save 18 = .ok (.aload_n 0, 1) := by decide +kernel
theorem dX6_save_19 : decode cX6_save 19 = .ok (.getfield 16, 3) := by decide +kernel
theorem dX6_save_22 : decode cX6_save 22 = .ok (.iload_n 1, 1) := by decide +kernel
theorem dX6_save_23 : decode cX6_save 23 = .ok (.aload_n 0, 1) := by decide +kernel
theorem dX6_save_24 : decode cX6_save 24 = .ok (.getfield 16, 3) := by decide +kernel
theorem dX6_save_27 : decode cX6_save 27 = .ok (.bipush 31, 2) := by decide +kernel
theorem dX6_save_29 : decode cX6_save 29 = .ok (.iload_n 1, 1) := by decide +kernel
theorem dX6_save_30 : decode cX6_save 30 = .ok (.iadd, 1) := by decide +kernel
theorem dX6_save_31 : decode cX6_save 31 = .ok (.iaload, 1) := by decide +kernel
theorem dX6_save_32 : decode cX6_save 32 = .ok (.iastore, 1) := by decide +kernel
theorem dX6_save_33 : decode cX6_save 33 = .ok (.iinc 1 1, 3) := by decide +kernel
theorem dX6_save_36 : decode cX6_save 36 = .ok (.goto (-25), 3) := by decide +kernel
theorem dX6_save_39 : decode cX6_save 39 = .ok (.aload_n 0, 1) := by decide +kernel
theorem dX6_save_40 : decode cX6_save 40 = .ok (.dup, 1) := by decide +kernel
theorem dX6_save_41 : decode cX6_save 41 = .ok (.getfield 35, 3) := by decide +kernel
theorem dX6_save_44 : decode cX6_save 44 = .ok (.iconst 1, 1) := by decide +kernel
theorem dX6_save_45 : decode cX6_save 45 = .ok (.isub, 1) := by decide +kernel
theorem dX6_save_46 : decode cX6_save 46 = .ok (.putfield 35, 3) := by decide +kernel
theorem dX6_save_49 : decode cX6_save 49 = .ok (.iconst 0, 1) := by decide +kernel
theorem dX6_save_50 : decode cX6_save 50 = .ok (.istore_n 1, 1) := by decide +kernel
theorem dX6_save_51 : decode cX6_save 51 = .ok (.iload_n 1, 1) := by decide +kernel
theorem dX6_save_52 : decode cX6_save 52 = .ok (.bipush 31, 2) := by decide +kernel
theorem dX6_save_54 : decode cX6_save 54 = .ok (.if_icmp .ge 29, 3) := by decide +kernel
theorem dX6_save_57 : decode cX6_save 57 = .ok (.aload_n 0, 1) := by decide +kernel
theorem dX6_save_58 : decode cX6_save 58 = .ok (.getfield 16, 3) := by decide +kernel
theorem dX6_save_61 : decode cX6_save 61 = .ok (.bipush 31, 2) := by decide +kernel
theorem dX6_save_63 : decode cX6_save 63 = .ok (.aload_n 0, 1) := by decide +kernel
theorem dX6_save_64 : decode cX6_save 64 = .ok (.getfield 35, 3) := by decide +kernel
theorem dX6_save_67 : decode cX6_save 67 = .ok (.imul, 1) := by decide +kernel
theorem dX6_save_68 : decode cX6_save 68 = .ok (.iload_n 1, 1) := by decide +kernel
theorem dX6_save_69 : decode cX6_save 69 = .ok (.iadd, 1) := by decide +kernel
theorem dX6_save_70 : decode cX6_save 70 = .ok (.aload_n 0, 1) := by decide +kernel
theorem dX6_save_71 : decode cX6_save 71 = .ok (.getfield 7, 3) := by decide +kernel
theorem dX6_save_74 : decode cX6_save 74 = .ok (.iload_n 1, 1) := by decide +kernel
theorem dX6_save_75 : decode cX6_save 75 = .ok (.iaload, 1) := by decide +kernel
theorem dX6_save_76 : decode cX6_save 76 = .ok (.iastore, 1) := by decide +kernel
theorem dX6_save_77 : decode cX6_save 77 = .ok (.iinc 1 1, 3) := by decide +kernel
theorem dX6_save_80 : decode cX6_save 80 = .ok (.goto (-29), 3) := by decide +kernel
theorem dX6_save_83 : decode cX6_save 83 = .ok (.aload_n 0, 1) := by decide +kernel
theorem dX6_save_84 : decode cX6_save 84 = .ok (.dup, 1) := by decide +kernel
theorem dX6_save_85 : decode cX6_save 85 = .ok (.getfield 35, 3) := by decide +kernel
theorem dX6_save_88 : decode cX6_save 88 = .ok (.iconst 1, 1) := by decide +kernel
theorem dX6_save_89 : decode cX6_save 89 = .ok (.iadd, 1) := by decide +kernel
theorem dX6_save_90 : decode cX6_save 90 = .ok (.putfield 35, 3) := by decide +kernel
theorem dX6_save_93 : decode cX6_save 93 = .ok (.return_, 1) := by decide +kernel
theorem dX6_putAside_0 : decode cX6_putAside 0 = .ok (.iconst 0, 1) := by decide +kernel
theorem dX6_putAside_1 : decode cX6_putAside 1 = .ok (.istore_n 1, 1) := by decide +kernel
theorem dX6_putAside_2 : decode cX6_putAside 2 = .ok (.iload_n 1, 1) := by decide +kernel
theorem dX6_putAside_3 : decode cX6_putAside 3 = .ok (.bipush 31, 2) := by decide +kernel
theorem dX6_putAside_5 : decode cX6_putAside 5 = .ok (.if_icmp .ge 21, 3) := by decide +kernel
theorem dX6_putAside_8 : decode cX6_putAside 8 = .ok (.aload_n 0, 1) := by decide +kernel
theorem dX6_putAside_9 : decode cX6_putAside 9 = .ok (.getfield 13, 3) := by decide +kernel
theorem dX6_putAside_12 : decode cX6_putAside 12 = .ok (.iload_n 1, 1) := by decide +kernel
theorem dX6_putAside_13 : decode cX6_putAside 13 = .ok (.aload_n 0, 1) := by decide +kernel
theorem dX6_putAside_14 : decode cX6_putAside 14 = .ok (.getfield 7, 3) := by decide +kernel
theorem dX6_putAside_17 : decode cX6_putAside 17 = .ok (.iload_n 1, 1) := by decide +kernel
theorem dX6_putAside_18 : decode cX6_putAside 18 = .ok (.iaload, 1) := by decide +kernel
theorem dX6_putAside_19 : decode cX6_putAside 19 = .ok (.iastore, 1) := by decide +kernel
theorem dX6_putAside_20 : decode cX6_putAside 20 = .ok (.iinc 1 1, 3) := by decide +kernel
theorem dX6_putAside_23 : decode cX6_putAside 23 = .ok (.goto (-21), 3) := by decide +kernel
theorem dX6_putAside_26 : decode cX6_putAside 26 = .ok (.return_, 1) := by decide +kernel
theorem dX6_putBack_0 : decode cX6_putBack 0 = .ok (.iconst 0, 1) := by decide +kernel
theorem dX6_putBack_1 : decode cX6_putBack 1 = .ok (.istore_n 1, 1) := by decide +kernel
theorem dX6_putBack_2 : decode cX6_putBack 2 = .ok (.iload_n 1, 1) := by decide +kernel
theorem dX6_putBack_3 : decode cX6_putBack 3 = .ok (.bipush 31, 2) := by decide +kernel
theorem dX6_putBack_5 : decode cX6_putBack 5 = .ok (.if_icmp .ge 21, 3) := by decide +kernel
theorem dX6_putBack_8 : decode cX6_putBack 8 = .ok (.aload_n 0, 1) := by decide +kernel
theorem dX6_putBack_9 : decode cX6_putBack 9 = .ok (.getfield 7, 3) := by decide +kernel
theorem dX6_putBack_12 : decode cX6_putBack 12 = .ok (.iload_n 1, 1) := by decide +kernel
theorem dX6_putBack_13 : decode cX6_putBack 13 = .ok (.aload_n 0, 1) := by decide +kernel
theorem dX6_putBack_14 : decode cX6_putBack 14 = .ok (.getfield 13, 3) := by decide +kernel
theorem dX6_putBack_17 : decode cX6_putBack 17 = .ok (.iload_n 1, 1) := by decide +kernel
theorem dX6_putBack_18 : decode cX6_putBack 18 = .ok (.iaload, 1) := by decide +kernel
theorem dX6_putBack_19 : decode cX6_putBack 19 = .ok (.iastore, 1) := by decide +kernel
theorem dX6_putBack_20 : decode cX6_putBack 20 = .ok (.iinc 1 1, 3) := by decide +kernel
theorem dX6_putBack_23 : decode cX6_putBack 23 = .ok (.goto (-21), 3) := by decide +kernel
theorem dX6_putBack_26 : decode cX6_putBack 26 = .ok (.return_, 1) := by decide +kernel
theorem dX6_clear_0 : decode cX6_clear 0 = .ok (.iconst 0, 1) := by decide +kernel
theorem dX6_clear_1 : decode cX6_clear 1 = .ok (.istore_n 1, 1) := by decide +kernel
theorem dX6_clear_2 : decode cX6_clear 2 = .ok (.iload_n 1, 1) := by decide +kernel
theorem dX6_clear_3 : decode cX6_clear 3 = .ok (.bipush 8, 2) := by decide +kernel
theorem dX6_clear_5 : decode cX6_clear 5 = .ok (.if_icmp .ge 29, 3) := by decide +kernel
theorem dX6_clear_8 : decode cX6_clear 8 = .ok (.aload_n 0, 1) := by decide +kernel
theorem dX6_clear_9 : decode cX6_clear 9 = .ok (.getfield 7, 3) := by decide +kernel
theorem dX6_clear_12 : decode cX6_clear 12 = .ok (.bipush 8, 2) := by decide +kernel
theorem dX6_clear_14 : decode cX6_clear 14 = .ok (.iload_n 1, 1) := by decide +kernel
theorem dX6_clear_15 : decode cX6_clear 15 = .ok (.iadd, 1) := by decide +kernel
theorem dX6_clear_16 : decode cX6_clear 16 = .ok (.iconst 0, 1) := by decide +kernel
theorem dX6_clear_17 : decode cX6_clear 17 = .ok (.iastore, 1) := by decide +kernel
theorem dX6_clear_18 : decode cX6_clear 18 = .ok (.aload_n 0, 1) := by decide +kernel
theorem dX6_clear_19 : decode cX6_clear 19 = .ok (.getfield 7, 3) := by decide +kernel
theorem dX6_clear_22 : decode cX6_clear 22 = .ok (.bipush 16, 2) := by decide +kernel
theorem dX6_clear_24 : decode cX6_clear 24 = .ok (.iload_n 1, 1) := by decide +kernel
theorem dX6_clear_25 : decode cX6_clear 25 = .ok (.iadd, 1) := by decide +kernel
theorem dX6_clear_26 : decode cX6_clear 26 = .ok (.iconst (-1), 1) := by decide +kernel
theorem dX6_clear_27 : decode cX6_clear 27 = .ok (.iastore, 1) := by decide +kernel
theorem dX6_clear_28 : decode cX6_clear 28 = .ok (.iinc 1 1, 3) := by decide +kernel
theorem dX6_clear_31 : decode cX6_clear 31 = .ok (.goto (-29), 3) := by decide +kernel
theorem dX6_clear_34 : decode cX6_clear 34 = .ok (.aload_n 0, 1) := by decide +kernel
theorem dX6_clear_35 : decode cX6_clear 35 = .ok (.getfield 7, 3) := by decide +kernel
theorem dX6_clear_38 : decode cX6_clear 38 = .ok (.bipush 25, 2) := by decide +kernel
theorem dX6_clear_40 : decode cX6_clear 40 = .ok (.iconst 0, 1) := by decide +kernel
theorem dX6_clear_41 : decode cX6_clear 41 = .ok (.iastore, 1) := by decide +kernel
theorem dX6_clear_42 : decode cX6_clear 42 = .ok (.aload_n 0, 1) := by decide +kernel
theorem dX6_clear_43 : decode cX6_clear 43 = .ok (.getfield 7, 3) := by decide +kernel
theorem dX6_clear_46 : decode cX6_clear 46 = .ok (.bipush 26, 2) := by decide +kernel
theorem dX6_clear_48 : decode cX6_clear 48 = .ok (.iconst 0, 1) := by decide +kernel
theorem dX6_clear_49 : decode cX6_clear 49 = .ok (.iastore, 1) := by decide +kernel
theorem dX6_clear_50 : decode cX6_clear 50 = .ok (.aload_n 0, 1) := by decide +kernel
theorem dX6_clear_51 : decode cX6_clear 51 = .ok (.getfield 7, 3) := by decide +kernel
theorem dX6_clear_54 : decode cX6_clear 54 = .ok (.bipush 27, 2) := by decide +kernel
theorem dX6_clear_56 : decode cX6_clear 56 = .ok (.iconst 0, 1) := by decide +kernel
theorem dX6_clear_57 : decode cX6_clear 57 = .ok (.iastore, 1) := by decide +kernel
theorem dX6_clear_58 : decode cX6_clear 58 = .ok (.aload_n 0, 1) := by decide +kernel
theorem dX6_clear_59 : decode cX6_clear 59 = .ok (.getfield 7, 3) := by decide +kernel
theorem dX6_clear_62 : decode cX6_clear 62 = .ok (.bipush 28, 2) := by decide +kernel
theorem dX6_clear_64 : decode cX6_clear 64 = .ok (.iconst (-1), 1) := by decide +kernel
theorem dX6_clear_65 : decode cX6_clear 65 = .ok (.iastore, 1) := by decide +kernel
theorem dX6_clear_66 : decode cX6_clear 66 = .ok (.aload_n 0, 1) := by decide +kernel
theorem dX6_clear_67 : decode cX6_clear 67 = .ok (.getfield 7, 3) := by decide +kernel
theorem dX6_clear_70 : decode cX6_clear 70 = .ok (.bipush 29, 2) := by decide +kernel
theorem dX6_clear_72 : decode cX6_clear 72 = .ok (.iconst 0, 1) := by decide +kernel
theorem dX6_clear_73 : decode cX6_clear 73 = .ok (.iastore, 1) := by decide +kernel
theorem dX6_clear_74 : decode cX6_clear 74 = .ok (.aload_n 0, 1) := by decide +kernel
theorem dX6_clear_75 : decode cX6_clear 75 = .ok (.getfield 7, 3) := by decide +kernel
theorem dX6_clear_78 : decode cX6_clear 78 = .ok (.bipush 30, 2) := by decide +kernel
theorem dX6_clear_80 : decode cX6_clear 80 = .ok (.iconst 0, 1) := by decide +kernel
theorem dX6_clear_81 : decode cX6_clear 81 = .ok (.iastore, 1) := by decide +kernel
theorem dX6_clear_82 : decode cX6_clear 82 = .ok (.return_, 1) := by decide +kernel
theorem dX6_lengthOf_0 : decode cX6_lengthOf 0 = .ok (.iconst 0, 1) := by decide +kernel
theorem dX6_lengthOf_1 : decode cX6_lengthOf 1 = .ok (.istore_n 1, 1) := by decide +kernel
theorem dX6_lengthOf_2 : decode cX6_lengthOf 2 = .ok (.iload_n 0, 1) := by decide +kernel
theorem dX6_lengthOf_3 : decode cX6_lengthOf 3 = .ok (.iconst 2, 1) := by decide +kernel
theorem dX6_lengthOf_4 : decode cX6_lengthOf 4 = .ok (.iload_n 1, 1) := by decide +kernel
theorem dX6_lengthOf_5 : decode cX6_lengthOf 5 = .ok (.imul, 1) := by decide +kernel
theorem dX6_lengthOf_6 : decode cX6_lengthOf 6 = .ok (.ishr, 1) := by decide +kernel
theorem dX6_lengthOf_7 : decode cX6_lengthOf 7 = .ok (.iconst 1, 1) := by decide +kernel
theorem dX6_lengthOf_8 : decode cX6_lengthOf 8 = .ok (.if_icmp .le 9, 3) := by decide +kernel
theorem dX6_lengthOf_11 : decode cX6_lengthOf 11 = .ok (.iinc 1 1, 3) := by decide +kernel
theorem dX6_lengthOf_14 : decode cX6_lengthOf 14 = .ok (.goto (-12), 3) := by decide +kernel
theorem dX6_lengthOf_17 : decode cX6_lengthOf 17 = .ok (.iload_n 1, 1) := by decide +kernel
theorem dX6_lengthOf_18 : decode cX6_lengthOf 18 = .ok (.ireturn, 1) := by decide +kernel
theorem dX6_endOf_0 : decode cX6_endOf 0 = .ok (.iconst 1, 1) := by decide +kernel
theorem dX6_endOf_1 : decode cX6_endOf 1 = .ok (.iconst 2, 1) := by decide +kernel
theorem dX6_endOf_2 : decode cX6_endOf 2 = .ok (.iload_n 1, 1) := by decide +kernel
theorem dX6_endOf_3 : decode cX6_endOf 3 = .ok (.imul, 1) := by decide +kernel
theorem dX6_endOf_4 : decode cX6_endOf 4 = .ok (.ishl, 1) := by decide +kernel
theorem dX6_endOf_5 : decode cX6_endOf 5 = .ok (.iload_n 0, 1) := by decide +kernel
theorem dX6_endOf_6 : decode cX6_endOf 6 = .ok (.iconst 1, 1) := by decide +kernel
theorem dX6_endOf_7 : decode cX6_endOf 7 = .ok (.iconst 2, 1) := by decide +kernel
theorem dX6_endOf_8 : decode cX6_endOf 8 = .ok (.iload_n 1, 1) := by decide +kernel
theorem dX6_endOf_9 : decode cX6_endOf 9 = .ok (.imul, 1) := by decide +kernel
theorem dX6_endOf_10 : decode cX6_endOf 10 = .ok (.ishl, 1) := by decide +kernel
theorem dX6_endOf_11 : decode cX6_endOf 11 = .ok (.irem, 1) := by decide +kernel
theorem dX6_endOf_12 : decode cX6_endOf 12 = .ok (.iadd, 1) := by decide +kernel
theorem dX6_endOf_13 : decode cX6_endOf 13 = .ok (.ireturn, 1) := by decide +kernel
set_option maxRecDepth 20000 in
theorem ggX6_beginOf_X6_lengthOf : GoodIn wsX6_beginOf wsX6_lengthOf := goodIn_r _ [4] (by decide +kernel) (by decide +kernel)
set_option maxRecDepth 20000 in
theorem gX6_beginOf_X6_lengthOf : GoodIn wsX6_beginOf (va_wsS RX6 38 yX6_lengthOf wsX6_lengthOf) := goodIn_app (goodIn_of _ (by decide +kernel)) ggX6_beginOf_X6_lengthOf
theorem dX6_beginOf_0 : decode cX6_beginOf 0 = .ok (.iload_n 0, 1) := by decide +kernel
theorem dX6_beginOf_1 : decode cX6_beginOf 1 = .ok (.iconst 2, 1) := by decide +kernel
theorem dX6_beginOf_2 : decode cX6_beginOf 2 = .ok (.iload_n 0, 1) := by decide +kernel
theorem dX6_beginOf_3 : decode cX6_beginOf 3 = .ok (.invokestatic 38, 3) := by decide +kernel
theorem dX6_beginOf_6 : decode cX6_beginOf 6 = .ok (.iload_n 1, 1) := by decide +kernel
theorem dX6_beginOf_7 : decode cX6_beginOf 7 = .ok (.isub, 1) := by decide +kernel
theorem dX6_beginOf_8 : decode cX6_beginOf 8 = .ok (.imul, 1) := by decide +kernel
theorem dX6_beginOf_9 : decode cX6_beginOf 9 = .ok (.ishr, 1) := by decide +kernel
theorem dX6_beginOf_10 : decode cX6_beginOf 10 = .ok (.ireturn, 1) := by decide +kernel
set_option maxRecDepth 20000 in
theorem ggX6_isEnd_X6_lengthOf : GoodIn wsX6_isEnd wsX6_lengthOf := goodIn_r _ [4] (by decide +kernel) (by decide +kernel)
set_option maxRecDepth 20000 in
theorem gX6_isEnd_X6_lengthOf : GoodIn wsX6_isEnd (va_wsS RX6 38 yX6_lengthOf wsX6_lengthOf) := goodIn_app (goodIn_of _ (by decide +kernel)) ggX6_isEnd_X6_lengthOf
set_option maxRecDepth 20000 in
theorem ggX6_isEnd_X6_endOf : GoodIn wsX6_isEnd wsX6_endOf := goodIn_r _ [7] (by decide +kernel) (by decide +kernel)
set_option maxRecDepth 20000 in
theorem gX6_isEnd_X6_endOf : GoodIn wsX6_isEnd (va_wsS RX6 42 yX6_endOf wsX6_endOf) := goodIn_app (goodIn_of _ (by decide +kernel)) ggX6_isEnd_X6_endOf
theorem dX6_isEnd_0 : decode cX6_isEnd 0 = .ok (.iload_n 1, 1) := by decide +kernel
theorem dX6_isEnd_1 : decode cX6_isEnd 1 = .ok (.invokestatic 38, 3) := by decide +kernel
theorem dX6_isEnd_4 : decode cX6_isEnd 4 = .ok (.iload_n 0, 1) := by decide +kernel
theorem dX6_isEnd_5 : decode cX6_isEnd 5 = .ok (.invokestatic 38, 3) := by decide +kernel
theorem dX6_isEnd_8 : decode cX6_isEnd 8 = .ok (.if_icmp .gt 19, 3) := by decide +kernel
theorem dX6_isEnd_11 : decode cX6_isEnd 11 = .ok (.iload_n 0, 1) := by decide +kernel
theorem dX6_isEnd_12 : decode cX6_isEnd 12 = .ok (.iload_n 1, 1) := by decide +kernel
theorem dX6_isEnd_13 : decode cX6_isEnd 13 = .ok (.invokestatic 38, 3) := by decide +kernel
theorem dX6_isEnd_16 : decode cX6_isEnd 16 = .ok (.invokestatic 42, 3) := by decide +kernel
theorem dX6_isEnd_19 : decode cX6_isEnd 19 = .ok (.iload_n 1, 1) := by decide +kernel
theorem dX6_isEnd_20 : decode cX6_isEnd 20 = .ok (.if_icmp .ne 7, 3) := by decide +kernel
theorem dX6_isEnd_23 : decode cX6_isEnd 23 = .ok (.iconst 1, 1) := by decide +kernel
theorem dX6_isEnd_24 : decode cX6_isEnd 24 = .ok (.goto 4, 3) := by decide +kernel
theorem dX6_isEnd_27 : decode cX6_isEnd 27 = .ok (.iconst 0, 1) := by decide +kernel
theorem dX6_isEnd_28 : decode cX6_isEnd 28 = .ok (.ireturn, 1) := by decide +kernel
set_option maxRecDepth 20000 in
theorem ggX6_isBegin_X6_lengthOf : GoodIn wsX6_isBegin wsX6_lengthOf := goodIn_r _ [4] (by decide +kernel) (by decide +kernel)
set_option maxRecDepth 20000 in
theorem gX6_isBegin_X6_lengthOf : GoodIn wsX6_isBegin (va_wsS RX6 38 yX6_lengthOf wsX6_lengthOf) := goodIn_app (goodIn_of _ (by decide +kernel)) ggX6_isBegin_X6_lengthOf
set_option maxRecDepth 20000 in
theorem ggX6_isBegin_X6_beginOf : GoodIn wsX6_isBegin wsX6_beginOf := goodIn_r _ [7, 1, 2, 3, 4] (by decide +kernel) (by decide +kernel)
set_option maxRecDepth 20000 in
theorem gX6_isBegin_X6_beginOf : GoodIn wsX6_isBegin (va_wsS RX6 46 yX6_beginOf wsX6_beginOf) := goodIn_app (goodIn_of _ (by decide +kernel)) ggX6_isBegin_X6_beginOf
theorem dX6_isBegin_0 : decode cX6_isBegin 0 = .ok (.iload_n 1, 1) := by decide +kernel
theorem dX6_isBegin_1 : decode cX6_isBegin 1 = .ok (.invokestatic 38, 3) := by decide +kernel
theorem dX6_isBegin_4 : decode cX6_isBegin 4 = .ok (.iload_n 0, 1) := by decide +kernel
theorem dX6_isBegin_5 : decode cX6_isBegin 5 = .ok (.invokestatic 38, 3) := by decide +kernel
theorem dX6_isBegin_8 : decode cX6_isBegin 8 = .ok (.if_icmp .gt 19, 3) := by decide +kernel
theorem dX6_isBegin_11 : decode cX6_isBegin 11 = .ok (.iload_n 0, 1) := by decide +kernel
theorem dX6_isBegin_12 : decode cX6_isBegin 12 = .ok (.iload_n 1, 1) := by decide +kernel
theorem dX6_isBegin_13 : decode cX6_isBegin 13 = .ok (.invokestatic 38, 3) := by decide +kernel
theorem dX6_isBegin_16 : decode cX6_isBegin 16 = .ok (.invokestatic 46, 3) := by decide +kernel
theorem dX6_isBegin_19 : decode cX6_isBegin 19 = .ok (.iload_n 1, 1) := by decide +kernel
theorem dX6_isBegin_20 : decode cX6_isBegin 20 = .ok (.if_icmp .ne 7, 3) := by decide +kernel
theorem dX6_isBegin_23 : decode cX6_isBegin 23 = .ok (.iconst 1, 1) := by decide +kernel
theorem dX6_isBegin_24 : decode cX6_isBegin 24 = .ok (.goto 4, 3) := by decide +kernel
theorem dX6_isBegin_27 : decode cX6_isBegin 27 = .ok (.iconst 0, 1) := by decide +kernel
theorem dX6_isBegin_28 : decode cX6_isBegin 28 = .ok (.ireturn, 1) := by decide +kernel
set_option maxRecDepth 20000 in
theorem ggX6_isPart_X6_lengthOf : GoodIn wsX6_isPart wsX6_lengthOf := goodIn_r _ [4] (by decide +kernel) (by decide +kernel)
set_option maxRecDepth 20000 in
theorem gX6_isPart_X6_lengthOf : GoodIn wsX6_isPart (va_wsS RX6 38 yX6_lengthOf wsX6_lengthOf) := goodIn_app (goodIn_of _ (by decide +kernel)) ggX6_isPart_X6_lengthOf
set_option maxRecDepth 20000 in
theorem ggX6_isPart_X6_beginOf : GoodIn wsX6_isPart wsX6_beginOf := goodIn_r _ [7, 1, 2, 3, 4] (by decide +kernel) (by decide +kernel)
set_option maxRecDepth 20000 in
theorem gX6_isPart_X6_beginOf : GoodIn wsX6_isPart (va_wsS RX6 46 yX6_beginOf wsX6_beginOf) := goodIn_app (goodIn_of _ (by decide +kernel)) ggX6_isPart_X6_beginOf
set_option maxRecDepth 20000 in
theorem ggX6_isPart_X6_isEnd : GoodIn wsX6_isPart wsX6_isEnd := goodIn_r _ [10, 1, 2, 3, 4, 11, 12, 13] (by decide +kernel) (by decide +kernel)
set_option maxRecDepth 20000 in
theorem gX6_isPart_X6_isEnd : GoodIn wsX6_isPart (va_wsS RX6 49 yX6_isEnd wsX6_isEnd) := goodIn_app (goodIn_of _ (by decide +kernel)) ggX6_isPart_X6_isEnd
theorem dX6_isPart_0 : decode cX6_isPart 0 = .ok (.iconst 0, 1) := by decide +kernel
theorem dX6_isPart_1 : decode cX6_isPart 1 = .ok (.istore_n 2, 1) := by decide +kernel
theorem dX6_isPart_2 : decode cX6_isPart 2 = .ok (.iload_n 1, 1) := by decide +kernel
theorem dX6_isPart_3 : decode cX6_isPart 3 = .ok (.invokestatic 38, 3) := by decide +kernel
theorem dX6_isPart_6 : decode cX6_isPart 6 = .ok (.istore_n 3, 1) := by decide +kernel
theorem dX6_isPart_7 : decode cX6_isPart 7 = .ok (.iload_n 3, 1) := by decide +kernel
theorem dX6_isPart_8 : decode cX6_isPart 8 = .ok (.iload_n 0, 1) := by decide +kernel
theorem dX6_isPart_9 : decode cX6_isPart 9 = .ok (.invokestatic 38, 3) := by decide +kernel
theorem dX6_isPart_12 : decode cX6_isPart 12 = .ok (.if_icmp .gt 31, 3) := by decide +kernel
theorem dX6_isPart_15 : decode cX6_isPart 15 = .ok (.iload_n 2, 1) := by decide +kernel
theorem dX6_isPart_16 : decode cX6_isPart 16 = .ok (.ifCond .ne 15, 3) := by decide +kernel
theorem dX6_isPart_19 : decode cX6_isPart 19 = .ok (.iload_n 0, 1) := by decide +kernel
theorem dX6_isPart_20 : decode cX6_isPart 20 = .ok (.iload_n 3, 1) := by decide +kernel
theorem dX6_isPart_21 : decode cX6_isPart 21 = .ok (.invokestatic 46, 3) := by decide +kernel
theorem dX6_isPart_24 : decode cX6_isPart 24 = .ok (.iload_n 1, 1) := by decide +kernel
theorem dX6_isPart_25 : decode cX6_isPart 25 = .ok (.invokestatic 49, 3) := by decide +kernel
theorem dX6_isPart_28 : decode cX6_isPart 28 = .ok (.ifCond .eq 7, 3) := by decide +kernel
theorem dX6_isPart_31 : decode cX6_isPart 31 = .ok (.iconst 1, 1) := by decide +kernel
theorem dX6_isPart_32 : decode cX6_isPart 32 = .ok (.goto 4, 3) := by decide +kernel
theorem dX6_isPart_35 : decode cX6_isPart 35 = .ok (.iconst 0, 1) := by decide +kernel
theorem dX6_isPart_36 : decode cX6_isPart 36 = .ok (.istore_n 2, 1) := by decide +kernel
theorem dX6_isPart_37 : decode cX6_isPart 37 = .ok (.iinc 3 1, 3) := by decide +kernel
theorem dX6_isPart_40 : decode cX6_isPart 40 = .ok (.goto (-33), 3) := by decide +kernel
theorem dX6_isPart_43 : decode cX6_isPart 43 = .ok (.iload_n 2, 1) := by decide +kernel
theorem dX6_isPart_44 : decode cX6_isPart 44 = .ok (.ireturn, 1) := by decide +kernel
theorem dX6_isThere_0 : decode cX6_isThere 0 = .ok (.aload_n 0, 1) := by decide +kernel
theorem dX6_isThere_1 : decode cX6_isThere 1 = .ok (.getfield 7, 3) := by decide +kernel
theorem dX6_isThere_4 : decode cX6_isThere 4 = .ok (.iconst 0, 1) := by decide +kernel
theorem dX6_isThere_5 : decode cX6_isThere 5 = .ok (.iload_n 1, 1) := by decide +kernel
theorem dX6_isThere_6 : decode cX6_isThere 6 = .ok (.iadd, 1) := by decide +kernel
theorem dX6_isThere_7 : decode cX6_isThere 7 = .ok (.iaload, 1) := by decide +kernel
theorem dX6_isThere_8 : decode cX6_isThere 8 = .ok (.ifCond .le 7, 3) := by decide +kernel
theorem dX6_isThere_11 : decode cX6_isThere 11 = .ok (.iconst 1, 1) := by decide +kernel
theorem dX6_isThere_12 : decode cX6_isThere 12 = .ok (.goto 4, 3) := by decide +kernel
theorem dX6_isThere_15 : decode cX6_isThere 15 = .ok (.iconst 0, 1) := by decide +kernel
theorem dX6_isThere_16 : decode cX6_isThere 16 = .ok (.ireturn, 1) := by decide +kernel
set_option maxRecDepth 20000 in
theorem ggX6_beginning_X6_isThere : GoodIn wsX6_beginning wsX6_isThere := goodIn_r _ [6, 1, 16, 17, 18, 19, 20, 21, 22, 23, 24, 25, 26, 27, 28, 29, 30, 31] (by decide +kernel) (by decide +kernel)
set_option maxRecDepth 20000 in
theorem gX6_beginning_X6_isThere : GoodIn wsX6_beginning (wsV RX6 53 RX6 yX6_isThere wsX6_isThere) := goodIn_app (goodIn_of _ (by decide +kernel)) ggX6_beginning_X6_isThere
set_option maxRecDepth 20000 in
theorem ggX6_beginning_X6_isBegin : GoodIn wsX6_beginning wsX6_isBegin := goodIn_r _ [9, 10, 11, 5, 12, 13, 14, 15] (by decide +kernel) (by decide +kernel)
set_option maxRecDepth 20000 in
theorem gX6_beginning_X6_isBegin : GoodIn wsX6_beginning (va_wsS RX6 57 yX6_isBegin wsX6_isBegin) := goodIn_app (goodIn_of _ (by decide +kernel)) ggX6_beginning_X6_isBegin
theorem dX6_beginning_0 : decode cX6_beginning 0 = .ok (.iconst 0, 1) := by decide +kernel
theorem dX6_beginning_1 : decode cX6_beginning 1 = .ok (.istore_n 2, 1) := by decide +kernel
theorem dX6_beginning_2 : decode cX6_beginning 2 = .ok (.iconst 0, 1) := by decide +kernel
theorem dX6_beginning_3 : decode cX6_beginning 3 = .ok (.istore_n 3, 1) := by decide +kernel
theorem dX6_beginning_4 : decode cX6_beginning 4 = .ok (.iload_n 3, 1) := by decide +kernel
theorem dX6_beginning_5 : decode cX6_beginning 5 = .ok (.bipush 8, 2) := by decide +kernel
theorem dX6_beginning_7 : decode cX6_beginning 7 = .ok (.if_icmp .ge 40, 3) := by decide +kernel
theorem dX6_beginning_10 : decode cX6_beginning 10 = .ok (.iload_n 2, 1) := by decide +kernel
theorem dX6_beginning_11 : decode cX6_beginning 11 = .ok (.aload_n 0, 1) := by decide +kernel
theorem dX6_beginning_12 : decode cX6_beginning 12 = .ok (.iload_n 3, 1) := by decide +kernel
theorem dX6_beginning_13 : decode cX6_beginning 13 = .ok (.invokevirtual 53, 3) := by decide +kernel
theorem dX6_beginning_16 : decode cX6_beginning 16 = .ok (.ifCond .eq 22, 3) := by decide +kernel
theorem dX6_beginning_19 : decode cX6_beginning 19 = .ok (.aload_n 0, 1) := by decide +kernel
theorem dX6_beginning_20 : decode cX6_beginning 20 = .ok (.getfield 7, 3) := by decide +kernel
theorem dX6_beginning_23 : decode cX6_beginning 23 = .ok (.iconst 0, 1) := by decide +kernel
theorem dX6_beginning_24 : decode cX6_beginning 24 = .ok (.iload_n 3, 1) := by decide +kernel
theorem dX6_beginning_25 : decode cX6_beginning 25 = .ok (.iadd, 1) := by decide +kernel
theorem dX6_beginning_26 : decode cX6_beginning 26 = .ok (.iaload, 1) := by decide +kernel
theorem dX6_beginning_27 : decode cX6_beginning 27 = .ok (.iload_n 1, 1) := by decide +kernel
theorem dX6_beginning_28 : decode cX6_beginning 28 = .ok (.invokestatic 57, 3) := by decide +kernel
theorem dX6_beginning_31 : decode cX6_beginning 31 = .ok (.ifCond .eq 7, 3) := by decide +kernel
theorem dX6_beginning_34 : decode cX6_beginning 34 = .ok (.iconst 1, 1) := by decide +kernel
theorem dX6_beginning_35 : decode cX6_beginning 35 = .ok (.goto 4, 3) := by decide +kernel
theorem dX6_beginning_38 : decode cX6_beginning 38 = .ok (.iconst 0, 1) := by decide +kernel
theorem dX6_beginning_39 : decode cX6_beginning 39 = .ok (.iadd, 1) := by decide +kernel
theorem dX6_beginning_40 : decode cX6_beginning 40 = .ok (.istore_n 2, 1) := by decide +kernel
theorem dX6_beginning_41 : decode cX6_beginning 41 = .ok (.iinc 3 1, 3) := by decide +kernel
theorem dX6_beginning_44 : decode cX6_beginning 44 = .ok (.goto (-40), 3) := by decide +kernel
theorem dX6_beginning_47 : decode cX6_beginning 47 = .ok (.iload_n 2, 1) := by decide +kernel
theorem dX6_beginning_48 : decode cX6_beginning 48 = .ok (.ireturn, 1) := by decide +kernel
set_option maxRecDepth 20000 in
theorem ggX6_isState_X6_beginning : GoodIn wsX6_isState wsX6_beginning := goodIn_r _ [5, 6, 7, 8, 9, 4, 10, 11, 12, 13, 14, 15, 16, 17, 18, 19, 20, 21, 22, 23, 24, 25, 26, 27, 28, 29, 30, 31, 32, 33, 34, 35] (by decide +kernel) (by decide +kernel)
set_option maxRecDepth 20000 in
theorem gX6_isState_X6_beginning : GoodIn wsX6_isState (wsV RX6 60 RX6 yX6_beginning wsX6_beginning) := goodIn_app (goodIn_of _ (by decide +kernel)) ggX6_isState_X6_beginning
theorem dX6_isState_0 : decode cX6_isState 0 = .ok (.iload_n 1, 1) := by decide +kernel
theorem dX6_isState_1 : decode cX6_isState 1 = .ok (.iconst 1, 1) := by decide +kernel
theorem dX6_isState_2 : decode cX6_isState 2 = .ok (.if_icmp .eq 11, 3) := by decide +kernel
theorem dX6_isState_5 : decode cX6_isState 5 = .ok (.aload_n 0, 1) := by decide +kernel
theorem dX6_isState_6 : decode cX6_isState 6 = .ok (.iload_n 1, 1) := by decide +kernel
theorem dX6_isState_7 : decode cX6_isState 7 = .ok (.invokevirtual 60, 3) := by decide +kernel
theorem dX6_isState_10 : decode cX6_isState 10 = .ok (.ifCond .le 7, 3) := by decide +kernel
theorem dX6_isState_13 : decode cX6_isState 13 = .ok (.iconst 1, 1) := by decide +kernel
theorem dX6_isState_14 : decode cX6_isState 14 = .ok (.goto 4, 3) := by decide +kernel
theorem dX6_isState_17 : decode cX6_isState 17 = .ok (.iconst 0, 1) := by decide +kernel
theorem dX6_isState_18 : decode cX6_isState 18 = .ok (.ireturn, 1) := by decide +kernel
set_option maxRecDepth 20000 in
theorem ggX6_stateAt_X6_endOf : GoodIn wsX6_stateAt wsX6_endOf := goodIn_r _ [4] (by decide +kernel) (by decide +kernel)
set_option maxRecDepth 20000 in
theorem gX6_stateAt_X6_endOf : GoodIn wsX6_stateAt (va_wsS RX6 42 yX6_endOf wsX6_endOf) := goodIn_app (goodIn_of _ (by decide +kernel)) ggX6_stateAt_X6_endOf
set_option maxRecDepth 20000 in
theorem ggX6_stateAt_X6_isState : GoodIn wsX6_stateAt wsX6_isState := goodIn_r _ [8, 9, 10, 11, 3, 12, 13, 14, 15, 16, 17, 18, 19, 20, 21, 22, 23, 24, 25, 26, 27, 28, 29, 30, 31, 32, 33, 34, 35, 36, 37, 38, 39, 40, 41, 42] (by decide +kernel) (by decide +kernel)
set_option maxRecDepth 20000 in
theorem gX6_stateAt_X6_isState : GoodIn wsX6_stateAt (wsV RX6 63 RX6 yX6_isState wsX6_isState) := goodIn_app (goodIn_of _ (by decide +kernel)) ggX6_stateAt_X6_isState
theorem dX6_stateAt_0 : decode cX6_stateAt 0 = .ok (.iload_n 2, 1) := by decide +kernel
theorem dX6_stateAt_1 : decode cX6_stateAt 1 = .ok (.istore_n 3, 1) := by decide +kernel
theorem dX6_stateAt_2 : decode cX6_stateAt 2 = .ok (.aload_n 0, 1) := by decide +kernel
theorem dX6_stateAt_3 : decode cX6_stateAt 3 = .ok (.iload_n 1, 1) := by decide +kernel
theorem dX6_stateAt_4 : decode cX6_stateAt 4 = .ok (.iload_n 3, 1) := by decide +kernel
theorem dX6_stateAt_5 : decode cX6_stateAt 5 = .ok (.invokestatic 42, 3) := by decide +kernel
theorem dX6_stateAt_8 : decode cX6_stateAt 8 = .ok (.invokevirtual 63, 3) := by decide +kernel
theorem dX6_stateAt_11 : decode cX6_stateAt 11 = .ok (.ifCond .ne 9, 3) := by decide +kernel
theorem dX6_stateAt_14 : decode cX6_stateAt 14 = .ok (.iinc 3 (-1), 3) := by decide +kernel
theorem dX6_stateAt_17 : decode cX6_stateAt 17 = .ok (.goto (-15), 3) := by decide +kernel
theorem dX6_stateAt_20 : decode cX6_stateAt 20 = .ok (.iload_n 1, 1) := by decide +kernel
theorem dX6_stateAt_21 : decode cX6_stateAt 21 = .ok (.iload_n 3, 1) := by decide +kernel
theorem dX6_stateAt_22 : decode cX6_stateAt 22 = .ok (.invokestatic 42, 3) := by decide +kernel
theorem dX6_stateAt_25 : decode cX6_stateAt 25 = .ok (.ireturn, 1) := by decide +kernel
theorem dX6_tail_0 : decode cX6_tail 0 = .ok (.aload_n 0, 1) := by decide +kernel
theorem dX6_tail_1 : decode cX6_tail 1 = .ok (.getfield 7, 3) := by decide +kernel
theorem dX6_tail_4 : decode cX6_tail 4 = .ok (.bipush 25, 2) := by decide +kernel
theorem dX6_tail_6 : decode cX6_tail 6 = .ok (.iaload, 1) := by decide +kernel
theorem dX6_tail_7 : decode cX6_tail 7 = .ok (.bipush 8, 2) := by decide +kernel
theorem dX6_tail_9 : decode cX6_tail 9 = .ok (.if_icmp .ge 13, 3) := by decide +kernel
theorem dX6_tail_12 : decode cX6_tail 12 = .ok (.aload_n 0, 1) := by decide +kernel
theorem dX6_tail_13 : decode cX6_tail 13 = .ok (.getfield 7, 3) := by decide +kernel
theorem dX6_tail_16 : decode cX6_tail 16 = .ok (.bipush 25, 2) := by decide +kernel
theorem dX6_tail_18 : decode cX6_tail 18 = .ok (.iaload, 1) := by decide +kernel
theorem dX6_tail_19 : decode cX6_tail 19 = .ok (.goto 5, 3) := by decide +kernel
theorem dX6_tail_22 : decode cX6_tail 22 = .ok (.bipush 8, 2) := by decide +kernel
theorem dX6_tail_24 : decode cX6_tail 24 = .ok (.istore_n 1, 1) := by decide +kernel
theorem dX6_tail_25 : decode cX6_tail 25 = .ok (.iconst 1, 1) := by decide +kernel
theorem dX6_tail_26 : decode cX6_tail 26 = .ok (.iconst 2, 1) := by decide +kernel
theorem dX6_tail_27 : decode cX6_tail 27 = .ok (.iload_n 1, 1) := by decide +kernel
theorem dX6_tail_28 : decode cX6_tail 28 = .ok (.imul, 1) := by decide +kernel
theorem dX6_tail_29 : decode cX6_tail 29 = .ok (.ishl, 1) := by decide +kernel
theorem dX6_tail_30 : decode cX6_tail 30 = .ok (.aload_n 0, 1) := by decide +kernel
theorem dX6_tail_31 : decode cX6_tail 31 = .ok (.getfield 7, 3) := by decide +kernel
theorem dX6_tail_34 : decode cX6_tail 34 = .ok (.bipush 26, 2) := by decide +kernel
theorem dX6_tail_36 : decode cX6_tail 36 = .ok (.iaload, 1) := by decide +kernel
theorem dX6_tail_37 : decode cX6_tail 37 = .ok (.iadd, 1) := by decide +kernel
theorem dX6_tail_38 : decode cX6_tail 38 = .ok (.ireturn, 1) := by decide +kernel
set_option maxRecDepth 20000 in
theorem ggX6_state_X6_tail : GoodIn wsX6_state wsX6_tail := goodIn_r _ [5, 6, 35, 36, 37, 38, 39, 40, 41, 42, 43, 44, 45, 46, 47, 48, 49, 50] (by decide +kernel) (by decide +kernel)
set_option maxRecDepth 20000 in
theorem gX6_state_X6_tail : GoodIn wsX6_state (wsV RX6 66 RX6 yX6_tail wsX6_tail) := goodIn_app (goodIn_of _ (by decide +kernel)) ggX6_state_X6_tail
set_option maxRecDepth 20000 in
theorem ggX6_state_X6_lengthOf : GoodIn wsX6_state wsX6_lengthOf := goodIn_r _ [9] (by decide +kernel) (by decide +kernel)
set_option maxRecDepth 20000 in
theorem gX6_state_X6_lengthOf : GoodIn wsX6_state (va_wsS RX6 38 yX6_lengthOf wsX6_lengthOf) := goodIn_app (goodIn_of _ (by decide +kernel)) ggX6_state_X6_lengthOf
set_option maxRecDepth 20000 in
theorem ggX6_state_X6_stateAt : GoodIn wsX6_state wsX6_stateAt := goodIn_r _ [13, 14, 15, 4, 16, 17, 18, 19, 20, 21, 22, 23, 24, 6, 25, 26, 27, 28, 29, 30, 31, 7, 8, 9, 32, 33, 34, 35, 36, 37, 38, 39, 40, 41, 42, 43, 44, 45, 46, 47, 48, 49, 50] (by decide +kernel) (by decide +kernel)
set_option maxRecDepth 20000 in
theorem gX6_state_X6_stateAt : GoodIn wsX6_state (wsV RX6 70 RX6 yX6_stateAt wsX6_stateAt) := goodIn_app (goodIn_of _ (by decide +kernel)) ggX6_state_X6_stateAt
theorem dX6_state_0 : decode cX6_state 0 = .ok (.aload_n 0, 1) := by decide +kernel
theorem dX6_state_1 : decode cX6_state 1 = .ok (.aload_n 0, 1) := by decide +kernel
theorem dX6_state_2 : decode cX6_state 2 = .ok (.invokevirtual 66, 3) := by decide +kernel
theorem dX6_state_5 : decode cX6_state 5 = .ok (.aload_n 0, 1) := by decide +kernel
theorem dX6_state_6 : decode cX6_state 6 = .ok (.invokevirtual 66, 3) := by decide +kernel
theorem dX6_state_9 : decode cX6_state 9 = .ok (.invokestatic 38, 3) := by decide +kernel
theorem dX6_state_12 : decode cX6_state 12 = .ok (.invokevirtual 70, 3) := by decide +kernel
theorem dX6_state_15 : decode cX6_state 15 = .ok (.ireturn, 1) := by decide +kernel
set_option maxRecDepth 20000 in
theorem ggX6_behind_X6_lengthOf : GoodIn wsX6_behind wsX6_lengthOf := goodIn_r _ [4] (by decide +kernel) (by decide +kernel)
set_option maxRecDepth 20000 in
theorem gX6_behind_X6_lengthOf : GoodIn wsX6_behind (va_wsS RX6 38 yX6_lengthOf wsX6_lengthOf) := goodIn_app (goodIn_of _ (by decide +kernel)) ggX6_behind_X6_lengthOf
set_option maxRecDepth 20000 in
theorem ggX6_behind_X6_stateAt : GoodIn wsX6_behind wsX6_stateAt := goodIn_r _ [8, 9, 10, 3, 11, 12, 13, 14, 15, 16, 17, 18, 19, 20, 21, 22, 23, 24, 25, 26, 27, 1, 2, 4, 28, 29, 30, 31, 32, 33, 34, 35, 36, 37, 38, 39, 40, 41, 42, 43, 44, 45, 46] (by decide +kernel) (by decide +kernel)
set_option maxRecDepth 20000 in
theorem gX6_behind_X6_stateAt : GoodIn wsX6_behind (wsV RX6 70 RX6 yX6_stateAt wsX6_stateAt) := goodIn_app (goodIn_of _ (by decide +kernel)) ggX6_behind_X6_stateAt
theorem dX6_behind_0 : decode cX6_behind 0 = .ok (.aload_n 0, 1) := by decide +kernel
theorem dX6_behind_1 : decode cX6_behind 1 = .ok (.iconst 4, 1) := by decide +kernel
theorem dX6_behind_2 : decode cX6_behind 2 = .ok (.iload_n 1, 1) := by decide +kernel
theorem dX6_behind_3 : decode cX6_behind 3 = .ok (.imul, 1) := by decide +kernel
theorem dX6_behind_4 : decode cX6_behind 4 = .ok (.iload_n 2, 1) := by decide +kernel
theorem dX6_behind_5 : decode cX6_behind 5 = .ok (.iadd, 1) := by decide +kernel
theorem dX6_behind_6 : decode cX6_behind 6 = .ok (.iload_n 1, 1) := by decide +kernel
theorem dX6_behind_7 : decode cX6_behind 7 = .ok (.invokestatic 38, 3) := by decide +kernel
theorem dX6_behind_10 : decode cX6_behind 10 = .ok (.iconst 1, 1) := by decide +kernel
theorem dX6_behind_11 : decode cX6_behind 11 = .ok (.iadd, 1) := by decide +kernel
theorem dX6_behind_12 : decode cX6_behind 12 = .ok (.invokevirtual 70, 3) := by decide +kernel
theorem dX6_behind_15 : decode cX6_behind 15 = .ok (.ireturn, 1) := by decide +kernel
set_option maxRecDepth 20000 in
theorem ggX6_back_X6_lengthOf : GoodIn wsX6_back wsX6_lengthOf := goodIn_r _ [4] (by decide +kernel) (by decide +kernel)
set_option maxRecDepth 20000 in
theorem gX6_back_X6_lengthOf : GoodIn wsX6_back (va_wsS RX6 38 yX6_lengthOf wsX6_lengthOf) := goodIn_app (goodIn_of _ (by decide +kernel)) ggX6_back_X6_lengthOf
set_option maxRecDepth 20000 in
theorem ggX6_back_X6_stateAt : GoodIn wsX6_back wsX6_stateAt := goodIn_r _ [8, 9, 10, 3, 11, 12, 13, 14, 15, 16, 17, 18, 19, 20, 21, 22, 23, 24, 25, 26, 27, 1, 2, 4, 28, 29, 30, 31, 32, 33, 34, 35, 36, 37, 38, 39, 40, 41, 42, 43, 44, 45, 46] (by decide +kernel) (by decide +kernel)
set_option maxRecDepth 20000 in
theorem gX6_back_X6_stateAt : GoodIn wsX6_back (wsV RX6 70 RX6 yX6_stateAt wsX6_stateAt) := goodIn_app (goodIn_of _ (by decide +kernel)) ggX6_back_X6_stateAt
theorem dX6_back_0 : decode cX6_back 0 = .ok (.aload_n 0, 1) := by decide +kernel
theorem dX6_back_1 : decode cX6_back 1 = .ok (.iload_n 1, 1) := by decide +kernel
theorem dX6_back_2 : decode cX6_back 2 = .ok (.iload_n 1, 1) := by decide +kernel
theorem dX6_back_3 : decode cX6_back 3 = .ok (.invokestatic 38, 3) := by decide +kernel
theorem dX6_back_6 : decode cX6_back 6 = .ok (.iconst 1, 1) := by decide +kernel
theorem dX6_back_7 : decode cX6_back 7 = .ok (.isub, 1) := by decide +kernel
theorem dX6_back_8 : decode cX6_back 8 = .ok (.invokevirtual 70, 3) := by decide +kernel
theorem dX6_back_11 : decode cX6_back 11 = .ok (.ireturn, 1) := by decide +kernel
set_option maxRecDepth 20000 in
theorem ggX6_fallsOf_X6_isState : GoodIn wsX6_fallsOf wsX6_isState := goodIn_r _ [5, 6, 7, 8, 4, 9, 10, 11, 12, 13, 14, 15, 16, 17, 18, 19, 20, 21, 22, 23, 35, 36, 37, 38, 39, 40, 41, 42, 43, 44, 45, 46, 47, 48, 49, 50] (by decide +kernel) (by decide +kernel)
set_option maxRecDepth 20000 in
theorem gX6_fallsOf_X6_isState : GoodIn wsX6_fallsOf (wsV RX6 63 RX6 yX6_isState wsX6_isState) := goodIn_app (goodIn_of _ (by decide +kernel)) ggX6_fallsOf_X6_isState
set_option maxRecDepth 20000 in
theorem ggX6_fallsOf_X6_back : GoodIn wsX6_fallsOf wsX6_back := goodIn_r _ [27, 18, 19, 4, 20, 28, 29, 30, 31, 32, 33, 34, 1, 2, 3, 5, 6, 7, 8, 9, 10, 11, 12, 13, 14, 15, 16, 17, 21, 22, 23, 35, 36, 37, 38, 39, 40, 41, 42, 43, 44, 45, 46, 47, 48, 49, 50] (by decide +kernel) (by decide +kernel)
set_option maxRecDepth 20000 in
theorem gX6_fallsOf_X6_back : GoodIn wsX6_fallsOf (wsV RX6 73 RX6 yX6_back wsX6_back) := goodIn_app (goodIn_of _ (by decide +kernel)) ggX6_fallsOf_X6_back
theorem dX6_fallsOf_0 : decode cX6_fallsOf 0 = .ok (.iconst 0, 1) := by decide +kernel
theorem dX6_fallsOf_1 : decode cX6_fallsOf 1 = .ok (.istore_n 3, 1) := by decide +kernel
theorem dX6_fallsOf_2 : decode cX6_fallsOf 2 = .ok (.iload_n 1, 1) := by decide +kernel
theorem dX6_fallsOf_3 : decode cX6_fallsOf 3 = .ok (.istore 4, 2) := by decide +kernel
theorem dX6_fallsOf_5 : decode cX6_fallsOf 5 = .ok (.aload_n 0, 1) := by decide +kernel
theorem dX6_fallsOf_6 : decode cX6_fallsOf 6 = .ok (.iconst 4, 1) := by decide +kernel
theorem dX6_fallsOf_7 : decode cX6_fallsOf 7 = .ok (.iload 4, 2) := by decide +kernel
theorem dX6_fallsOf_9 : decode cX6_fallsOf 9 = .ok (.imul, 1) := by decide +kernel
theorem dX6_fallsOf_10 : decode cX6_fallsOf 10 = .ok (.iload_n 2, 1) := by decide +kernel
theorem dX6_fallsOf_11 : decode cX6_fallsOf 11 = .ok (.iadd, 1) := by decide +kernel
theorem dX6_fallsOf_12 : decode cX6_fallsOf 12 = .ok (.invokevirtual 63, 3) := by decide +kernel
theorem dX6_fallsOf_15 : decode cX6_fallsOf 15 = .ok (.ifCond .ne 25, 3) := by decide +kernel
theorem dX6_fallsOf_18 : decode cX6_fallsOf 18 = .ok (.iinc 3 1, 3) := by decide +kernel
theorem dX6_fallsOf_21 : decode cX6_fallsOf 21 = .ok (.iload 4, 2) := by decide +kernel
theorem dX6_fallsOf_23 : decode cX6_fallsOf 23 = .ok (.iconst 1, 1) := by decide +kernel
theorem dX6_fallsOf_24 : decode cX6_fallsOf 24 = .ok (.if_icmp .ne 5, 3) := by decide +kernel
theorem dX6_fallsOf_27 : decode cX6_fallsOf 27 = .ok (.iload_n 3, 1) := by decide +kernel
theorem dX6_fallsOf_28 : decode cX6_fallsOf 28 = .ok (.ireturn, 1) := by decide +kernel
theorem dX6_fallsOf_29 : decode cX6_fallsOf 29 = .ok (.aload_n 0, 1) := by decide +kernel
theorem dX6_fallsOf_30 : decode cX6_fallsOf 30 = .ok (.iload 4, 2) := by decide +kernel
theorem dX6_fallsOf_32 : decode cX6_fallsOf 32 = .ok (.invokevirtual 73, 3) := by decide +kernel
theorem dX6_fallsOf_35 : decode cX6_fallsOf 35 = .ok (.istore 4, 2) := by decide +kernel
theorem dX6_fallsOf_37 : decode cX6_fallsOf 37 = .ok (.goto (-32), 3) := by decide +kernel
theorem dX6_fallsOf_40 : decode cX6_fallsOf 40 = .ok (.iload_n 3, 1) := by decide +kernel
theorem dX6_fallsOf_41 : decode cX6_fallsOf 41 = .ok (.ireturn, 1) := by decide +kernel
set_option maxRecDepth 20000 in
theorem ggX6_list_X6_isThere : GoodIn wsX6_list wsX6_isThere := goodIn_r _ [8, 3, 19, 20, 21, 22, 23, 24, 25, 26, 27, 28, 29, 30, 31, 32, 33, 34] (by decide +kernel) (by decide +kernel)
set_option maxRecDepth 20000 in
theorem gX6_list_X6_isThere : GoodIn wsX6_list (wsV RX6 53 RX6 yX6_isThere wsX6_isThere) := goodIn_app (goodIn_of _ (by decide +kernel)) ggX6_list_X6_isThere
set_option maxRecDepth 20000 in
theorem ggX6_list_X6_lengthOf : GoodIn wsX6_list wsX6_lengthOf := goodIn_r _ [11] (by decide +kernel) (by decide +kernel)
set_option maxRecDepth 20000 in
theorem gX6_list_X6_lengthOf : GoodIn wsX6_list (va_wsS RX6 38 yX6_lengthOf wsX6_lengthOf) := goodIn_app (goodIn_of _ (by decide +kernel)) ggX6_list_X6_lengthOf
set_option maxRecDepth 20000 in
theorem ggX6_list_X6_beginOf : GoodIn wsX6_list wsX6_beginOf := goodIn_r _ [14, 9, 10, 7, 11] (by decide +kernel) (by decide +kernel)
set_option maxRecDepth 20000 in
theorem gX6_list_X6_beginOf : GoodIn wsX6_list (va_wsS RX6 46 yX6_beginOf wsX6_beginOf) := goodIn_app (goodIn_of _ (by decide +kernel)) ggX6_list_X6_beginOf
set_option maxRecDepth 20000 in
theorem ggX6_list_X6_insert : GoodIn wsX6_list wsX6_insert := goodIn_r _ [18, 2, 1, 19, 20, 21, 22, 23, 24, 25, 26, 27, 28, 29, 30, 31, 32, 33, 34] (by decide +kernel) (by decide +kernel)
set_option maxRecDepth 20000 in
theorem gX6_list_X6_insert : GoodIn wsX6_list (wsV RX6 79 RX6 yX6_insert wsX6_insert) := goodIn_app (goodIn_of _ (by decide +kernel)) ggX6_list_X6_insert
theorem dX6_list_0 : decode cX6_list 0 = .ok (.aload_n 0, 1) := by decide +kernel
theorem dX6_list_1 : decode cX6_list 1 = .ok (.getfield 22, 3) := by decide +kernel
theorem dX6_list_4 : decode cX6_list 4 = .ok (.iconst 0, 1) := by decide +kernel
theorem dX6_list_5 : decode cX6_list 5 = .ok (.iconst 1, 1) := by decide +kernel
theorem dX6_list_6 : decode cX6_list 6 = .ok (.iastore, 1) := by decide +kernel
theorem dX6_list_7 : decode cX6_list 7 = .ok (.aload_n 0, 1) := by decide +kernel
theorem dX6_list_8 : decode cX6_list 8 = .ok (.iconst 1, 1) := by decide +kernel
theorem dX6_list_9 : decode cX6_list 9 = .ok (.putfield 76, 3) := by decide +kernel
theorem dX6_list_12 : decode cX6_list 12 = .ok (.iconst 0, 1) := by decide +kernel
theorem dX6_list_13 : decode cX6_list 13 = .ok (.istore_n 1, 1) := by decide +kernel
theorem dX6_list_14 : decode cX6_list 14 = .ok (.iload_n 1, 1) := by decide +kernel
theorem dX6_list_15 : decode cX6_list 15 = .ok (.bipush 8, 2) := by decide +kernel
theorem dX6_list_17 : decode cX6_list 17 = .ok (.if_icmp .ge 56, 3) := by decide +kernel
theorem dX6_list_20 : decode cX6_list 20 = .ok (.iconst 1, 1) := by decide +kernel
theorem dX6_list_21 : decode cX6_list 21 = .ok (.istore_n 2, 1) := by decide +kernel
theorem dX6_list_22 : decode cX6_list 22 = .ok (.aload_n 0, 1) := by decide +kernel
theorem dX6_list_23 : decode cX6_list 23 = .ok (.iload_n 1, 1) := by decide +kernel
theorem dX6_list_24 : decode cX6_list 24 = .ok (.invokevirtual 53, 3) := by decide +kernel
theorem dX6_list_27 : decode cX6_list 27 = .ok (.ifCond .eq 40, 3) := by decide +kernel
theorem dX6_list_30 : decode cX6_list 30 = .ok (.iload_n 2, 1) := by decide +kernel
theorem dX6_list_31 : decode cX6_list 31 = .ok (.aload_n 0, 1) := by decide +kernel
theorem dX6_list_32 : decode cX6_list 32 = .ok (.getfield 7, 3) := by decide +kernel
theorem dX6_list_35 : decode cX6_list 35 = .ok (.iconst 0, 1) := by decide +kernel
theorem dX6_list_36 : decode cX6_list 36 = .ok (.iload_n 1, 1) := by decide +kernel
theorem dX6_list_37 : decode cX6_list 37 = .ok (.iadd, 1) := by decide +kernel
theorem dX6_list_38 : decode cX6_list 38 = .ok (.iaload, 1) := by decide +kernel
theorem dX6_list_39 : decode cX6_list 39 = .ok (.invokestatic 38, 3) := by decide +kernel
theorem dX6_list_42 : decode cX6_list 42 = .ok (.if_icmp .gt 25, 3) := by decide +kernel
theorem dX6_list_45 : decode cX6_list 45 = .ok (.aload_n 0, 1) := by decide +kernel
theorem dX6_list_46 : decode cX6_list 46 = .ok (.aload_n 0, 1) := by decide +kernel
theorem dX6_list_47 : decode cX6_list 47 = .ok (.getfield 7, 3) := by decide +kernel
theorem dX6_list_50 : decode cX6_list 50 = .ok (.iconst 0, 1) := by decide +kernel
theorem dX6_list_51 : decode cX6_list 51 = .ok (.iload_n 1, 1) := by decide +kernel
theorem dX6_list_52 : decode cX6_list 52 = .ok (.iadd, 1) := by decide +kernel
theorem dX6_list_53 : decode cX6_list 53 = .ok (.iaload, 1) := by decide +kernel
theorem dX6_list_54 : decode cX6_list 54 = .ok (.iload_n 2, 1) := by decide +kernel
theorem dX6_list_55 : decode cX6_list 55 = .ok (.invokestatic 46, 3) := by decide +kernel
theorem dX6_list_58 : decode cX6_list 58 = .ok (.invokevirtual 79, 3) := by decide +kernel
theorem dX6_list_61 : decode cX6_list 61 = .ok (.iinc 2 1, 3) := by decide +kernel
theorem dX6_list_64 : decode cX6_list 64 = .ok (.goto (-42), 3) := by decide +kernel
theorem dX6_list_67 : decode cX6_list 67 = .ok (.iinc 1 1, 3) := by decide +kernel
theorem dX6_list_70 : decode cX6_list 70 = .ok (.goto (-56), 3) := by decide +kernel
theorem dX6_list_73 : decode cX6_list 73 = .ok (.return_, 1) := by decide +kernel
theorem dX6_insert_0 : decode cX6_insert 0 = .ok (.aload_n 0, 1) := by decide +kernel
theorem dX6_insert_1 : decode cX6_insert 1 = .ok (.getfield 76, 3) := by decide +kernel
theorem dX6_insert_4 : decode cX6_insert 4 = .ok (.istore_n 2, 1) := by decide +kernel
theorem dX6_insert_5 : decode cX6_insert 5 = .ok (.aload_n 0, 1) := by decide +kernel
theorem dX6_insert_6 : decode cX6_insert 6 = .ok (.getfield 22, 3) := by decide +kernel
theorem dX6_insert_9 : decode cX6_insert 9 = .ok (.iload_n 2, 1) := by decide +kernel
theorem dX6_insert_10 : decode cX6_insert 10 = .ok (.iconst 1, 1) := by decide +kernel
theorem dX6_insert_11 : decode cX6_insert 11 = .ok (.isub, 1) := by decide +kernel
theorem dX6_insert_12 : decode cX6_insert 12 = .ok (.iaload, 1) := by decide +kernel
theorem dX6_insert_13 : decode cX6_insert 13 = .ok (.iload_n 1, 1) := by decide +kernel
theorem dX6_insert_14 : decode cX6_insert 14 = .ok (.if_icmp .le 9, 3) := by decide +kernel
theorem dX6_insert_17 : decode cX6_insert 17 = .ok (.iinc 2 (-1), 3) := by decide +kernel
theorem dX6_insert_20 : decode cX6_insert 20 = .ok (.goto (-15), 3) := by decide +kernel
theorem dX6_insert_23 : decode cX6_insert 23 = .ok (.aload_n 0, 1) := by decide +kernel
theorem dX6_insert_24 : decode cX6_insert 24 = .ok (.getfield 22, 3) := by decide +kernel
theorem dX6_insert_27 : decode cX6_insert 27 = .ok (.iload_n 2, 1) := by decide +kernel
theorem dX6_insert_28 : decode cX6_insert 28 = .ok (.iconst 1, 1) := by decide +kernel
theorem dX6_insert_29 : decode cX6_insert 29 = .ok (.isub, 1) := by decide +kernel
theorem dX6_insert_30 : decode cX6_insert 30 = .ok (.iaload, 1) := by decide +kernel
theorem dX6_insert_31 : decode cX6_insert 31 = .ok (.iload_n 1, 1) := by decide +kernel
theorem dX6_insert_32 : decode cX6_insert 32 = .ok (.if_icmp .ne 4, 3) := by decide +kernel
theorem dX6_insert_35 : decode cX6_insert 35 = .ok (.return_, 1) := by decide +kernel
theorem dX6_insert_36 : decode cX6_insert 36 = .ok (.aload_n 0, 1) := by decide +kernel
theorem dX6_insert_37 : decode cX6_insert 37 = .ok (.getfield 76, 3) := by decide +kernel
theorem dX6_insert_40 : decode cX6_insert 40 = .ok (.istore_n 3, 1) := by decide +kernel
theorem dX6_insert_41 : decode cX6_insert 41 = .ok (.iload_n 3, 1) := by decide +kernel
theorem dX6_insert_42 : decode cX6_insert 42 = .ok (.iload_n 2, 1) := by decide +kernel
theorem dX6_insert_43 : decode cX6_insert 43 = .ok (.if_icmp .le 23, 3) := by decide +kernel
theorem dX6_insert_46 : decode cX6_insert 46 = .ok (.aload_n 0, 1) := by decide +kernel
theorem dX6_insert_47 : decode cX6_insert 47 = .ok (.getfield 22, 3) := by decide +kernel
theorem dX6_insert_50 : decode cX6_insert 50 = .ok (.iload_n 3, 1) := by decide +kernel
theorem dX6_insert_51 : decode cX6_insert 51 = .ok (.aload_n 0, 1) := by decide +kernel
theorem dX6_insert_52 : decode cX6_insert 52 = .ok (.getfield 22, 3) := by decide +kernel
theorem dX6_insert_55 : decode cX6_insert 55 = .ok (.iload_n 3, 1) := by decide +kernel
theorem dX6_insert_56 : decode cX6_insert 56 = .ok (.iconst 1, 1) := by decide +kernel
theorem dX6_insert_57 : decode cX6_insert 57 = .ok (.isub, 1) := by decide +kernel
theorem dX6_insert_58 : decode cX6_insert 58 = .ok (.iaload, 1) := by decide +kernel
theorem dX6_insert_59 : decode cX6_insert 59 = .ok (.iastore, 1) := by decide +kernel
theorem dX6_insert_60 : decode cX6_insert 60 = .ok (.iinc 3 (-1), 3) := by decide +kernel
theorem dX6_insert_63 : decode cX6_insert 63 = .ok (.goto (-22), 3) := by decide +kernel
theorem dX6_insert_66 : decode cX6_insert 66 = .ok (.aload_n 0, 1) := by decide +kernel
theorem dX6_insert_67 : decode cX6_insert 67 = .ok (.getfield 22, 3) := by decide +kernel
theorem dX6_insert_70 : decode cX6_insert 70 = .ok (.iload_n 2, 1) := by decide +kernel
theorem dX6_insert_71 : decode cX6_insert 71 = .ok (.iload_n 1, 1) := by decide +kernel
theorem dX6_insert_72 : decode cX6_insert 72 = .ok (.iastore, 1) := by decide +kernel
theorem dX6_insert_73 : decode cX6_insert 73 = .ok (.aload_n 0, 1) := by decide +kernel
theorem dX6_insert_74 : decode cX6_insert 74 = .ok (.dup, 1) := by decide +kernel
theorem dX6_insert_75 : decode cX6_insert 75 = .ok (.getfield 76, 3) := by decide +kernel
theorem dX6_insert_78 : decode cX6_insert 78 = .ok (.iconst 1, 1) := by decide +kernel
theorem dX6_insert_79 : decode cX6_insert 79 = .ok (.iadd, 1) := by decide +kernel
theorem dX6_insert_80 : decode cX6_insert 80 = .ok (.putfield 76, 3) := by decide +kernel
theorem dX6_insert_83 : decode cX6_insert 83 = .ok (.return_, 1) := by decide +kernel
theorem dX6_numberOf_0 : decode cX6_numberOf 0 = .ok (.iconst 0, 1) := by decide +kernel
theorem dX6_numberOf_1 : decode cX6_numberOf 1 = .ok (.istore_n 2, 1) := by decide +kernel
theorem dX6_numberOf_2 : decode cX6_numberOf 2 = .ok (.aload_n 0, 1) := by decide +kernel
theorem dX6_numberOf_3 : decode cX6_numberOf 3 = .ok (.getfield 22, 3) := by decide +kernel
theorem dX6_numberOf_6 : decode cX6_numberOf 6 = .ok (.iload_n 2, 1) := by decide +kernel
theorem dX6_numberOf_7 : decode cX6_numberOf 7 = .ok (.iaload, 1) := by decide +kernel
theorem dX6_numberOf_8 : decode cX6_numberOf 8 = .ok (.iload_n 1, 1) := by decide +kernel
theorem dX6_numberOf_9 : decode cX6_numberOf 9 = .ok (.if_icmp .eq 9, 3) := by decide +kernel
theorem dX6_numberOf_12 : decode cX6_numberOf 12 = .ok (.iinc 2 1, 3) := by decide +kernel
theorem dX6_numberOf_15 : decode cX6_numberOf 15 = .ok (.goto (-13), 3) := by decide +kernel
theorem dX6_numberOf_18 : decode cX6_numberOf 18 = .ok (.iload_n 2, 1) := by decide +kernel
theorem dX6_numberOf_19 : decode cX6_numberOf 19 = .ok (.ireturn, 1) := by decide +kernel
set_option maxRecDepth 20000 in
theorem ggX6_manyStates_X6_list : GoodIn wsX6_manyStates wsX6_list := goodIn_r _ [6, 7, 1, 8, 9, 10, 11, 5, 12, 13, 14, 15, 16, 17, 18, 19, 20, 21, 22, 23, 24, 25, 26, 27, 28, 29, 30, 31, 32, 33, 34, 35, 36, 37, 38] (by decide +kernel) (by decide +kernel)
set_option maxRecDepth 20000 in
theorem gX6_manyStates_X6_list : GoodIn wsX6_manyStates (wsV RX6 83 RX6 yX6_list wsX6_list) := goodIn_app (goodIn_of _ (by decide +kernel)) ggX6_manyStates_X6_list
theorem dX6_manyStates_0 : decode cX6_manyStates 0 = .ok (.aload_n 0, 1) := by decide +kernel
theorem dX6_manyStates_1 : decode cX6_manyStates 1 = .ok (.invokevirtual 83, 3) := by decide +kernel
theorem dX6_manyStates_4 : decode cX6_manyStates 4 = .ok (.aload_n 0, 1) := by decide +kernel
theorem dX6_manyStates_5 : decode cX6_manyStates 5 = .ok (.getfield 76, 3) := by decide +kernel
theorem dX6_manyStates_8 : decode cX6_manyStates 8 = .ok (.ireturn, 1) := by decide +kernel
set_option maxRecDepth 20000 in
theorem ggX6_ending_X6_isThere : GoodIn wsX6_ending wsX6_isThere := goodIn_r _ [6, 1, 16, 17, 18, 19, 20, 21, 22, 23, 24, 25, 26, 27, 28, 29, 30, 31] (by decide +kernel) (by decide +kernel)
set_option maxRecDepth 20000 in
theorem gX6_ending_X6_isThere : GoodIn wsX6_ending (wsV RX6 53 RX6 yX6_isThere wsX6_isThere) := goodIn_app (goodIn_of _ (by decide +kernel)) ggX6_ending_X6_isThere
set_option maxRecDepth 20000 in
theorem ggX6_ending_X6_isEnd : GoodIn wsX6_ending wsX6_isEnd := goodIn_r _ [9, 10, 11, 5, 12, 13, 14, 15] (by decide +kernel) (by decide +kernel)
set_option maxRecDepth 20000 in
theorem gX6_ending_X6_isEnd : GoodIn wsX6_ending (va_wsS RX6 49 yX6_isEnd wsX6_isEnd) := goodIn_app (goodIn_of _ (by decide +kernel)) ggX6_ending_X6_isEnd
theorem dX6_ending_0 : decode cX6_ending 0 = .ok (.iconst 0, 1) := by decide +kernel
theorem dX6_ending_1 : decode cX6_ending 1 = .ok (.istore_n 2, 1) := by decide +kernel
theorem dX6_ending_2 : decode cX6_ending 2 = .ok (.iconst 0, 1) := by decide +kernel
theorem dX6_ending_3 : decode cX6_ending 3 = .ok (.istore_n 3, 1) := by decide +kernel
theorem dX6_ending_4 : decode cX6_ending 4 = .ok (.iload_n 3, 1) := by decide +kernel
theorem dX6_ending_5 : decode cX6_ending 5 = .ok (.bipush 8, 2) := by decide +kernel
theorem dX6_ending_7 : decode cX6_ending 7 = .ok (.if_icmp .ge 42, 3) := by decide +kernel
theorem dX6_ending_10 : decode cX6_ending 10 = .ok (.iload_n 2, 1) := by decide +kernel
theorem dX6_ending_11 : decode cX6_ending 11 = .ok (.aload_n 0, 1) := by decide +kernel
theorem dX6_ending_12 : decode cX6_ending 12 = .ok (.iload_n 3, 1) := by decide +kernel
theorem dX6_ending_13 : decode cX6_ending 13 = .ok (.invokevirtual 53, 3) := by decide +kernel
theorem dX6_ending_16 : decode cX6_ending 16 = .ok (.ifCond .eq 24, 3) := by decide +kernel
theorem dX6_ending_19 : decode cX6_ending 19 = .ok (.iload_n 1, 1) := by decide +kernel
theorem dX6_ending_20 : decode cX6_ending 20 = .ok (.aload_n 0, 1) := by decide +kernel
theorem dX6_ending_21 : decode cX6_ending 21 = .ok (.getfield 7, 3) := by decide +kernel
theorem dX6_ending_24 : decode cX6_ending 24 = .ok (.iconst 0, 1) := by decide +kernel
theorem dX6_ending_25 : decode cX6_ending 25 = .ok (.iload_n 3, 1) := by decide +kernel
theorem dX6_ending_26 : decode cX6_ending 26 = .ok (.iadd, 1) := by decide +kernel
theorem dX6_ending_27 : decode cX6_ending 27 = .ok (.iaload, 1) := by decide +kernel
theorem dX6_ending_28 : decode cX6_ending 28 = .ok (.invokestatic 49, 3) := by decide +kernel
theorem dX6_ending_31 : decode cX6_ending 31 = .ok (.ifCond .eq 9, 3) := by decide +kernel
theorem dX6_ending_34 : decode cX6_ending 34 = .ok (.iconst 1, 1) := by decide +kernel
theorem dX6_ending_35 : decode cX6_ending 35 = .ok (.iload_n 3, 1) := by decide +kernel
theorem dX6_ending_36 : decode cX6_ending 36 = .ok (.ishl, 1) := by decide +kernel
theorem dX6_ending_37 : decode cX6_ending 37 = .ok (.goto 4, 3) := by decide +kernel
theorem dX6_ending_40 : decode cX6_ending 40 = .ok (.iconst 0, 1) := by decide +kernel
theorem dX6_ending_41 : decode cX6_ending 41 = .ok (.ior, 1) := by decide +kernel
theorem dX6_ending_42 : decode cX6_ending 42 = .ok (.istore_n 2, 1) := by decide +kernel
theorem dX6_ending_43 : decode cX6_ending 43 = .ok (.iinc 3 1, 3) := by decide +kernel
theorem dX6_ending_46 : decode cX6_ending 46 = .ok (.goto (-42), 3) := by decide +kernel
theorem dX6_ending_49 : decode cX6_ending 49 = .ok (.iload_n 2, 1) := by decide +kernel
theorem dX6_ending_50 : decode cX6_ending 50 = .ok (.ireturn, 1) := by decide +kernel
set_option maxRecDepth 20000 in
theorem ggX6_counting_X6_lengthOf : GoodIn wsX6_counting wsX6_lengthOf := goodIn_r _ [5] (by decide +kernel) (by decide +kernel)
set_option maxRecDepth 20000 in
theorem gX6_counting_X6_lengthOf : GoodIn wsX6_counting (va_wsS RX6 38 yX6_lengthOf wsX6_lengthOf) := goodIn_app (goodIn_of _ (by decide +kernel)) ggX6_counting_X6_lengthOf
theorem dX6_counting_0 : decode cX6_counting 0 = .ok (.iconst (-1), 1) := by decide +kernel
theorem dX6_counting_1 : decode cX6_counting 1 = .ok (.istore_n 3, 1) := by decide +kernel
theorem dX6_counting_2 : decode cX6_counting 2 = .ok (.iconst 0, 1) := by decide +kernel
theorem dX6_counting_3 : decode cX6_counting 3 = .ok (.istore 4, 2) := by decide +kernel
theorem dX6_counting_5 : decode cX6_counting 5 = .ok (.iload 4, 2) := by decide +kernel
theorem dX6_counting_7 : decode cX6_counting 7 = .ok (.bipush 8, 2) := by decide +kernel
theorem dX6_counting_9 : decode cX6_counting 9 = .ok (.if_icmp .ge 109, 3) := by decide +kernel
theorem dX6_counting_12 : decode cX6_counting 12 = .ok (.iload_n 1, 1) := by decide +kernel
theorem dX6_counting_13 : decode cX6_counting 13 = .ok (.iload 4, 2) := by decide +kernel
theorem dX6_counting_15 : decode cX6_counting 15 = .ok (.ishr, 1) := by decide +kernel
theorem dX6_counting_16 : decode cX6_counting 16 = .ok (.iconst 1, 1) := by decide +kernel
theorem dX6_counting_17 : decode cX6_counting 17 = .ok (.iand, 1) := by decide +kernel
theorem dX6_counting_18 : decode cX6_counting 18 = .ok (.iconst 1, 1) := by decide +kernel
theorem dX6_counting_19 : decode cX6_counting 19 = .ok (.if_icmp .ne 18, 3) := by decide +kernel
theorem dX6_counting_22 : decode cX6_counting 22 = .ok (.aload_n 0, 1) := by decide +kernel
theorem dX6_counting_23 : decode cX6_counting 23 = .ok (.getfield 7, 3) := by decide +kernel
theorem dX6_counting_26 : decode cX6_counting 26 = .ok (.iconst 0, 1) := by decide +kernel
theorem dX6_counting_27 : decode cX6_counting 27 = .ok (.iload 4, 2) := by decide +kernel
theorem dX6_counting_29 : decode cX6_counting 29 = .ok (.iadd, 1) := by decide +kernel
theorem dX6_counting_30 : decode cX6_counting 30 = .ok (.iaload, 1) := by decide +kernel
theorem dX6_counting_31 : decode cX6_counting 31 = .ok (.invokestatic 38, 3) := by decide +kernel
theorem dX6_counting_34 : decode cX6_counting 34 = .ok (.goto 4, 3) := by decide +kernel
theorem dX6_counting_37 : decode cX6_counting 37 = .ok (.iconst 0, 1) := by decide +kernel
theorem dX6_counting_38 : decode cX6_counting 38 = .ok (.istore 5, 2) := by decide +kernel
theorem dX6_counting_40 : decode cX6_counting 40 = .ok (.iload 5, 2) := by decide +kernel
theorem dX6_counting_42 : decode cX6_counting 42 = .ok (.ifCond .le 34, 3) := by decide +kernel
theorem dX6_counting_45 : decode cX6_counting 45 = .ok (.aload_n 0, 1) := by decide +kernel
theorem dX6_counting_46 : decode cX6_counting 46 = .ok (.getfield 7, 3) := by decide +kernel
theorem dX6_counting_49 : decode cX6_counting 49 = .ok (.bipush 24, 2) := by decide +kernel
theorem dX6_counting_51 : decode cX6_counting 51 = .ok (.iaload, 1) := by decide +kernel
theorem dX6_counting_52 : decode cX6_counting 52 = .ok (.iconst 2, 1) := by decide +kernel
theorem dX6_counting_53 : decode cX6_counting 53 = .ok (.if_icmp .lt 19, 3) := by decide +kernel
theorem dX6_counting_56 : decode cX6_counting 56 = .ok (.iload_n 2, 1) := by decide +kernel
theorem dX6_counting_57 : decode cX6_counting 57 = .ok (.iload 5, 2) := by decide +kernel
theorem dX6_counting_59 : decode cX6_counting 59 = .ok (.isub, 1) := by decide +kernel
theorem dX6_counting_60 : decode cX6_counting 60 = .ok (.iconst 1, 1) := by decide +kernel
theorem dX6_counting_61 : decode cX6_counting 61 = .ok (.iadd, 1) := by decide +kernel
theorem dX6_counting_62 : decode cX6_counting 62 = .ok (.aload_n 0, 1) := by decide +kernel
theorem dX6_counting_63 : decode cX6_counting 63 = .ok (.getfield 7, 3) := by decide +kernel
theorem dX6_counting_66 : decode cX6_counting 66 = .ok (.bipush 28, 2) := by decide +kernel
theorem dX6_counting_68 : decode cX6_counting 68 = .ok (.iaload, 1) := by decide +kernel
theorem dX6_counting_69 : decode cX6_counting 69 = .ok (.if_icmp .le 7, 3) := by decide +kernel
theorem dX6_counting_72 : decode cX6_counting 72 = .ok (.iconst 1, 1) := by decide +kernel
theorem dX6_counting_73 : decode cX6_counting 73 = .ok (.goto 4, 3) := by decide +kernel
theorem dX6_counting_76 : decode cX6_counting 76 = .ok (.iconst 0, 1) := by decide +kernel
theorem dX6_counting_77 : decode cX6_counting 77 = .ok (.istore 6, 2) := by decide +kernel
theorem dX6_counting_79 : decode cX6_counting 79 = .ok (.iload 6, 2) := by decide +kernel
theorem dX6_counting_81 : decode cX6_counting 81 = .ok (.ifCond .eq 29, 3) := by decide +kernel
theorem dX6_counting_84 : decode cX6_counting 84 = .ok (.iload_n 3, 1) := by decide +kernel
theorem dX6_counting_85 : decode cX6_counting 85 = .ok (.iconst (-1), 1) := by decide +kernel
theorem dX6_counting_86 : decode cX6_counting 86 = .ok (.if_icmp .eq 19, 3) := by decide +kernel
theorem dX6_counting_89 : decode cX6_counting 89 = .ok (.iload 5, 2) := by decide +kernel
theorem dX6_counting_91 : decode cX6_counting 91 = .ok (.aload_n 0, 1) := by decide +kernel
theorem dX6_counting_92 : decode cX6_counting 92 = .ok (.getfield 7, 3) := by decide +kernel
theorem dX6_counting_95 : decode cX6_counting 95 = .ok (.iconst 0, 1) := by decide +kernel
theorem dX6_counting_96 : decode cX6_counting 96 = .ok (.iload_n 3, 1) := by decide +kernel
theorem dX6_counting_97 : decode cX6_counting 97 = .ok (.iadd, 1) := by decide +kernel
theorem dX6_counting_98 : decode cX6_counting 98 = .ok (.iaload, 1) := by decide +kernel
theorem dX6_counting_99 : decode cX6_counting 99 = .ok (.invokestatic 38, 3) := by decide +kernel
theorem dX6_counting_102 : decode cX6_counting 102 = .ok (.if_icmp .le 8, 3) := by decide +kernel
theorem dX6_counting_105 : decode cX6_counting 105 = .ok (.iload 4, 2) := by decide +kernel
theorem dX6_counting_107 : decode cX6_counting 107 = .ok (.goto 4, 3) := by decide +kernel
theorem dX6_counting_110 : decode cX6_counting 110 = .ok (.iload_n 3, 1) := by decide +kernel
theorem dX6_counting_111 : decode cX6_counting 111 = .ok (.istore_n 3, 1) := by decide +kernel
theorem dX6_counting_112 : decode cX6_counting 112 = .ok (.iinc 4 1, 3) := by decide +kernel
theorem dX6_counting_115 : decode cX6_counting 115 = .ok (.goto (-110), 3) := by decide +kernel
theorem dX6_counting_118 : decode cX6_counting 118 = .ok (.aload_n 0, 1) := by decide +kernel
theorem dX6_counting_119 : decode cX6_counting 119 = .ok (.getfield 7, 3) := by decide +kernel
theorem dX6_counting_122 : decode cX6_counting 122 = .ok (.bipush 24, 2) := by decide +kernel
theorem dX6_counting_124 : decode cX6_counting 124 = .ok (.iaload, 1) := by decide +kernel
theorem dX6_counting_125 : decode cX6_counting 125 = .ok (.ifCond .ne 7, 3) := by decide +kernel
theorem dX6_counting_128 : decode cX6_counting 128 = .ok (.iload_n 1, 1) := by decide +kernel
theorem dX6_counting_129 : decode cX6_counting 129 = .ok (.goto 15, 3) := by decide +kernel
theorem dX6_counting_132 : decode cX6_counting 132 = .ok (.iload_n 3, 1) := by decide +kernel
theorem dX6_counting_133 : decode cX6_counting 133 = .ok (.iconst (-1), 1) := by decide +kernel
theorem dX6_counting_134 : decode cX6_counting 134 = .ok (.if_icmp .ne 7, 3) := by decide +kernel
theorem dX6_counting_137 : decode cX6_counting 137 = .ok (.iconst 0, 1) := by decide +kernel
theorem dX6_counting_138 : decode cX6_counting 138 = .ok (.goto 6, 3) := by decide +kernel
theorem dX6_counting_141 : decode cX6_counting 141 = .ok (.iconst 1, 1) := by decide +kernel
theorem dX6_counting_142 : decode cX6_counting 142 = .ok (.iload_n 3, 1) := by decide +kernel
theorem dX6_counting_143 : decode cX6_counting 143 = .ok (.ishl, 1) := by decide +kernel
theorem dX6_counting_144 : decode cX6_counting 144 = .ok (.ireturn, 1) := by decide +kernel
theorem dX6_bitsOf_0 : decode cX6_bitsOf 0 = .ok (.iconst 0, 1) := by decide +kernel
theorem dX6_bitsOf_1 : decode cX6_bitsOf 1 = .ok (.istore_n 1, 1) := by decide +kernel
theorem dX6_bitsOf_2 : decode cX6_bitsOf 2 = .ok (.iconst 0, 1) := by decide +kernel
theorem dX6_bitsOf_3 : decode cX6_bitsOf 3 = .ok (.istore_n 2, 1) := by decide +kernel
theorem dX6_bitsOf_4 : decode cX6_bitsOf 4 = .ok (.iload_n 2, 1) := by decide +kernel
theorem dX6_bitsOf_5 : decode cX6_bitsOf 5 = .ok (.bipush 8, 2) := by decide +kernel
theorem dX6_bitsOf_7 : decode cX6_bitsOf 7 = .ok (.if_icmp .ge 17, 3) := by decide +kernel
theorem dX6_bitsOf_10 : decode cX6_bitsOf 10 = .ok (.iload_n 1, 1) := by decide +kernel
theorem dX6_bitsOf_11 : decode cX6_bitsOf 11 = .ok (.iload_n 0, 1) := by decide +kernel
theorem dX6_bitsOf_12 : decode cX6_bitsOf 12 = .ok (.iload_n 2, 1) := by decide +kernel
theorem dX6_bitsOf_13 : decode cX6_bitsOf 13 = .ok (.ishr, 1) := by decide +kernel
theorem dX6_bitsOf_14 : decode cX6_bitsOf 14 = .ok (.iconst 1, 1) := by decide +kernel
theorem dX6_bitsOf_15 : decode cX6_bitsOf 15 = .ok (.iand, 1) := by decide +kernel
theorem dX6_bitsOf_16 : decode cX6_bitsOf 16 = .ok (.iadd, 1) := by decide +kernel
theorem dX6_bitsOf_17 : decode cX6_bitsOf 17 = .ok (.istore_n 1, 1) := by decide +kernel
theorem dX6_bitsOf_18 : decode cX6_bitsOf 18 = .ok (.iinc 2 1, 3) := by decide +kernel
theorem dX6_bitsOf_21 : decode cX6_bitsOf 21 = .ok (.goto (-17), 3) := by decide +kernel
theorem dX6_bitsOf_24 : decode cX6_bitsOf 24 = .ok (.iload_n 1, 1) := by decide +kernel
theorem dX6_bitsOf_25 : decode cX6_bitsOf 25 = .ok (.ireturn, 1) := by decide +kernel
set_option maxRecDepth 20000 in
theorem ggX6_reads_X6_state : GoodIn wsX6_reads wsX6_state := goodIn_r _ [7, 8, 9, 10, 6, 11, 1, 12, 13, 14, 15, 16, 17, 18, 19, 20, 21, 22, 23, 24, 25, 26, 27, 28, 29, 30, 31, 32, 33, 34, 35, 36, 37, 38, 39, 66, 67, 68, 69, 70, 71, 72, 73, 74, 75, 76, 77, 78, 79, 80, 81] (by decide +kernel) (by decide +kernel)
set_option maxRecDepth 20000 in
theorem gX6_reads_X6_state : GoodIn wsX6_reads (wsV RX6 86 RX6 yX6_state wsX6_state) := goodIn_app (goodIn_of _ (by decide +kernel)) ggX6_reads_X6_state
set_option maxRecDepth 20000 in
theorem ggX6_reads_X6_fallsOf : GoodIn wsX6_reads wsX6_fallsOf := goodIn_r _ [43, 22, 23, 24, 6, 25, 26, 27, 28, 29, 1, 30, 31, 32, 33, 34, 35, 36, 12, 13, 14, 37, 38, 39, 44, 45, 46, 47, 15, 16, 17, 18, 19, 20, 21, 66, 67, 68, 69, 70, 71, 72, 73, 74, 75, 76, 77, 78, 79, 80, 81] (by decide +kernel) (by decide +kernel)
set_option maxRecDepth 20000 in
theorem gX6_reads_X6_fallsOf : GoodIn wsX6_reads (wsV RX6 89 RX6 yX6_fallsOf wsX6_fallsOf) := goodIn_app (goodIn_of _ (by decide +kernel)) ggX6_reads_X6_fallsOf
set_option maxRecDepth 20000 in
theorem ggX6_reads_X6_behind : GoodIn wsX6_reads wsX6_behind := goodIn_r _ [51, 12, 13, 6, 14, 15, 16, 17, 18, 19, 20, 21, 22, 23, 24, 25, 26, 27, 28, 29, 1, 30, 31, 32, 33, 34, 35, 36, 37, 38, 39, 66, 67, 68, 69, 70, 71, 72, 73, 74, 75, 76, 77, 78, 79, 80, 81] (by decide +kernel) (by decide +kernel)
set_option maxRecDepth 20000 in
theorem gX6_reads_X6_behind : GoodIn wsX6_reads (wsV RX6 92 RX6 yX6_behind wsX6_behind) := goodIn_app (goodIn_of _ (by decide +kernel)) ggX6_reads_X6_behind
set_option maxRecDepth 20000 in
theorem ggX6_reads_X6_ending : GoodIn wsX6_reads wsX6_ending := goodIn_r _ [55, 1, 30, 31, 32, 6, 33, 56, 57, 58, 12, 13, 14, 19, 20, 21, 66, 67, 68, 69, 70, 71, 72, 73, 74, 75, 76, 77, 78, 79, 80, 81] (by decide +kernel) (by decide +kernel)
set_option maxRecDepth 20000 in
theorem gX6_reads_X6_ending : GoodIn wsX6_reads (wsV RX6 95 RX6 yX6_ending wsX6_ending) := goodIn_app (goodIn_of _ (by decide +kernel)) ggX6_reads_X6_ending
set_option maxRecDepth 20000 in
theorem ggX6_reads_X6_counting : GoodIn wsX6_reads wsX6_counting := goodIn_r _ [62, 1, 12, 13, 6, 14, 66, 67, 68, 69, 70, 71, 72, 73, 74, 75, 76, 77, 78, 79, 80, 81] (by decide +kernel) (by decide +kernel)
set_option maxRecDepth 20000 in
theorem gX6_reads_X6_counting : GoodIn wsX6_reads (wsV RX6 98 RX6 yX6_counting wsX6_counting) := goodIn_app (goodIn_of _ (by decide +kernel)) ggX6_reads_X6_counting
set_option maxRecDepth 20000 in
theorem ggX6_reads_X6_bitsOf : GoodIn wsX6_reads wsX6_bitsOf := goodIn_r _ [65] (by decide +kernel) (by decide +kernel)
set_option maxRecDepth 20000 in
theorem gX6_reads_X6_bitsOf : GoodIn wsX6_reads (va_wsS RX6 102 yX6_bitsOf wsX6_bitsOf) := goodIn_app (goodIn_of _ (by decide +kernel)) ggX6_reads_X6_bitsOf
theorem dX6_reads_0 : decode cX6_reads 0 = .ok (.aload_n 0, 1) := by decide +kernel
theorem dX6_reads_1 : decode cX6_reads 1 = .ok (.invokevirtual 86, 3) := by decide +kernel
theorem dX6_reads_4 : decode cX6_reads 4 = .ok (.istore_n 2, 1) := by decide +kernel
theorem dX6_reads_5 : decode cX6_reads 5 = .ok (.aload_n 0, 1) := by decide +kernel
theorem dX6_reads_6 : decode cX6_reads 6 = .ok (.iload_n 2, 1) := by decide +kernel
theorem dX6_reads_7 : decode cX6_reads 7 = .ok (.iload_n 1, 1) := by decide +kernel
theorem dX6_reads_8 : decode cX6_reads 8 = .ok (.invokevirtual 89, 3) := by decide +kernel
theorem dX6_reads_11 : decode cX6_reads 11 = .ok (.istore_n 3, 1) := by decide +kernel
theorem dX6_reads_12 : decode cX6_reads 12 = .ok (.aload_n 0, 1) := by decide +kernel
theorem dX6_reads_13 : decode cX6_reads 13 = .ok (.getfield 7, 3) := by decide +kernel
theorem dX6_reads_16 : decode cX6_reads 16 = .ok (.bipush 25, 2) := by decide +kernel
theorem dX6_reads_18 : decode cX6_reads 18 = .ok (.iaload, 1) := by decide +kernel
theorem dX6_reads_19 : decode cX6_reads 19 = .ok (.istore 4, 2) := by decide +kernel
theorem dX6_reads_21 : decode cX6_reads 21 = .ok (.aload_n 0, 1) := by decide +kernel
theorem dX6_reads_22 : decode cX6_reads 22 = .ok (.aload_n 0, 1) := by decide +kernel
theorem dX6_reads_23 : decode cX6_reads 23 = .ok (.aload_n 0, 1) := by decide +kernel
theorem dX6_reads_24 : decode cX6_reads 24 = .ok (.iload_n 2, 1) := by decide +kernel
theorem dX6_reads_25 : decode cX6_reads 25 = .ok (.iload_n 1, 1) := by decide +kernel
theorem dX6_reads_26 : decode cX6_reads 26 = .ok (.invokevirtual 92, 3) := by decide +kernel
theorem dX6_reads_29 : decode cX6_reads 29 = .ok (.invokevirtual 95, 3) := by decide +kernel
theorem dX6_reads_32 : decode cX6_reads 32 = .ok (.iload 4, 2) := by decide +kernel
theorem dX6_reads_34 : decode cX6_reads 34 = .ok (.invokevirtual 98, 3) := by decide +kernel
theorem dX6_reads_37 : decode cX6_reads 37 = .ok (.istore 5, 2) := by decide +kernel
theorem dX6_reads_39 : decode cX6_reads 39 = .ok (.aload_n 0, 1) := by decide +kernel
theorem dX6_reads_40 : decode cX6_reads 40 = .ok (.getfield 7, 3) := by decide +kernel
theorem dX6_reads_43 : decode cX6_reads 43 = .ok (.bipush 29, 2) := by decide +kernel
theorem dX6_reads_45 : decode cX6_reads 45 = .ok (.dup2, 1) := by decide +kernel
theorem dX6_reads_46 : decode cX6_reads 46 = .ok (.iaload, 1) := by decide +kernel
theorem dX6_reads_47 : decode cX6_reads 47 = .ok (.iload_n 3, 1) := by decide +kernel
theorem dX6_reads_48 : decode cX6_reads 48 = .ok (.iadd, 1) := by decide +kernel
theorem dX6_reads_49 : decode cX6_reads 49 = .ok (.iastore, 1) := by decide +kernel
theorem dX6_reads_50 : decode cX6_reads 50 = .ok (.aload_n 0, 1) := by decide +kernel
theorem dX6_reads_51 : decode cX6_reads 51 = .ok (.getfield 7, 3) := by decide +kernel
theorem dX6_reads_54 : decode cX6_reads 54 = .ok (.bipush 30, 2) := by decide +kernel
theorem dX6_reads_56 : decode cX6_reads 56 = .ok (.iload_n 3, 1) := by decide +kernel
theorem dX6_reads_57 : decode cX6_reads 57 = .ok (.aload_n 0, 1) := by decide +kernel
theorem dX6_reads_58 : decode cX6_reads 58 = .ok (.getfield 7, 3) := by decide +kernel
theorem dX6_reads_61 : decode cX6_reads 61 = .ok (.bipush 30, 2) := by decide +kernel
theorem dX6_reads_63 : decode cX6_reads 63 = .ok (.iaload, 1) := by decide +kernel
theorem dX6_reads_64 : decode cX6_reads 64 = .ok (.if_icmp .le 7, 3) := by decide +kernel
theorem dX6_reads_67 : decode cX6_reads 67 = .ok (.iload_n 3, 1) := by decide +kernel
theorem dX6_reads_68 : decode cX6_reads 68 = .ok (.goto 10, 3) := by decide +kernel
theorem dX6_reads_71 : decode cX6_reads 71 = .ok (.aload_n 0, 1) := by decide +kernel
theorem dX6_reads_72 : decode cX6_reads 72 = .ok (.getfield 7, 3) := by decide +kernel
theorem dX6_reads_75 : decode cX6_reads 75 = .ok (.bipush 30, 2) := by decide +kernel
theorem dX6_reads_77 : decode cX6_reads 77 = .ok (.iaload, 1) := by decide +kernel
theorem dX6_reads_78 : decode cX6_reads 78 = .ok (.iastore, 1) := by decide +kernel
theorem dX6_reads_79 : decode cX6_reads 79 = .ok (.aload_n 0, 1) := by decide +kernel
theorem dX6_reads_80 : decode cX6_reads 80 = .ok (.getfield 7, 3) := by decide +kernel
theorem dX6_reads_83 : decode cX6_reads 83 = .ok (.bipush 26, 2) := by decide +kernel
theorem dX6_reads_85 : decode cX6_reads 85 = .ok (.iconst 4, 1) := by decide +kernel
theorem dX6_reads_86 : decode cX6_reads 86 = .ok (.aload_n 0, 1) := by decide +kernel
theorem dX6_reads_87 : decode cX6_reads 87 = .ok (.getfield 7, 3) := by decide +kernel
theorem dX6_reads_90 : decode cX6_reads 90 = .ok (.bipush 26, 2) := by decide +kernel
theorem dX6_reads_92 : decode cX6_reads 92 = .ok (.iaload, 1) := by decide +kernel
theorem dX6_reads_93 : decode cX6_reads 93 = .ok (.imul, 1) := by decide +kernel
theorem dX6_reads_94 : decode cX6_reads 94 = .ok (.iload_n 1, 1) := by decide +kernel
theorem dX6_reads_95 : decode cX6_reads 95 = .ok (.iadd, 1) := by decide +kernel
theorem dX6_reads_96 : decode cX6_reads 96 = .ok (.ldc 101, 2) := by decide +kernel
theorem dX6_reads_98 : decode cX6_reads 98 = .ok (.irem, 1) := by decide +kernel
theorem dX6_reads_99 : decode cX6_reads 99 = .ok (.iastore, 1) := by decide +kernel
theorem dX6_reads_100 : decode cX6_reads 100 = .ok (.aload_n 0, 1) := by decide +kernel
theorem dX6_reads_101 : decode cX6_reads 101 = .ok (.getfield 7, 3) := by decide +kernel
theorem dX6_reads_104 : decode cX6_reads 104 = .ok (.bipush 25, 2) := by decide +kernel
theorem dX6_reads_106 : decode cX6_reads 106 = .ok (.dup2, 1) := by decide +kernel
theorem dX6_reads_107 : decode cX6_reads 107 = .ok (.iaload, 1) := by decide +kernel
theorem dX6_reads_108 : decode cX6_reads 108 = .ok (.iconst 1, 1) := by decide +kernel
theorem dX6_reads_109 : decode cX6_reads 109 = .ok (.iadd, 1) := by decide +kernel
theorem dX6_reads_110 : decode cX6_reads 110 = .ok (.iastore, 1) := by decide +kernel
theorem dX6_reads_111 : decode cX6_reads 111 = .ok (.iconst 0, 1) := by decide +kernel
theorem dX6_reads_112 : decode cX6_reads 112 = .ok (.istore 6, 2) := by decide +kernel
theorem dX6_reads_114 : decode cX6_reads 114 = .ok (.iload 6, 2) := by decide +kernel
theorem dX6_reads_116 : decode cX6_reads 116 = .ok (.bipush 8, 2) := by decide +kernel
theorem dX6_reads_118 : decode cX6_reads 118 = .ok (.if_icmp .ge 66, 3) := by decide +kernel
theorem dX6_reads_121 : decode cX6_reads 121 = .ok (.iload 5, 2) := by decide +kernel
theorem dX6_reads_123 : decode cX6_reads 123 = .ok (.iload 6, 2) := by decide +kernel
theorem dX6_reads_125 : decode cX6_reads 125 = .ok (.ishr, 1) := by decide +kernel
theorem dX6_reads_126 : decode cX6_reads 126 = .ok (.iconst 1, 1) := by decide +kernel
theorem dX6_reads_127 : decode cX6_reads 127 = .ok (.iand, 1) := by decide +kernel
theorem dX6_reads_128 : decode cX6_reads 128 = .ok (.iconst 1, 1) := by decide +kernel
theorem dX6_reads_129 : decode cX6_reads 129 = .ok (.if_icmp .ne 49, 3) := by decide +kernel
theorem dX6_reads_132 : decode cX6_reads 132 = .ok (.aload_n 0, 1) := by decide +kernel
theorem dX6_reads_133 : decode cX6_reads 133 = .ok (.getfield 7, 3) := by decide +kernel
theorem dX6_reads_136 : decode cX6_reads 136 = .ok (.bipush 8, 2) := by decide +kernel
theorem dX6_reads_138 : decode cX6_reads 138 = .ok (.iload 6, 2) := by decide +kernel
theorem dX6_reads_140 : decode cX6_reads 140 = .ok (.iadd, 1) := by decide +kernel
theorem dX6_reads_141 : decode cX6_reads 141 = .ok (.dup2, 1) := by decide +kernel
theorem dX6_reads_142 : decode cX6_reads 142 = .ok (.iaload, 1) := by decide +kernel
theorem dX6_reads_143 : decode cX6_reads 143 = .ok (.iconst 1, 1) := by decide +kernel
theorem dX6_reads_144 : decode cX6_reads 144 = .ok (.iadd, 1) := by decide +kernel
theorem dX6_reads_145 : decode cX6_reads 145 = .ok (.iastore, 1) := by decide +kernel
theorem dX6_reads_146 : decode cX6_reads 146 = .ok (.aload_n 0, 1) := by decide +kernel
theorem dX6_reads_147 : decode cX6_reads 147 = .ok (.getfield 7, 3) := by decide +kernel
theorem dX6_reads_150 : decode cX6_reads 150 = .ok (.bipush 16, 2) := by decide +kernel
theorem dX6_reads_152 : decode cX6_reads 152 = .ok (.iload 6, 2) := by decide +kernel
theorem dX6_reads_154 : decode cX6_reads 154 = .ok (.iadd, 1) := by decide +kernel
theorem dX6_reads_155 : decode cX6_reads 155 = .ok (.iload 4, 2) := by decide +kernel
theorem dX6_reads_157 : decode cX6_reads 157 = .ok (.iastore, 1) := by decide +kernel
theorem dX6_reads_158 : decode cX6_reads 158 = .ok (.aload_n 0, 1) := by decide +kernel
theorem dX6_reads_159 : decode cX6_reads 159 = .ok (.getfield 7, 3) := by decide +kernel
theorem dX6_reads_162 : decode cX6_reads 162 = .ok (.bipush 28, 2) := by decide +kernel
theorem dX6_reads_164 : decode cX6_reads 164 = .ok (.iload 4, 2) := by decide +kernel
theorem dX6_reads_166 : decode cX6_reads 166 = .ok (.iastore, 1) := by decide +kernel
theorem dX6_reads_167 : decode cX6_reads 167 = .ok (.aload_n 0, 1) := by decide +kernel
theorem dX6_reads_168 : decode cX6_reads 168 = .ok (.getfield 7, 3) := by decide +kernel
theorem dX6_reads_171 : decode cX6_reads 171 = .ok (.bipush 27, 2) := by decide +kernel
theorem dX6_reads_173 : decode cX6_reads 173 = .ok (.dup2, 1) := by decide +kernel
theorem dX6_reads_174 : decode cX6_reads 174 = .ok (.iaload, 1) := by decide +kernel
theorem dX6_reads_175 : decode cX6_reads 175 = .ok (.iconst 1, 1) := by decide +kernel
theorem dX6_reads_176 : decode cX6_reads 176 = .ok (.iadd, 1) := by decide +kernel
theorem dX6_reads_177 : decode cX6_reads 177 = .ok (.iastore, 1) := by decide +kernel
theorem dX6_reads_178 : decode cX6_reads 178 = .ok (.iinc 6 1, 3) := by decide +kernel
theorem dX6_reads_181 : decode cX6_reads 181 = .ok (.goto (-67), 3) := by decide +kernel
theorem dX6_reads_184 : decode cX6_reads 184 = .ok (.iload 5, 2) := by decide +kernel
theorem dX6_reads_186 : decode cX6_reads 186 = .ok (.invokestatic 102, 3) := by decide +kernel
theorem dX6_reads_189 : decode cX6_reads 189 = .ok (.ireturn, 1) := by decide +kernel
set_option maxRecDepth 20000 in
theorem ggX6_feed_X6_in : GoodIn wsX6_feed wsX6_in := goodIn_r _ [5] (by decide +kernel) (by decide +kernel)
set_option maxRecDepth 20000 in
theorem gX6_feed_X6_in : GoodIn wsX6_feed (va_wsS RX6 105 yX6_in wsX6_in) := goodIn_app (goodIn_of _ (by decide +kernel)) ggX6_feed_X6_in
set_option maxRecDepth 20000 in
theorem ggX6_feed_X6_holds : GoodIn wsX6_feed wsX6_holds := goodIn_r _ [9, 10, 84, 85, 86, 87, 88, 89, 90, 91, 92, 93, 94, 95, 96, 97, 98, 99] (by decide +kernel) (by decide +kernel)
set_option maxRecDepth 20000 in
theorem gX6_feed_X6_holds : GoodIn wsX6_feed (wsV RX6 109 RX6 yX6_holds wsX6_holds) := goodIn_app (goodIn_of _ (by decide +kernel)) ggX6_feed_X6_holds
set_option maxRecDepth 20000 in
theorem ggX6_feed_X6_save : GoodIn wsX6_feed wsX6_save := goodIn_r _ [14, 15, 16, 1, 84, 85, 86, 87, 88, 89, 90, 91, 92, 93, 94, 95, 96, 97, 98, 99] (by decide +kernel) (by decide +kernel)
set_option maxRecDepth 20000 in
theorem gX6_feed_X6_save : GoodIn wsX6_feed (wsV RX6 112 RX6 yX6_save wsX6_save) := goodIn_app (goodIn_of _ (by decide +kernel)) ggX6_feed_X6_save
set_option maxRecDepth 20000 in
theorem ggX6_feed_X6_reads : GoodIn wsX6_feed wsX6_reads := goodIn_r _ [20, 1, 21, 22, 23, 24, 4, 25, 26, 27, 28, 29, 30, 31, 32, 33, 34, 35, 36, 37, 38, 39, 40, 41, 42, 43, 44, 45, 46, 47, 48, 49, 50, 51, 52, 53, 54, 55, 56, 57, 58, 59, 60, 61, 62, 63, 64, 65, 66, 67, 68, 69, 70, 71, 72, 73, 74, 75, 76, 77, 78, 79, 80, 81, 82, 83, 84, 85, 86, 87, 88, 89, 90, 91, 92, 93, 94, 95, 96, 97, 98, 99] (by decide +kernel) (by decide +kernel)
set_option maxRecDepth 20000 in
theorem gX6_feed_X6_reads : GoodIn wsX6_feed (wsV RX6 115 RX6 yX6_reads wsX6_reads) := goodIn_app (goodIn_of _ (by decide +kernel)) ggX6_feed_X6_reads
theorem dX6_feed_0 : decode cX6_feed 0 = .ok (.aload_n 0, 1) := by decide +kernel
theorem dX6_feed_1 : decode cX6_feed 1 = .ok (.iload_n 1, 1) := by decide +kernel
theorem dX6_feed_2 : decode cX6_feed 2 = .ok (.iconst 0, 1) := by decide +kernel
theorem dX6_feed_3 : decode cX6_feed 3 = .ok (.iconst 3, 1) := by decide +kernel
theorem dX6_feed_4 : decode cX6_feed 4 = .ok (.invokestatic 105, 3) := by decide +kernel
theorem dX6_feed_7 : decode cX6_feed 7 = .ok (.ifCond .ne 7, 3) := by decide +kernel
theorem dX6_feed_10 : decode cX6_feed 10 = .ok (.iconst 1, 1) := by decide +kernel
theorem dX6_feed_11 : decode cX6_feed 11 = .ok (.goto 21, 3) := by decide +kernel
theorem dX6_feed_14 : decode cX6_feed 14 = .ok (.aload_n 0, 1) := by decide +kernel
theorem dX6_feed_15 : decode cX6_feed 15 = .ok (.getfield 7, 3) := by decide +kernel
theorem dX6_feed_18 : decode cX6_feed 18 = .ok (.bipush 25, 2) := by decide +kernel
theorem dX6_feed_20 : decode cX6_feed 20 = .ok (.iaload, 1) := by decide +kernel
theorem dX6_feed_21 : decode cX6_feed 21 = .ok (.sipush 9999, 3) := by decide +kernel
theorem dX6_feed_24 : decode cX6_feed 24 = .ok (.if_icmp .ne 7, 3) := by decide +kernel
theorem dX6_feed_27 : decode cX6_feed 27 = .ok (.iconst 2, 1) := by decide +kernel
theorem dX6_feed_28 : decode cX6_feed 28 = .ok (.goto 4, 3) := by decide +kernel
theorem dX6_feed_31 : decode cX6_feed 31 = .ok (.iconst 0, 1) := by decide +kernel
theorem dX6_feed_32 : decode cX6_feed 32 = .ok (.invokevirtual 109, 3) := by decide +kernel
theorem dX6_feed_35 : decode cX6_feed 35 = .ok (.ifCond .ne 5, 3) := by decide +kernel
theorem dX6_feed_38 : decode cX6_feed 38 = .ok (.iconst 0, 1) := by decide +kernel
theorem dX6_feed_39 : decode cX6_feed 39 = .ok (.ireturn, 1) := by decide +kernel
theorem dX6_feed_40 : decode cX6_feed 40 = .ok (.aload_n 0, 1) := by decide +kernel
theorem dX6_feed_41 : decode cX6_feed 41 = .ok (.invokevirtual 112, 3) := by decide +kernel
theorem dX6_feed_44 : decode cX6_feed 44 = .ok (.aload_n 0, 1) := by decide +kernel
theorem dX6_feed_45 : decode cX6_feed 45 = .ok (.iload_n 1, 1) := by decide +kernel
theorem dX6_feed_46 : decode cX6_feed 46 = .ok (.invokevirtual 115, 3) := by decide +kernel
theorem dX6_feed_49 : decode cX6_feed 49 = .ok (.ireturn, 1) := by decide +kernel
set_option maxRecDepth 20000 in
theorem ggX6_begin_X6_save : GoodIn wsX6_begin wsX6_save := goodIn_r _ [7, 8, 9, 2, 14, 15, 16, 17, 18, 19, 20, 21, 22, 23, 24, 25, 26, 27, 28, 29] (by decide +kernel) (by decide +kernel)
set_option maxRecDepth 20000 in
theorem gX6_begin_X6_save : GoodIn wsX6_begin (wsV RX6 112 RX6 yX6_save wsX6_save) := goodIn_app (goodIn_of _ (by decide +kernel)) ggX6_begin_X6_save
set_option maxRecDepth 20000 in
theorem ggX6_begin_X6_clear : GoodIn wsX6_begin wsX6_clear := goodIn_r _ [13, 2, 14, 15, 16, 17, 18, 19, 20, 21, 22, 23, 24, 25, 26, 27, 28, 29] (by decide +kernel) (by decide +kernel)
set_option maxRecDepth 20000 in
theorem gX6_begin_X6_clear : GoodIn wsX6_begin (wsV RX6 28 RX6 yX6_clear wsX6_clear) := goodIn_app (goodIn_of _ (by decide +kernel)) ggX6_begin_X6_clear
theorem dX6_begin_0 : decode cX6_begin 0 = .ok (.aload_n 0, 1) := by decide +kernel
theorem dX6_begin_1 : decode cX6_begin 1 = .ok (.iconst 0, 1) := by decide +kernel
theorem dX6_begin_2 : decode cX6_begin 2 = .ok (.putfield 31, 3) := by decide +kernel
theorem dX6_begin_5 : decode cX6_begin 5 = .ok (.aload_n 0, 1) := by decide +kernel
theorem dX6_begin_6 : decode cX6_begin 6 = .ok (.invokevirtual 112, 3) := by decide +kernel
theorem dX6_begin_9 : decode cX6_begin 9 = .ok (.aload_n 0, 1) := by decide +kernel
theorem dX6_begin_10 : decode cX6_begin 10 = .ok (.getfield 7, 3) := by decide +kernel
theorem dX6_begin_13 : decode cX6_begin 13 = .ok (.bipush 25, 2) := by decide +kernel
theorem dX6_begin_15 : decode cX6_begin 15 = .ok (.iaload, 1) := by decide +kernel
theorem dX6_begin_16 : decode cX6_begin 16 = .ok (.istore_n 1, 1) := by decide +kernel
theorem dX6_begin_17 : decode cX6_begin 17 = .ok (.aload_n 0, 1) := by decide +kernel
theorem dX6_begin_18 : decode cX6_begin 18 = .ok (.invokevirtual 28, 3) := by decide +kernel
theorem dX6_begin_21 : decode cX6_begin 21 = .ok (.iload_n 1, 1) := by decide +kernel
theorem dX6_begin_22 : decode cX6_begin 22 = .ok (.ireturn, 1) := by decide +kernel
set_option maxRecDepth 20000 in
theorem ggX6_goLetters_X6_in : GoodIn wsX6_goLetters wsX6_in := goodIn_r _ [10] (by decide +kernel) (by decide +kernel)
set_option maxRecDepth 20000 in
theorem gX6_goLetters_X6_in : GoodIn wsX6_goLetters (va_wsS RX6 105 yX6_in wsX6_in) := goodIn_app (goodIn_of _ (by decide +kernel)) ggX6_goLetters_X6_in
set_option maxRecDepth 20000 in
theorem ggX6_goLetters_X6_reads : GoodIn wsX6_goLetters wsX6_reads := goodIn_r _ [14, 15, 16, 17, 18, 19, 9, 20, 21, 22, 23, 24, 25, 26, 27, 28, 29, 30, 31, 32, 33, 34, 35, 36, 37, 38, 39, 40, 41, 42, 43, 44, 45, 46, 47, 48, 49, 50, 51, 52, 53, 54, 55, 56, 57, 58, 59, 60, 61, 62, 63, 64, 65, 66, 67, 68, 69, 70, 71, 72, 73, 74, 75, 76, 77, 78, 79, 80, 81, 82, 83, 84, 85, 86, 87, 88, 89, 90, 91, 92, 93, 94] (by decide +kernel) (by decide +kernel)
set_option maxRecDepth 20000 in
theorem gX6_goLetters_X6_reads : GoodIn wsX6_goLetters (wsV RX6 115 RX6 yX6_reads wsX6_reads) := goodIn_app (goodIn_of _ (by decide +kernel)) ggX6_goLetters_X6_reads
theorem dX6_goLetters_0 : decode cX6_goLetters 0 = .ok (.aload_n 0, 1) := by decide +kernel
theorem dX6_goLetters_1 : decode cX6_goLetters 1 = .ok (.iconst 0, 1) := by decide +kernel
theorem dX6_goLetters_2 : decode cX6_goLetters 2 = .ok (.putfield 118, 3) := by decide +kernel
theorem dX6_goLetters_5 : decode cX6_goLetters 5 = .ok (.aload_n 0, 1) := by decide +kernel
theorem dX6_goLetters_6 : decode cX6_goLetters 6 = .ok (.iconst 0, 1) := by decide +kernel
theorem dX6_goLetters_7 : decode cX6_goLetters 7 = .ok (.putfield 121, 3) := by decide +kernel
theorem dX6_goLetters_10 : decode cX6_goLetters 10 = .ok (.aload_n 0, 1) := by decide +kernel
theorem dX6_goLetters_11 : decode cX6_goLetters 11 = .ok (.iconst 0, 1) := by decide +kernel
theorem dX6_goLetters_12 : decode cX6_goLetters 12 = .ok (.putfield 125, 3) := by decide +kernel
theorem dX6_goLetters_15 : decode cX6_goLetters 15 = .ok (.aload_n 0, 1) := by decide +kernel
theorem dX6_goLetters_16 : decode cX6_goLetters 16 = .ok (.iconst 0, 1) := by decide +kernel
theorem dX6_goLetters_17 : decode cX6_goLetters 17 = .ok (.putfield 128, 3) := by decide +kernel
theorem dX6_goLetters_20 : decode cX6_goLetters 20 = .ok (.aload_n 0, 1) := by decide +kernel
theorem dX6_goLetters_21 : decode cX6_goLetters 21 = .ok (.getfield 118, 3) := by decide +kernel
theorem dX6_goLetters_24 : decode cX6_goLetters 24 = .ok (.aload_n 0, 1) := by decide +kernel
theorem dX6_goLetters_25 : decode cX6_goLetters 25 = .ok (.getfield 131, 3) := by decide +kernel
theorem dX6_goLetters_28 : decode cX6_goLetters 28 = .ok (.if_icmp .ge 183, 3) := by decide +kernel
theorem dX6_goLetters_31 : decode cX6_goLetters 31 = .ok (.aload_n 0, 1) := by decide +kernel
theorem dX6_goLetters_32 : decode cX6_goLetters 32 = .ok (.getfield 121, 3) := by decide +kernel
theorem dX6_goLetters_35 : decode cX6_goLetters 35 = .ok (.ifCond .ne 176, 3) := by decide +kernel
theorem dX6_goLetters_38 : decode cX6_goLetters 38 = .ok (.aload_n 0, 1) := by decide +kernel
theorem dX6_goLetters_39 : decode cX6_goLetters 39 = .ok (.getfield 19, 3) := by decide +kernel
theorem dX6_goLetters_42 : decode cX6_goLetters 42 = .ok (.aload_n 0, 1) := by decide +kernel
theorem dX6_goLetters_43 : decode cX6_goLetters 43 = .ok (.getfield 118, 3) := by decide +kernel
theorem dX6_goLetters_46 : decode cX6_goLetters 46 = .ok (.iaload, 1) := by decide +kernel
theorem dX6_goLetters_47 : decode cX6_goLetters 47 = .ok (.istore_n 2, 1) := by decide +kernel
theorem dX6_goLetters_48 : decode cX6_goLetters 48 = .ok (.aload_n 0, 1) := by decide +kernel
theorem dX6_goLetters_49 : decode cX6_goLetters 49 = .ok (.iload_n 2, 1) := by decide +kernel
theorem dX6_goLetters_50 : decode cX6_goLetters 50 = .ok (.bipush 97, 2) := by decide +kernel
theorem dX6_goLetters_52 : decode cX6_goLetters 52 = .ok (.bipush 100, 2) := by decide +kernel
theorem dX6_goLetters_54 : decode cX6_goLetters 54 = .ok (.invokestatic 105, 3) := by decide +kernel
theorem dX6_goLetters_57 : decode cX6_goLetters 57 = .ok (.ifCond .ne 7, 3) := by decide +kernel
theorem dX6_goLetters_60 : decode cX6_goLetters 60 = .ok (.iconst 1, 1) := by decide +kernel
theorem dX6_goLetters_61 : decode cX6_goLetters 61 = .ok (.goto 4, 3) := by decide +kernel
theorem dX6_goLetters_64 : decode cX6_goLetters 64 = .ok (.iconst 0, 1) := by decide +kernel
theorem dX6_goLetters_65 : decode cX6_goLetters 65 = .ok (.putfield 121, 3) := by decide +kernel
theorem dX6_goLetters_68 : decode cX6_goLetters 68 = .ok (.aload_n 0, 1) := by decide +kernel
theorem dX6_goLetters_69 : decode cX6_goLetters 69 = .ok (.dup, 1) := by decide +kernel
theorem dX6_goLetters_70 : decode cX6_goLetters 70 = .ok (.getfield 118, 3) := by decide +kernel
theorem dX6_goLetters_73 : decode cX6_goLetters 73 = .ok (.aload_n 0, 1) := by decide +kernel
theorem dX6_goLetters_74 : decode cX6_goLetters 74 = .ok (.getfield 121, 3) := by decide +kernel
theorem dX6_goLetters_77 : decode cX6_goLetters 77 = .ok (.ifCond .eq 7, 3) := by decide +kernel
theorem dX6_goLetters_80 : decode cX6_goLetters 80 = .ok (.iconst 0, 1) := by decide +kernel
theorem dX6_goLetters_81 : decode cX6_goLetters 81 = .ok (.goto 4, 3) := by decide +kernel
theorem dX6_goLetters_84 : decode cX6_goLetters 84 = .ok (.iconst 1, 1) := by decide +kernel
theorem dX6_goLetters_85 : decode cX6_goLetters 85 = .ok (.iadd, 1) := by decide +kernel
theorem dX6_goLetters_86 : decode cX6_goLetters 86 = .ok (.putfield 118, 3) := by decide +kernel
theorem dX6_goLetters_89 : decode cX6_goLetters 89 = .ok (.aload_n 0, 1) := by decide +kernel
theorem dX6_goLetters_90 : decode cX6_goLetters 90 = .ok (.getfield 121, 3) := by decide +kernel
theorem dX6_goLetters_93 : decode cX6_goLetters 93 = .ok (.ifCond .ne 48, 3) := by decide +kernel
theorem dX6_goLetters_96 : decode cX6_goLetters 96 = .ok (.aload_n 0, 1) := by decide +kernel
theorem dX6_goLetters_97 : decode cX6_goLetters 97 = .ok (.getfield 118, 3) := by decide +kernel
theorem dX6_goLetters_100 : decode cX6_goLetters 100 = .ok (.aload_n 0, 1) := by decide +kernel
theorem dX6_goLetters_101 : decode cX6_goLetters 101 = .ok (.getfield 131, 3) := by decide +kernel
theorem dX6_goLetters_104 : decode cX6_goLetters 104 = .ok (.if_icmp .ge 37, 3) := by decide +kernel
theorem dX6_goLetters_107 : decode cX6_goLetters 107 = .ok (.aload_n 0, 1) := by decide +kernel
theorem dX6_goLetters_108 : decode cX6_goLetters 108 = .ok (.getfield 19, 3) := by decide +kernel
theorem dX6_goLetters_111 : decode cX6_goLetters 111 = .ok (.aload_n 0, 1) := by decide +kernel
theorem dX6_goLetters_112 : decode cX6_goLetters 112 = .ok (.getfield 118, 3) := by decide +kernel
theorem dX6_goLetters_115 : decode cX6_goLetters 115 = .ok (.iaload, 1) := by decide +kernel
theorem dX6_goLetters_116 : decode cX6_goLetters 116 = .ok (.bipush 50, 2) := by decide +kernel
theorem dX6_goLetters_118 : decode cX6_goLetters 118 = .ok (.bipush 57, 2) := by decide +kernel
theorem dX6_goLetters_120 : decode cX6_goLetters 120 = .ok (.invokestatic 105, 3) := by decide +kernel
theorem dX6_goLetters_123 : decode cX6_goLetters 123 = .ok (.ifCond .eq 18, 3) := by decide +kernel
theorem dX6_goLetters_126 : decode cX6_goLetters 126 = .ok (.aload_n 0, 1) := by decide +kernel
theorem dX6_goLetters_127 : decode cX6_goLetters 127 = .ok (.getfield 19, 3) := by decide +kernel
theorem dX6_goLetters_130 : decode cX6_goLetters 130 = .ok (.aload_n 0, 1) := by decide +kernel
theorem dX6_goLetters_131 : decode cX6_goLetters 131 = .ok (.getfield 118, 3) := by decide +kernel
theorem dX6_goLetters_134 : decode cX6_goLetters 134 = .ok (.iaload, 1) := by decide +kernel
theorem dX6_goLetters_135 : decode cX6_goLetters 135 = .ok (.bipush 48, 2) := by decide +kernel
theorem dX6_goLetters_137 : decode cX6_goLetters 137 = .ok (.isub, 1) := by decide +kernel
theorem dX6_goLetters_138 : decode cX6_goLetters 138 = .ok (.goto 4, 3) := by decide +kernel
theorem dX6_goLetters_141 : decode cX6_goLetters 141 = .ok (.iconst 1, 1) := by decide +kernel
theorem dX6_goLetters_142 : decode cX6_goLetters 142 = .ok (.istore_n 3, 1) := by decide +kernel
theorem dX6_goLetters_143 : decode cX6_goLetters 143 = .ok (.aload_n 0, 1) := by decide +kernel
theorem dX6_goLetters_144 : decode cX6_goLetters 144 = .ok (.dup, 1) := by decide +kernel
theorem dX6_goLetters_145 : decode cX6_goLetters 145 = .ok (.getfield 118, 3) := by decide +kernel
theorem dX6_goLetters_148 : decode cX6_goLetters 148 = .ok (.iload_n 3, 1) := by decide +kernel
theorem dX6_goLetters_149 : decode cX6_goLetters 149 = .ok (.iconst 1, 1) := by decide +kernel
theorem dX6_goLetters_150 : decode cX6_goLetters 150 = .ok (.if_icmp .le 7, 3) := by decide +kernel
theorem dX6_goLetters_153 : decode cX6_goLetters 153 = .ok (.iconst 1, 1) := by decide +kernel
theorem dX6_goLetters_154 : decode cX6_goLetters 154 = .ok (.goto 4, 3) := by decide +kernel
theorem dX6_goLetters_157 : decode cX6_goLetters 157 = .ok (.iconst 0, 1) := by decide +kernel
theorem dX6_goLetters_158 : decode cX6_goLetters 158 = .ok (.iadd, 1) := by decide +kernel
theorem dX6_goLetters_159 : decode cX6_goLetters 159 = .ok (.putfield 118, 3) := by decide +kernel
theorem dX6_goLetters_162 : decode cX6_goLetters 162 = .ok (.aload_n 0, 1) := by decide +kernel
theorem dX6_goLetters_163 : decode cX6_goLetters 163 = .ok (.dup, 1) := by decide +kernel
theorem dX6_goLetters_164 : decode cX6_goLetters 164 = .ok (.getfield 125, 3) := by decide +kernel
theorem dX6_goLetters_167 : decode cX6_goLetters 167 = .ok (.iload_n 3, 1) := by decide +kernel
theorem dX6_goLetters_168 : decode cX6_goLetters 168 = .ok (.iadd, 1) := by decide +kernel
theorem dX6_goLetters_169 : decode cX6_goLetters 169 = .ok (.putfield 125, 3) := by decide +kernel
theorem dX6_goLetters_172 : decode cX6_goLetters 172 = .ok (.iconst 0, 1) := by decide +kernel
theorem dX6_goLetters_173 : decode cX6_goLetters 173 = .ok (.istore 4, 2) := by decide +kernel
theorem dX6_goLetters_175 : decode cX6_goLetters 175 = .ok (.iload 4, 2) := by decide +kernel
theorem dX6_goLetters_177 : decode cX6_goLetters 177 = .ok (.iload_n 3, 1) := by decide +kernel
theorem dX6_goLetters_178 : decode cX6_goLetters 178 = .ok (.if_icmp .ge 30, 3) := by decide +kernel
theorem dX6_goLetters_181 : decode cX6_goLetters 181 = .ok (.iload_n 1, 1) := by decide +kernel
theorem dX6_goLetters_182 : decode cX6_goLetters 182 = .ok (.ifCond .eq 26, 3) := by decide +kernel
theorem dX6_goLetters_185 : decode cX6_goLetters 185 = .ok (.aload_n 0, 1) := by decide +kernel
theorem dX6_goLetters_186 : decode cX6_goLetters 186 = .ok (.dup, 1) := by decide +kernel
theorem dX6_goLetters_187 : decode cX6_goLetters 187 = .ok (.getfield 128, 3) := by decide +kernel
theorem dX6_goLetters_190 : decode cX6_goLetters 190 = .ok (.aload_n 0, 1) := by decide +kernel
theorem dX6_goLetters_191 : decode cX6_goLetters 191 = .ok (.iload_n 2, 1) := by decide +kernel
theorem dX6_goLetters_192 : decode cX6_goLetters 192 = .ok (.bipush 97, 2) := by decide +kernel
theorem dX6_goLetters_194 : decode cX6_goLetters 194 = .ok (.isub, 1) := by decide +kernel
theorem dX6_goLetters_195 : decode cX6_goLetters 195 = .ok (.invokevirtual 115, 3) := by decide +kernel
theorem dX6_goLetters_198 : decode cX6_goLetters 198 = .ok (.iadd, 1) := by decide +kernel
theorem dX6_goLetters_199 : decode cX6_goLetters 199 = .ok (.putfield 128, 3) := by decide +kernel
theorem dX6_goLetters_202 : decode cX6_goLetters 202 = .ok (.iinc 4 1, 3) := by decide +kernel
theorem dX6_goLetters_205 : decode cX6_goLetters 205 = .ok (.goto (-30), 3) := by decide +kernel
theorem dX6_goLetters_208 : decode cX6_goLetters 208 = .ok (.goto (-188), 3) := by decide +kernel
theorem dX6_goLetters_211 : decode cX6_goLetters 211 = .ok (.return_, 1) := by decide +kernel
set_option maxRecDepth 20000 in
theorem ggX6_goPatterns_X6_in : GoodIn wsX6_goPatterns wsX6_in := goodIn_r _ [10] (by decide +kernel) (by decide +kernel)
set_option maxRecDepth 20000 in
theorem gX6_goPatterns_X6_in : GoodIn wsX6_goPatterns (va_wsS RX6 105 yX6_in wsX6_in) := goodIn_app (goodIn_of _ (by decide +kernel)) ggX6_goPatterns_X6_in
set_option maxRecDepth 20000 in
theorem ggX6_goPatterns_X6_lengthOf : GoodIn wsX6_goPatterns wsX6_lengthOf := goodIn_r _ [13] (by decide +kernel) (by decide +kernel)
set_option maxRecDepth 20000 in
theorem gX6_goPatterns_X6_lengthOf : GoodIn wsX6_goPatterns (va_wsS RX6 38 yX6_lengthOf wsX6_lengthOf) := goodIn_app (goodIn_of _ (by decide +kernel)) ggX6_goPatterns_X6_lengthOf
theorem dX6_goPatterns_0 : decode cX6_goPatterns 0 = .ok (.aload_n 0, 1) := by decide +kernel
theorem dX6_goPatterns_1 : decode cX6_goPatterns 1 = .ok (.iconst 0, 1) := by decide +kernel
theorem dX6_goPatterns_2 : decode cX6_goPatterns 2 = .ok (.putfield 118, 3) := by decide +kernel
theorem dX6_goPatterns_5 : decode cX6_goPatterns 5 = .ok (.aload_n 0, 1) := by decide +kernel
theorem dX6_goPatterns_6 : decode cX6_goPatterns 6 = .ok (.iconst 0, 1) := by decide +kernel
theorem dX6_goPatterns_7 : decode cX6_goPatterns 7 = .ok (.putfield 121, 3) := by decide +kernel
theorem dX6_goPatterns_10 : decode cX6_goPatterns 10 = .ok (.aload_n 0, 1) := by decide +kernel
theorem dX6_goPatterns_11 : decode cX6_goPatterns 11 = .ok (.iconst 0, 1) := by decide +kernel
theorem dX6_goPatterns_12 : decode cX6_goPatterns 12 = .ok (.putfield 134, 3) := by decide +kernel
theorem dX6_goPatterns_15 : decode cX6_goPatterns 15 = .ok (.iconst 1, 1) := by decide +kernel
theorem dX6_goPatterns_16 : decode cX6_goPatterns 16 = .ok (.istore_n 1, 1) := by decide +kernel
theorem dX6_goPatterns_17 : decode cX6_goPatterns 17 = .ok (.aload_n 0, 1) := by decide +kernel
theorem dX6_goPatterns_18 : decode cX6_goPatterns 18 = .ok (.getfield 118, 3) := by decide +kernel
theorem dX6_goPatterns_21 : decode cX6_goPatterns 21 = .ok (.aload_n 0, 1) := by decide +kernel
theorem dX6_goPatterns_22 : decode cX6_goPatterns 22 = .ok (.getfield 131, 3) := by decide +kernel
theorem dX6_goPatterns_25 : decode cX6_goPatterns 25 = .ok (.if_icmp .ge 139, 3) := by decide +kernel
theorem dX6_goPatterns_28 : decode cX6_goPatterns 28 = .ok (.aload_n 0, 1) := by decide +kernel
theorem dX6_goPatterns_29 : decode cX6_goPatterns 29 = .ok (.getfield 121, 3) := by decide +kernel
theorem dX6_goPatterns_32 : decode cX6_goPatterns 32 = .ok (.ifCond .ne 132, 3) := by decide +kernel
theorem dX6_goPatterns_35 : decode cX6_goPatterns 35 = .ok (.aload_n 0, 1) := by decide +kernel
theorem dX6_goPatterns_36 : decode cX6_goPatterns 36 = .ok (.getfield 19, 3) := by decide +kernel
theorem dX6_goPatterns_39 : decode cX6_goPatterns 39 = .ok (.aload_n 0, 1) := by decide +kernel
theorem dX6_goPatterns_40 : decode cX6_goPatterns 40 = .ok (.getfield 118, 3) := by decide +kernel
theorem dX6_goPatterns_43 : decode cX6_goPatterns 43 = .ok (.iaload, 1) := by decide +kernel
theorem dX6_goPatterns_44 : decode cX6_goPatterns 44 = .ok (.istore_n 2, 1) := by decide +kernel
theorem dX6_goPatterns_45 : decode cX6_goPatterns 45 = .ok (.iload_n 2, 1) := by decide +kernel
theorem dX6_goPatterns_46 : decode cX6_goPatterns 46 = .ok (.bipush 97, 2) := by decide +kernel
theorem dX6_goPatterns_48 : decode cX6_goPatterns 48 = .ok (.bipush 100, 2) := by decide +kernel
theorem dX6_goPatterns_50 : decode cX6_goPatterns 50 = .ok (.invokestatic 105, 3) := by decide +kernel
theorem dX6_goPatterns_53 : decode cX6_goPatterns 53 = .ok (.ifCond .eq 16, 3) := by decide +kernel
theorem dX6_goPatterns_56 : decode cX6_goPatterns 56 = .ok (.iload_n 1, 1) := by decide +kernel
theorem dX6_goPatterns_57 : decode cX6_goPatterns 57 = .ok (.invokestatic 38, 3) := by decide +kernel
theorem dX6_goPatterns_60 : decode cX6_goPatterns 60 = .ok (.bipush 8, 2) := by decide +kernel
theorem dX6_goPatterns_62 : decode cX6_goPatterns 62 = .ok (.if_icmp .ge 7, 3) := by decide +kernel
theorem dX6_goPatterns_65 : decode cX6_goPatterns 65 = .ok (.iconst 1, 1) := by decide +kernel
theorem dX6_goPatterns_66 : decode cX6_goPatterns 66 = .ok (.goto 4, 3) := by decide +kernel
theorem dX6_goPatterns_69 : decode cX6_goPatterns 69 = .ok (.iconst 0, 1) := by decide +kernel
theorem dX6_goPatterns_70 : decode cX6_goPatterns 70 = .ok (.istore_n 3, 1) := by decide +kernel
theorem dX6_goPatterns_71 : decode cX6_goPatterns 71 = .ok (.aload_n 0, 1) := by decide +kernel
theorem dX6_goPatterns_72 : decode cX6_goPatterns 72 = .ok (.iload_n 3, 1) := by decide +kernel
theorem dX6_goPatterns_73 : decode cX6_goPatterns 73 = .ok (.ifCond .ne 18, 3) := by decide +kernel
theorem dX6_goPatterns_76 : decode cX6_goPatterns 76 = .ok (.iload_n 2, 1) := by decide +kernel
theorem dX6_goPatterns_77 : decode cX6_goPatterns 77 = .ok (.bipush 59, 2) := by decide +kernel
theorem dX6_goPatterns_79 : decode cX6_goPatterns 79 = .ok (.if_icmp .ne 8, 3) := by decide +kernel
theorem dX6_goPatterns_82 : decode cX6_goPatterns 82 = .ok (.iload_n 1, 1) := by decide +kernel
theorem dX6_goPatterns_83 : decode cX6_goPatterns 83 = .ok (.iconst 1, 1) := by decide +kernel
theorem dX6_goPatterns_84 : decode cX6_goPatterns 84 = .ok (.if_icmp .ne 7, 3) := by decide +kernel
theorem dX6_goPatterns_87 : decode cX6_goPatterns 87 = .ok (.iconst 1, 1) := by decide +kernel
theorem dX6_goPatterns_88 : decode cX6_goPatterns 88 = .ok (.goto 4, 3) := by decide +kernel
theorem dX6_goPatterns_91 : decode cX6_goPatterns 91 = .ok (.iconst 0, 1) := by decide +kernel
theorem dX6_goPatterns_92 : decode cX6_goPatterns 92 = .ok (.putfield 121, 3) := by decide +kernel
theorem dX6_goPatterns_95 : decode cX6_goPatterns 95 = .ok (.iload_n 3, 1) := by decide +kernel
theorem dX6_goPatterns_96 : decode cX6_goPatterns 96 = .ok (.ifCond .eq 15, 3) := by decide +kernel
theorem dX6_goPatterns_99 : decode cX6_goPatterns 99 = .ok (.iconst 4, 1) := by decide +kernel
theorem dX6_goPatterns_100 : decode cX6_goPatterns 100 = .ok (.iload_n 1, 1) := by decide +kernel
theorem dX6_goPatterns_101 : decode cX6_goPatterns 101 = .ok (.imul, 1) := by decide +kernel
theorem dX6_goPatterns_102 : decode cX6_goPatterns 102 = .ok (.iload_n 2, 1) := by decide +kernel
theorem dX6_goPatterns_103 : decode cX6_goPatterns 103 = .ok (.iadd, 1) := by decide +kernel
theorem dX6_goPatterns_104 : decode cX6_goPatterns 104 = .ok (.bipush 97, 2) := by decide +kernel
theorem dX6_goPatterns_106 : decode cX6_goPatterns 106 = .ok (.isub, 1) := by decide +kernel
theorem dX6_goPatterns_107 : decode cX6_goPatterns 107 = .ok (.istore_n 1, 1) := by decide +kernel
theorem dX6_goPatterns_108 : decode cX6_goPatterns 108 = .ok (.goto 32, 3) := by decide +kernel
theorem dX6_goPatterns_111 : decode cX6_goPatterns 111 = .ok (.aload_n 0, 1) := by decide +kernel
theorem dX6_goPatterns_112 : decode cX6_goPatterns 112 = .ok (.getfield 121, 3) := by decide +kernel
theorem dX6_goPatterns_115 : decode cX6_goPatterns 115 = .ok (.ifCond .ne 25, 3) := by decide +kernel
theorem dX6_goPatterns_118 : decode cX6_goPatterns 118 = .ok (.aload_n 0, 1) := by decide +kernel
theorem dX6_goPatterns_119 : decode cX6_goPatterns 119 = .ok (.getfield 25, 3) := by decide +kernel
theorem dX6_goPatterns_122 : decode cX6_goPatterns 122 = .ok (.aload_n 0, 1) := by decide +kernel
theorem dX6_goPatterns_123 : decode cX6_goPatterns 123 = .ok (.getfield 134, 3) := by decide +kernel
theorem dX6_goPatterns_126 : decode cX6_goPatterns 126 = .ok (.iload_n 1, 1) := by decide +kernel
theorem dX6_goPatterns_127 : decode cX6_goPatterns 127 = .ok (.iastore, 1) := by decide +kernel
theorem dX6_goPatterns_128 : decode cX6_goPatterns 128 = .ok (.aload_n 0, 1) := by decide +kernel
theorem dX6_goPatterns_129 : decode cX6_goPatterns 129 = .ok (.dup, 1) := by decide +kernel
theorem dX6_goPatterns_130 : decode cX6_goPatterns 130 = .ok (.getfield 134, 3) := by decide +kernel
theorem dX6_goPatterns_133 : decode cX6_goPatterns 133 = .ok (.iconst 1, 1) := by decide +kernel
theorem dX6_goPatterns_134 : decode cX6_goPatterns 134 = .ok (.iadd, 1) := by decide +kernel
theorem dX6_goPatterns_135 : decode cX6_goPatterns 135 = .ok (.putfield 134, 3) := by decide +kernel
theorem dX6_goPatterns_138 : decode cX6_goPatterns 138 = .ok (.iconst 1, 1) := by decide +kernel
theorem dX6_goPatterns_139 : decode cX6_goPatterns 139 = .ok (.istore_n 1, 1) := by decide +kernel
theorem dX6_goPatterns_140 : decode cX6_goPatterns 140 = .ok (.aload_n 0, 1) := by decide +kernel
theorem dX6_goPatterns_141 : decode cX6_goPatterns 141 = .ok (.dup, 1) := by decide +kernel
theorem dX6_goPatterns_142 : decode cX6_goPatterns 142 = .ok (.getfield 118, 3) := by decide +kernel
theorem dX6_goPatterns_145 : decode cX6_goPatterns 145 = .ok (.aload_n 0, 1) := by decide +kernel
theorem dX6_goPatterns_146 : decode cX6_goPatterns 146 = .ok (.getfield 121, 3) := by decide +kernel
theorem dX6_goPatterns_149 : decode cX6_goPatterns 149 = .ok (.ifCond .eq 7, 3) := by decide +kernel
theorem dX6_goPatterns_152 : decode cX6_goPatterns 152 = .ok (.iconst 0, 1) := by decide +kernel
theorem dX6_goPatterns_153 : decode cX6_goPatterns 153 = .ok (.goto 4, 3) := by decide +kernel
theorem dX6_goPatterns_156 : decode cX6_goPatterns 156 = .ok (.iconst 1, 1) := by decide +kernel
theorem dX6_goPatterns_157 : decode cX6_goPatterns 157 = .ok (.iadd, 1) := by decide +kernel
theorem dX6_goPatterns_158 : decode cX6_goPatterns 158 = .ok (.putfield 118, 3) := by decide +kernel
theorem dX6_goPatterns_161 : decode cX6_goPatterns 161 = .ok (.goto (-144), 3) := by decide +kernel
theorem dX6_goPatterns_164 : decode cX6_goPatterns 164 = .ok (.aload_n 0, 1) := by decide +kernel
theorem dX6_goPatterns_165 : decode cX6_goPatterns 165 = .ok (.getfield 25, 3) := by decide +kernel
theorem dX6_goPatterns_168 : decode cX6_goPatterns 168 = .ok (.aload_n 0, 1) := by decide +kernel
theorem dX6_goPatterns_169 : decode cX6_goPatterns 169 = .ok (.getfield 134, 3) := by decide +kernel
theorem dX6_goPatterns_172 : decode cX6_goPatterns 172 = .ok (.iload_n 1, 1) := by decide +kernel
theorem dX6_goPatterns_173 : decode cX6_goPatterns 173 = .ok (.iastore, 1) := by decide +kernel
theorem dX6_goPatterns_174 : decode cX6_goPatterns 174 = .ok (.aload_n 0, 1) := by decide +kernel
theorem dX6_goPatterns_175 : decode cX6_goPatterns 175 = .ok (.dup, 1) := by decide +kernel
theorem dX6_goPatterns_176 : decode cX6_goPatterns 176 = .ok (.getfield 134, 3) := by decide +kernel
theorem dX6_goPatterns_179 : decode cX6_goPatterns 179 = .ok (.iconst 1, 1) := by decide +kernel
theorem dX6_goPatterns_180 : decode cX6_goPatterns 180 = .ok (.iadd, 1) := by decide +kernel
theorem dX6_goPatterns_181 : decode cX6_goPatterns 181 = .ok (.putfield 134, 3) := by decide +kernel
theorem dX6_goPatterns_184 : decode cX6_goPatterns 184 = .ok (.return_, 1) := by decide +kernel
theorem dX6_isHeld_0 : decode cX6_isHeld 0 = .ok (.iconst 0, 1) := by decide +kernel
theorem dX6_isHeld_1 : decode cX6_isHeld 1 = .ok (.istore_n 2, 1) := by decide +kernel
theorem dX6_isHeld_2 : decode cX6_isHeld 2 = .ok (.iconst 0, 1) := by decide +kernel
theorem dX6_isHeld_3 : decode cX6_isHeld 3 = .ok (.istore_n 3, 1) := by decide +kernel
theorem dX6_isHeld_4 : decode cX6_isHeld 4 = .ok (.iload_n 3, 1) := by decide +kernel
theorem dX6_isHeld_5 : decode cX6_isHeld 5 = .ok (.bipush 8, 2) := by decide +kernel
theorem dX6_isHeld_7 : decode cX6_isHeld 7 = .ok (.if_icmp .ge 31, 3) := by decide +kernel
theorem dX6_isHeld_10 : decode cX6_isHeld 10 = .ok (.iload_n 2, 1) := by decide +kernel
theorem dX6_isHeld_11 : decode cX6_isHeld 11 = .ok (.ifCond .ne 15, 3) := by decide +kernel
theorem dX6_isHeld_14 : decode cX6_isHeld 14 = .ok (.aload_n 0, 1) := by decide +kernel
theorem dX6_isHeld_15 : decode cX6_isHeld 15 = .ok (.getfield 7, 3) := by decide +kernel
theorem dX6_isHeld_18 : decode cX6_isHeld 18 = .ok (.iconst 0, 1) := by decide +kernel
theorem dX6_isHeld_19 : decode cX6_isHeld 19 = .ok (.iload_n 3, 1) := by decide +kernel
theorem dX6_isHeld_20 : decode cX6_isHeld 20 = .ok (.iadd, 1) := by decide +kernel
theorem dX6_isHeld_21 : decode cX6_isHeld 21 = .ok (.iaload, 1) := by decide +kernel
theorem dX6_isHeld_22 : decode cX6_isHeld 22 = .ok (.iload_n 1, 1) := by decide +kernel
theorem dX6_isHeld_23 : decode cX6_isHeld 23 = .ok (.if_icmp .ne 7, 3) := by decide +kernel
theorem dX6_isHeld_26 : decode cX6_isHeld 26 = .ok (.iconst 1, 1) := by decide +kernel
theorem dX6_isHeld_27 : decode cX6_isHeld 27 = .ok (.goto 4, 3) := by decide +kernel
theorem dX6_isHeld_30 : decode cX6_isHeld 30 = .ok (.iconst 0, 1) := by decide +kernel
theorem dX6_isHeld_31 : decode cX6_isHeld 31 = .ok (.istore_n 2, 1) := by decide +kernel
theorem dX6_isHeld_32 : decode cX6_isHeld 32 = .ok (.iinc 3 1, 3) := by decide +kernel
theorem dX6_isHeld_35 : decode cX6_isHeld 35 = .ok (.goto (-31), 3) := by decide +kernel
theorem dX6_isHeld_38 : decode cX6_isHeld 38 = .ok (.iload_n 2, 1) := by decide +kernel
theorem dX6_isHeld_39 : decode cX6_isHeld 39 = .ok (.ireturn, 1) := by decide +kernel
set_option maxRecDepth 20000 in
theorem ggX6_adds_X6_isHeld : GoodIn wsX6_adds wsX6_isHeld := goodIn_r _ [8, 3, 13, 14, 15, 16, 17, 18, 19, 20, 21, 22, 23, 24, 25, 26, 27, 28] (by decide +kernel) (by decide +kernel)
set_option maxRecDepth 20000 in
theorem gX6_adds_X6_isHeld : GoodIn wsX6_adds (wsV RX6 137 RX6 yX6_isHeld wsX6_isHeld) := goodIn_app (goodIn_of _ (by decide +kernel)) ggX6_adds_X6_isHeld
set_option maxRecDepth 20000 in
theorem ggX6_adds_X6_isThere : GoodIn wsX6_adds wsX6_isThere := goodIn_r _ [12, 3, 13, 14, 15, 16, 17, 18, 19, 20, 21, 22, 23, 24, 25, 26, 27, 28] (by decide +kernel) (by decide +kernel)
set_option maxRecDepth 20000 in
theorem gX6_adds_X6_isThere : GoodIn wsX6_adds (wsV RX6 53 RX6 yX6_isThere wsX6_isThere) := goodIn_app (goodIn_of _ (by decide +kernel)) ggX6_adds_X6_isThere
theorem dX6_adds_0 : decode cX6_adds 0 = .ok (.iconst 0, 1) := by decide +kernel
theorem dX6_adds_1 : decode cX6_adds 1 = .ok (.istore_n 1, 1) := by decide +kernel
theorem dX6_adds_2 : decode cX6_adds 2 = .ok (.iconst 0, 1) := by decide +kernel
theorem dX6_adds_3 : decode cX6_adds 3 = .ok (.istore_n 2, 1) := by decide +kernel
theorem dX6_adds_4 : decode cX6_adds 4 = .ok (.iload_n 2, 1) := by decide +kernel
theorem dX6_adds_5 : decode cX6_adds 5 = .ok (.aload_n 0, 1) := by decide +kernel
theorem dX6_adds_6 : decode cX6_adds 6 = .ok (.getfield 134, 3) := by decide +kernel
theorem dX6_adds_9 : decode cX6_adds 9 = .ok (.if_icmp .ge 69, 3) := by decide +kernel
theorem dX6_adds_12 : decode cX6_adds 12 = .ok (.aload_n 0, 1) := by decide +kernel
theorem dX6_adds_13 : decode cX6_adds 13 = .ok (.aload_n 0, 1) := by decide +kernel
theorem dX6_adds_14 : decode cX6_adds 14 = .ok (.getfield 25, 3) := by decide +kernel
theorem dX6_adds_17 : decode cX6_adds 17 = .ok (.iload_n 2, 1) := by decide +kernel
theorem dX6_adds_18 : decode cX6_adds 18 = .ok (.iaload, 1) := by decide +kernel
theorem dX6_adds_19 : decode cX6_adds 19 = .ok (.invokevirtual 137, 3) := by decide +kernel
theorem dX6_adds_22 : decode cX6_adds 22 = .ok (.ifCond .ne 50, 3) := by decide +kernel
theorem dX6_adds_25 : decode cX6_adds 25 = .ok (.iconst 0, 1) := by decide +kernel
theorem dX6_adds_26 : decode cX6_adds 26 = .ok (.istore_n 3, 1) := by decide +kernel
theorem dX6_adds_27 : decode cX6_adds 27 = .ok (.iload_n 3, 1) := by decide +kernel
theorem dX6_adds_28 : decode cX6_adds 28 = .ok (.bipush 8, 2) := by decide +kernel
theorem dX6_adds_30 : decode cX6_adds 30 = .ok (.if_icmp .ge 17, 3) := by decide +kernel
theorem dX6_adds_33 : decode cX6_adds 33 = .ok (.aload_n 0, 1) := by decide +kernel
theorem dX6_adds_34 : decode cX6_adds 34 = .ok (.iload_n 3, 1) := by decide +kernel
theorem dX6_adds_35 : decode cX6_adds 35 = .ok (.invokevirtual 53, 3) := by decide +kernel
theorem dX6_adds_38 : decode cX6_adds 38 = .ok (.ifCond .eq 9, 3) := by decide +kernel
theorem dX6_adds_41 : decode cX6_adds 41 = .ok (.iinc 3 1, 3) := by decide +kernel
theorem dX6_adds_44 : decode cX6_adds 44 = .ok (.goto (-17), 3) := by decide +kernel
theorem dX6_adds_47 : decode cX6_adds 47 = .ok (.iload_n 3, 1) := by decide +kernel
theorem dX6_adds_48 : decode cX6_adds 48 = .ok (.bipush 8, 2) := by decide +kernel
theorem dX6_adds_50 : decode cX6_adds 50 = .ok (.if_icmp .ne 5, 3) := by decide +kernel
theorem dX6_adds_53 : decode cX6_adds 53 = .ok (.iconst (-1), 1) := by decide +kernel
theorem dX6_adds_54 : decode cX6_adds 54 = .ok (.ireturn, 1) := by decide +kernel
theorem dX6_adds_55 : decode cX6_adds 55 = .ok (.aload_n 0, 1) := by decide +kernel
theorem dX6_adds_56 : decode cX6_adds 56 = .ok (.getfield 7, 3) := by decide +kernel
theorem dX6_adds_59 : decode cX6_adds 59 = .ok (.iconst 0, 1) := by decide +kernel
theorem dX6_adds_60 : decode cX6_adds 60 = .ok (.iload_n 3, 1) := by decide +kernel
theorem dX6_adds_61 : decode cX6_adds 61 = .ok (.iadd, 1) := by decide +kernel
theorem dX6_adds_62 : decode cX6_adds 62 = .ok (.aload_n 0, 1) := by decide +kernel
theorem dX6_adds_63 : decode cX6_adds 63 = .ok (.getfield 25, 3) := by decide +kernel
theorem dX6_adds_66 : decode cX6_adds 66 = .ok (.iload_n 2, 1) := by decide +kernel
theorem dX6_adds_67 : decode cX6_adds 67 = .ok (.iaload, 1) := by decide +kernel
theorem dX6_adds_68 : decode cX6_adds 68 = .ok (.iastore, 1) := by decide +kernel
theorem dX6_adds_69 : decode cX6_adds 69 = .ok (.iinc 1 1, 3) := by decide +kernel
theorem dX6_adds_72 : decode cX6_adds 72 = .ok (.iinc 2 1, 3) := by decide +kernel
theorem dX6_adds_75 : decode cX6_adds 75 = .ok (.goto (-71), 3) := by decide +kernel
theorem dX6_adds_78 : decode cX6_adds 78 = .ok (.iload_n 1, 1) := by decide +kernel
theorem dX6_adds_79 : decode cX6_adds 79 = .ok (.ireturn, 1) := by decide +kernel
set_option maxRecDepth 20000 in
theorem ggX6_add_X6_goPatterns : GoodIn wsX6_add wsX6_goPatterns := goodIn_r _ [9, 10, 1, 3, 4, 11, 2, 12, 13, 8, 14, 15, 16, 17, 51, 52, 53, 54, 55, 56, 57, 58, 59, 60, 61, 62, 63, 64, 65, 66] (by decide +kernel) (by decide +kernel)
set_option maxRecDepth 20000 in
theorem gX6_add_X6_goPatterns : GoodIn wsX6_add (wsV RX6 140 RX6 yX6_goPatterns wsX6_goPatterns) := goodIn_app (goodIn_of _ (by decide +kernel)) ggX6_add_X6_goPatterns
set_option maxRecDepth 20000 in
theorem ggX6_add_X6_putAside : GoodIn wsX6_add wsX6_putAside := goodIn_r _ [21, 22, 23, 51, 52, 53, 54, 55, 56, 57, 58, 59, 60, 61, 62, 63, 64, 65, 66] (by decide +kernel) (by decide +kernel)
set_option maxRecDepth 20000 in
theorem gX6_add_X6_putAside : GoodIn wsX6_add (wsV RX6 143 RX6 yX6_putAside wsX6_putAside) := goodIn_app (goodIn_of _ (by decide +kernel)) ggX6_add_X6_putAside
set_option maxRecDepth 20000 in
theorem ggX6_add_X6_adds : GoodIn wsX6_add wsX6_adds := goodIn_r _ [27, 3, 2, 23, 28, 29, 30, 8, 31, 32, 33, 34, 35, 51, 52, 53, 54, 55, 56, 57, 58, 59, 60, 61, 62, 63, 64, 65, 66] (by decide +kernel) (by decide +kernel)
set_option maxRecDepth 20000 in
theorem gX6_add_X6_adds : GoodIn wsX6_add (wsV RX6 146 RX6 yX6_adds wsX6_adds) := goodIn_app (goodIn_of _ (by decide +kernel)) ggX6_add_X6_adds
set_option maxRecDepth 20000 in
theorem ggX6_add_X6_putBack : GoodIn wsX6_add wsX6_putBack := goodIn_r _ [39, 23, 22, 51, 52, 53, 54, 55, 56, 57, 58, 59, 60, 61, 62, 63, 64, 65, 66] (by decide +kernel) (by decide +kernel)
set_option maxRecDepth 20000 in
theorem gX6_add_X6_putBack : GoodIn wsX6_add (wsV RX6 149 RX6 yX6_putBack wsX6_putBack) := goodIn_app (goodIn_of _ (by decide +kernel)) ggX6_add_X6_putBack
set_option maxRecDepth 20000 in
theorem ggX6_add_X6_holds : GoodIn wsX6_add wsX6_holds := goodIn_r _ [43, 44, 51, 52, 53, 54, 55, 56, 57, 58, 59, 60, 61, 62, 63, 64, 65, 66] (by decide +kernel) (by decide +kernel)
set_option maxRecDepth 20000 in
theorem gX6_add_X6_holds : GoodIn wsX6_add (wsV RX6 109 RX6 yX6_holds wsX6_holds) := goodIn_app (goodIn_of _ (by decide +kernel)) ggX6_add_X6_holds
set_option maxRecDepth 20000 in
theorem ggX6_add_X6_save : GoodIn wsX6_add wsX6_save := goodIn_r _ [48, 49, 50, 23, 51, 52, 53, 54, 55, 56, 57, 58, 59, 60, 61, 62, 63, 64, 65, 66] (by decide +kernel) (by decide +kernel)
set_option maxRecDepth 20000 in
theorem gX6_add_X6_save : GoodIn wsX6_add (wsV RX6 112 RX6 yX6_save wsX6_save) := goodIn_app (goodIn_of _ (by decide +kernel)) ggX6_add_X6_save
theorem dX6_add_0 : decode cX6_add 0 = .ok (.aload_n 0, 1) := by decide +kernel
theorem dX6_add_1 : decode cX6_add 1 = .ok (.invokevirtual 140, 3) := by decide +kernel
theorem dX6_add_4 : decode cX6_add 4 = .ok (.aload_n 0, 1) := by decide +kernel
theorem dX6_add_5 : decode cX6_add 5 = .ok (.getfield 121, 3) := by decide +kernel
theorem dX6_add_8 : decode cX6_add 8 = .ok (.ifCond .ne 22, 3) := by decide +kernel
theorem dX6_add_11 : decode cX6_add 11 = .ok (.aload_n 0, 1) := by decide +kernel
theorem dX6_add_12 : decode cX6_add 12 = .ok (.getfield 25, 3) := by decide +kernel
theorem dX6_add_15 : decode cX6_add 15 = .ok (.aload_n 0, 1) := by decide +kernel
theorem dX6_add_16 : decode cX6_add 16 = .ok (.getfield 134, 3) := by decide +kernel
theorem dX6_add_19 : decode cX6_add 19 = .ok (.iconst 1, 1) := by decide +kernel
theorem dX6_add_20 : decode cX6_add 20 = .ok (.isub, 1) := by decide +kernel
theorem dX6_add_21 : decode cX6_add 21 = .ok (.iaload, 1) := by decide +kernel
theorem dX6_add_22 : decode cX6_add 22 = .ok (.iconst 1, 1) := by decide +kernel
theorem dX6_add_23 : decode cX6_add 23 = .ok (.if_icmp .le 7, 3) := by decide +kernel
theorem dX6_add_26 : decode cX6_add 26 = .ok (.iconst 1, 1) := by decide +kernel
theorem dX6_add_27 : decode cX6_add 27 = .ok (.goto 4, 3) := by decide +kernel
theorem dX6_add_30 : decode cX6_add 30 = .ok (.iconst 0, 1) := by decide +kernel
theorem dX6_add_31 : decode cX6_add 31 = .ok (.istore_n 1, 1) := by decide +kernel
theorem dX6_add_32 : decode cX6_add 32 = .ok (.aload_n 0, 1) := by decide +kernel
theorem dX6_add_33 : decode cX6_add 33 = .ok (.invokevirtual 143, 3) := by decide +kernel
theorem dX6_add_36 : decode cX6_add 36 = .ok (.iload_n 1, 1) := by decide +kernel
theorem dX6_add_37 : decode cX6_add 37 = .ok (.ifCond .eq 10, 3) := by decide +kernel
theorem dX6_add_40 : decode cX6_add 40 = .ok (.aload_n 0, 1) := by decide +kernel
theorem dX6_add_41 : decode cX6_add 41 = .ok (.invokevirtual 146, 3) := by decide +kernel
theorem dX6_add_44 : decode cX6_add 44 = .ok (.goto 4, 3) := by decide +kernel
theorem dX6_add_47 : decode cX6_add 47 = .ok (.iconst 0, 1) := by decide +kernel
theorem dX6_add_48 : decode cX6_add 48 = .ok (.istore_n 2, 1) := by decide +kernel
theorem dX6_add_49 : decode cX6_add 49 = .ok (.aload_n 0, 1) := by decide +kernel
theorem dX6_add_50 : decode cX6_add 50 = .ok (.invokevirtual 149, 3) := by decide +kernel
theorem dX6_add_53 : decode cX6_add 53 = .ok (.aload_n 0, 1) := by decide +kernel
theorem dX6_add_54 : decode cX6_add 54 = .ok (.iload_n 1, 1) := by decide +kernel
theorem dX6_add_55 : decode cX6_add 55 = .ok (.ifCond .ne 7, 3) := by decide +kernel
theorem dX6_add_58 : decode cX6_add 58 = .ok (.iconst 1, 1) := by decide +kernel
theorem dX6_add_59 : decode cX6_add 59 = .ok (.goto 13, 3) := by decide +kernel
theorem dX6_add_62 : decode cX6_add 62 = .ok (.iload_n 2, 1) := by decide +kernel
theorem dX6_add_63 : decode cX6_add 63 = .ok (.iconst (-1), 1) := by decide +kernel
theorem dX6_add_64 : decode cX6_add 64 = .ok (.if_icmp .ne 7, 3) := by decide +kernel
theorem dX6_add_67 : decode cX6_add 67 = .ok (.iconst 2, 1) := by decide +kernel
theorem dX6_add_68 : decode cX6_add 68 = .ok (.goto 4, 3) := by decide +kernel
theorem dX6_add_71 : decode cX6_add 71 = .ok (.iconst 0, 1) := by decide +kernel
theorem dX6_add_72 : decode cX6_add 72 = .ok (.invokevirtual 109, 3) := by decide +kernel
theorem dX6_add_75 : decode cX6_add 75 = .ok (.ifCond .ne 5, 3) := by decide +kernel
