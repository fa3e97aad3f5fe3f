theorem dX6_kindOf_0 : decode cX6_kindOf 0 = .ok (.bipush (-6), 2) := by decide +kernel
theorem dX6_kindOf_2 : decode cX6_kindOf 2 = .ok (.istore_n 3, 1) := by decide +kernel
theorem dX6_kindOf_3 : decode cX6_kindOf 3 = .ok (.iconst 0, 1) := by decide +kernel
theorem dX6_kindOf_4 : decode cX6_kindOf 4 = .ok (.istore 4, 2) := by decide +kernel
theorem dX6_kindOf_6 : decode cX6_kindOf 6 = .ok (.iload 4, 2) := by decide +kernel
theorem dX6_kindOf_8 : decode cX6_kindOf 8 = .ok (.iload_n 1, 1) := by decide +kernel
theorem dX6_kindOf_9 : decode cX6_kindOf 9 = .ok (.if_icmp .ge 79, 3) := by decide +kernel
theorem dX6_kindOf_12 : decode cX6_kindOf 12 = .ok (.iload_n 1, 1) := by decide +kernel
theorem dX6_kindOf_13 : decode cX6_kindOf 13 = .ok (.iload_n 2, 1) := by decide +kernel
theorem dX6_kindOf_14 : decode cX6_kindOf 14 = .ok (.iload 4, 2) := by decide +kernel
theorem dX6_kindOf_16 : decode cX6_kindOf 16 = .ok (.invokestatic 128, 3) := by decide +kernel
theorem dX6_kindOf_19 : decode cX6_kindOf 19 = .ok (.istore 5, 2) := by decide +kernel
theorem dX6_kindOf_21 : decode cX6_kindOf 21 = .ok (.iconst 0, 1) := by decide +kernel
theorem dX6_kindOf_22 : decode cX6_kindOf 22 = .ok (.istore 6, 2) := by decide +kernel
theorem dX6_kindOf_24 : decode cX6_kindOf 24 = .ok (.iload 6, 2) := by decide +kernel
theorem dX6_kindOf_26 : decode cX6_kindOf 26 = .ok (.iload_n 1, 1) := by decide +kernel
theorem dX6_kindOf_27 : decode cX6_kindOf 27 = .ok (.invokestatic 160, 3) := by decide +kernel
theorem dX6_kindOf_30 : decode cX6_kindOf 30 = .ok (.if_icmp .ge 52, 3) := by decide +kernel
theorem dX6_kindOf_33 : decode cX6_kindOf 33 = .ok (.aload_n 0, 1) := by decide +kernel
theorem dX6_kindOf_34 : decode cX6_kindOf 34 = .ok (.iload_n 1, 1) := by decide +kernel
theorem dX6_kindOf_35 : decode cX6_kindOf 35 = .ok (.iload 6, 2) := by decide +kernel
theorem dX6_kindOf_37 : decode cX6_kindOf 37 = .ok (.invokevirtual 163, 3) := by decide +kernel
theorem dX6_kindOf_40 : decode cX6_kindOf 40 = .ok (.aload_n 0, 1) := by decide +kernel
theorem dX6_kindOf_41 : decode cX6_kindOf 41 = .ok (.getfield 23, 3) := by decide +kernel
theorem dX6_kindOf_44 : decode cX6_kindOf 44 = .ok (.iload 4, 2) := by decide +kernel
theorem dX6_kindOf_46 : decode cX6_kindOf 46 = .ok (.iaload, 1) := by decide +kernel
theorem dX6_kindOf_47 : decode cX6_kindOf 47 = .ok (.ifCond .ne 29, 3) := by decide +kernel
theorem dX6_kindOf_50 : decode cX6_kindOf 50 = .ok (.aload_n 0, 1) := by decide +kernel
theorem dX6_kindOf_51 : decode cX6_kindOf 51 = .ok (.iload_n 1, 1) := by decide +kernel
theorem dX6_kindOf_52 : decode cX6_kindOf 52 = .ok (.iload 5, 2) := by decide +kernel
theorem dX6_kindOf_54 : decode cX6_kindOf 54 = .ok (.invokevirtual 167, 3) := by decide +kernel
theorem dX6_kindOf_57 : decode cX6_kindOf 57 = .ok (.istore 7, 2) := by decide +kernel
theorem dX6_kindOf_59 : decode cX6_kindOf 59 = .ok (.iload_n 3, 1) := by decide +kernel
theorem dX6_kindOf_60 : decode cX6_kindOf 60 = .ok (.ifCond .lt 9, 3) := by decide +kernel
theorem dX6_kindOf_63 : decode cX6_kindOf 63 = .ok (.iload 7, 2) := by decide +kernel
theorem dX6_kindOf_65 : decode cX6_kindOf 65 = .ok (.iload_n 3, 1) := by decide +kernel
theorem dX6_kindOf_66 : decode cX6_kindOf 66 = .ok (.if_icmp .ge 8, 3) := by decide +kernel
theorem dX6_kindOf_69 : decode cX6_kindOf 69 = .ok (.iload 7, 2) := by decide +kernel
theorem dX6_kindOf_71 : decode cX6_kindOf 71 = .ok (.goto 4, 3) := by decide +kernel
theorem dX6_kindOf_74 : decode cX6_kindOf 74 = .ok (.iload_n 3, 1) := by decide +kernel
theorem dX6_kindOf_75 : decode cX6_kindOf 75 = .ok (.istore_n 3, 1) := by decide +kernel
theorem dX6_kindOf_76 : decode cX6_kindOf 76 = .ok (.iinc 6 1, 3) := by decide +kernel
theorem dX6_kindOf_79 : decode cX6_kindOf 79 = .ok (.goto (-55), 3) := by decide +kernel
theorem dX6_kindOf_82 : decode cX6_kindOf 82 = .ok (.iinc 4 1, 3) := by decide +kernel
theorem dX6_kindOf_85 : decode cX6_kindOf 85 = .ok (.goto (-79), 3) := by decide +kernel
theorem dX6_kindOf_88 : decode cX6_kindOf 88 = .ok (.iload_n 3, 1) := by decide +kernel
theorem dX6_kindOf_89 : decode cX6_kindOf 89 = .ok (.ireturn, 1) := by decide +kernel
set_option maxRecDepth 20000 in
theorem ggX6_comesTo_X6_alone : GoodIn wsX6_comesTo wsX6_alone := goodIn_r _ [4, 5, 6, 3, 7, 8, 9, 10, 11, 12, 13, 14, 15, 16, 17, 18, 19] (by decide +kernel) (by decide +kernel)
set_option maxRecDepth 20000 in
theorem gX6_comesTo_X6_alone : GoodIn wsX6_comesTo (va_wsS RX6 128 yX6_alone wsX6_alone) := goodIn_app (goodIn_of _ (by decide +kernel)) ggX6_comesTo_X6_alone
set_option maxRecDepth 20000 in
theorem ggX6_comesTo_X6_orders : GoodIn wsX6_comesTo wsX6_orders := goodIn_r _ [22] (by decide +kernel) (by decide +kernel)
set_option maxRecDepth 20000 in
theorem gX6_comesTo_X6_orders : GoodIn wsX6_comesTo (va_wsS RX6 160 yX6_orders wsX6_orders) := goodIn_app (goodIn_of _ (by decide +kernel)) ggX6_comesTo_X6_orders
set_option maxRecDepth 20000 in
theorem ggX6_comesTo_X6_layRank : GoodIn wsX6_comesTo wsX6_layRank := goodIn_r _ [26, 27, 28, 33, 34, 35, 36, 37, 38, 39, 40, 41, 42, 43, 44, 45] (by decide +kernel) (by decide +kernel)
set_option maxRecDepth 20000 in
theorem gX6_comesTo_X6_layRank : GoodIn wsX6_comesTo (wsV RX6 163 RX6 yX6_layRank wsX6_layRank) := goodIn_app (goodIn_of _ (by decide +kernel)) ggX6_comesTo_X6_layRank
set_option maxRecDepth 20000 in
theorem ggX6_comesTo_X6_renumbered : GoodIn wsX6_comesTo wsX6_renumbered := goodIn_r _ [32, 27, 8, 9, 3, 10, 11, 12, 13, 14, 15, 16, 33, 34, 35, 36, 37, 38, 39, 40, 41, 42, 43, 44, 45] (by decide +kernel) (by decide +kernel)
set_option maxRecDepth 20000 in
theorem gX6_comesTo_X6_renumbered : GoodIn wsX6_comesTo (wsV RX6 167 RX6 yX6_renumbered wsX6_renumbered) := goodIn_app (goodIn_of _ (by decide +kernel)) ggX6_comesTo_X6_renumbered
theorem dX6_comesTo_0 : decode cX6_comesTo 0 = .ok (.iload 4, 2) := by decide +kernel
theorem dX6_comesTo_2 : decode cX6_comesTo 2 = .ok (.ifCond .eq 12, 3) := by decide +kernel
theorem dX6_comesTo_5 : decode cX6_comesTo 5 = .ok (.iload_n 1, 1) := by decide +kernel
theorem dX6_comesTo_6 : decode cX6_comesTo 6 = .ok (.iload_n 3, 1) := by decide +kernel
theorem dX6_comesTo_7 : decode cX6_comesTo 7 = .ok (.iconst 0, 1) := by decide +kernel
theorem dX6_comesTo_8 : decode cX6_comesTo 8 = .ok (.invokestatic 128, 3) := by decide +kernel
theorem dX6_comesTo_11 : decode cX6_comesTo 11 = .ok (.goto 4, 3) := by decide +kernel
theorem dX6_comesTo_14 : decode cX6_comesTo 14 = .ok (.iload_n 3, 1) := by decide +kernel
theorem dX6_comesTo_15 : decode cX6_comesTo 15 = .ok (.istore 5, 2) := by decide +kernel
theorem dX6_comesTo_17 : decode cX6_comesTo 17 = .ok (.iconst 0, 1) := by decide +kernel
theorem dX6_comesTo_18 : decode cX6_comesTo 18 = .ok (.istore 6, 2) := by decide +kernel
theorem dX6_comesTo_20 : decode cX6_comesTo 20 = .ok (.iconst 0, 1) := by decide +kernel
theorem dX6_comesTo_21 : decode cX6_comesTo 21 = .ok (.istore 7, 2) := by decide +kernel
theorem dX6_comesTo_23 : decode cX6_comesTo 23 = .ok (.iload 7, 2) := by decide +kernel
theorem dX6_comesTo_25 : decode cX6_comesTo 25 = .ok (.iload_n 1, 1) := by decide +kernel
theorem dX6_comesTo_26 : decode cX6_comesTo 26 = .ok (.invokestatic 160, 3) := by decide +kernel
theorem dX6_comesTo_29 : decode cX6_comesTo 29 = .ok (.if_icmp .ge 56, 3) := by decide +kernel
theorem dX6_comesTo_32 : decode cX6_comesTo 32 = .ok (.aload_n 0, 1) := by decide +kernel
theorem dX6_comesTo_33 : decode cX6_comesTo 33 = .ok (.iload_n 1, 1) := by decide +kernel
theorem dX6_comesTo_34 : decode cX6_comesTo 34 = .ok (.iload 7, 2) := by decide +kernel
theorem dX6_comesTo_36 : decode cX6_comesTo 36 = .ok (.invokevirtual 163, 3) := by decide +kernel
theorem dX6_comesTo_39 : decode cX6_comesTo 39 = .ok (.aload_n 0, 1) := by decide +kernel
theorem dX6_comesTo_40 : decode cX6_comesTo 40 = .ok (.iload_n 1, 1) := by decide +kernel
theorem dX6_comesTo_41 : decode cX6_comesTo 41 = .ok (.iload_n 2, 1) := by decide +kernel
theorem dX6_comesTo_42 : decode cX6_comesTo 42 = .ok (.invokevirtual 167, 3) := by decide +kernel
theorem dX6_comesTo_45 : decode cX6_comesTo 45 = .ok (.istore 8, 2) := by decide +kernel
theorem dX6_comesTo_47 : decode cX6_comesTo 47 = .ok (.iload 6, 2) := by decide +kernel
theorem dX6_comesTo_49 : decode cX6_comesTo 49 = .ok (.iload 4, 2) := by decide +kernel
theorem dX6_comesTo_51 : decode cX6_comesTo 51 = .ok (.ifCond .eq 13, 3) := by decide +kernel
theorem dX6_comesTo_54 : decode cX6_comesTo 54 = .ok (.iload_n 1, 1) := by decide +kernel
theorem dX6_comesTo_55 : decode cX6_comesTo 55 = .ok (.iload 8, 2) := by decide +kernel
theorem dX6_comesTo_57 : decode cX6_comesTo 57 = .ok (.iconst 0, 1) := by decide +kernel
theorem dX6_comesTo_58 : decode cX6_comesTo 58 = .ok (.invokestatic 128, 3) := by decide +kernel
theorem dX6_comesTo_61 : decode cX6_comesTo 61 = .ok (.goto 5, 3) := by decide +kernel
theorem dX6_comesTo_64 : decode cX6_comesTo 64 = .ok (.iload 8, 2) := by decide +kernel
theorem dX6_comesTo_66 : decode cX6_comesTo 66 = .ok (.iload 5, 2) := by decide +kernel
theorem dX6_comesTo_68 : decode cX6_comesTo 68 = .ok (.if_icmp .ne 7, 3) := by decide +kernel
theorem dX6_comesTo_71 : decode cX6_comesTo 71 = .ok (.iconst 1, 1) := by decide +kernel
theorem dX6_comesTo_72 : decode cX6_comesTo 72 = .ok (.goto 4, 3) := by decide +kernel
theorem dX6_comesTo_75 : decode cX6_comesTo 75 = .ok (.iconst 0, 1) := by decide +kernel
theorem dX6_comesTo_76 : decode cX6_comesTo 76 = .ok (.iadd, 1) := by decide +kernel
theorem dX6_comesTo_77 : decode cX6_comesTo 77 = .ok (.istore 6, 2) := by decide +kernel
theorem dX6_comesTo_79 : decode cX6_comesTo 79 = .ok (.iinc 7 1, 3) := by decide +kernel
theorem dX6_comesTo_82 : decode cX6_comesTo 82 = .ok (.goto (-59), 3) := by decide +kernel
theorem dX6_comesTo_85 : decode cX6_comesTo 85 = .ok (.iload 6, 2) := by decide +kernel
theorem dX6_comesTo_87 : decode cX6_comesTo 87 = .ok (.ireturn, 1) := by decide +kernel
set_option maxRecDepth 20000 in
theorem ggX6_setBetween_X6_many : GoodIn wsX6_setBetween wsX6_many := goodIn_r _ [5, 6, 22, 23, 24, 25, 26, 27, 28, 29, 30, 31, 32, 33, 34] (by decide +kernel) (by decide +kernel)
set_option maxRecDepth 20000 in
theorem gX6_setBetween_X6_many : GoodIn wsX6_setBetween (wsV RX6 68 RX6 yX6_many wsX6_many) := goodIn_app (goodIn_of _ (by decide +kernel)) ggX6_setBetween_X6_many
set_option maxRecDepth 20000 in
theorem ggX6_setBetween_X6_neighbours : GoodIn wsX6_setBetween wsX6_neighbours := goodIn_r _ [9, 10, 11, 4, 12, 13, 14, 15, 16, 17, 18] (by decide +kernel) (by decide +kernel)
set_option maxRecDepth 20000 in
theorem gX6_setBetween_X6_neighbours : GoodIn wsX6_setBetween (va_wsS RX6 49 yX6_neighbours wsX6_neighbours) := goodIn_app (goodIn_of _ (by decide +kernel)) ggX6_setBetween_X6_neighbours
set_option maxRecDepth 20000 in
theorem ggX6_setBetween_X6_switched : GoodIn wsX6_setBetween wsX6_switched := goodIn_r _ [21, 13, 14, 4, 15, 16, 17, 18] (by decide +kernel) (by decide +kernel)
set_option maxRecDepth 20000 in
theorem gX6_setBetween_X6_switched : GoodIn wsX6_setBetween (va_wsS RX6 55 yX6_switched wsX6_switched) := goodIn_app (goodIn_of _ (by decide +kernel)) ggX6_setBetween_X6_switched
theorem dX6_setBetween_0 : decode cX6_setBetween 0 = .ok (.aload_n 0, 1) := by decide +kernel
theorem dX6_setBetween_1 : decode cX6_setBetween 1 = .ok (.invokevirtual 68, 3) := by decide +kernel
theorem dX6_setBetween_4 : decode cX6_setBetween 4 = .ok (.iload_n 1, 1) := by decide +kernel
theorem dX6_setBetween_5 : decode cX6_setBetween 5 = .ok (.iload_n 2, 1) := by decide +kernel
theorem dX6_setBetween_6 : decode cX6_setBetween 6 = .ok (.ixor, 1) := by decide +kernel
theorem dX6_setBetween_7 : decode cX6_setBetween 7 = .ok (.iconst 0, 1) := by decide +kernel
theorem dX6_setBetween_8 : decode cX6_setBetween 8 = .ok (.invokestatic 49, 3) := by decide +kernel
theorem dX6_setBetween_11 : decode cX6_setBetween 11 = .ok (.istore_n 3, 1) := by decide +kernel
theorem dX6_setBetween_12 : decode cX6_setBetween 12 = .ok (.aload_n 0, 1) := by decide +kernel
theorem dX6_setBetween_13 : decode cX6_setBetween 13 = .ok (.invokevirtual 68, 3) := by decide +kernel
theorem dX6_setBetween_16 : decode cX6_setBetween 16 = .ok (.iload_n 1, 1) := by decide +kernel
theorem dX6_setBetween_17 : decode cX6_setBetween 17 = .ok (.iload_n 3, 1) := by decide +kernel
theorem dX6_setBetween_18 : decode cX6_setBetween 18 = .ok (.invokestatic 55, 3) := by decide +kernel
theorem dX6_setBetween_21 : decode cX6_setBetween 21 = .ok (.iload_n 2, 1) := by decide +kernel
theorem dX6_setBetween_22 : decode cX6_setBetween 22 = .ok (.if_icmp .ne 7, 3) := by decide +kernel
theorem dX6_setBetween_25 : decode cX6_setBetween 25 = .ok (.iload_n 3, 1) := by decide +kernel
theorem dX6_setBetween_26 : decode cX6_setBetween 26 = .ok (.goto 5, 3) := by decide +kernel
theorem dX6_setBetween_29 : decode cX6_setBetween 29 = .ok (.bipush (-6), 2) := by decide +kernel
theorem dX6_setBetween_31 : decode cX6_setBetween 31 = .ok (.ireturn, 1) := by decide +kernel
set_option maxRecDepth 20000 in
theorem ggX6_compare_X6_isSlot : GoodIn wsX6_compare wsX6_isSlot := goodIn_r _ [4, 5, 6, 3, 7] (by decide +kernel) (by decide +kernel)
set_option maxRecDepth 20000 in
theorem gX6_compare_X6_isSlot : GoodIn wsX6_compare (va_wsS RX6 72 yX6_isSlot wsX6_isSlot) := goodIn_app (goodIn_of _ (by decide +kernel)) ggX6_compare_X6_isSlot
set_option maxRecDepth 20000 in
theorem ggX6_compare_X6_netOf : GoodIn wsX6_compare wsX6_netOf := goodIn_r _ [11, 12, 56, 57, 58, 59, 60, 61, 62, 63, 64, 65, 66, 67, 68] (by decide +kernel) (by decide +kernel)
set_option maxRecDepth 20000 in
theorem gX6_compare_X6_netOf : GoodIn wsX6_compare (wsV RX6 79 RX6 yX6_netOf wsX6_netOf) := goodIn_app (goodIn_of _ (by decide +kernel)) ggX6_compare_X6_netOf
set_option maxRecDepth 20000 in
theorem ggX6_compare_X6_setBetween : GoodIn wsX6_compare wsX6_setBetween := goodIn_r _ [16, 17, 18, 19, 3, 20, 12, 21, 22, 23, 24, 25, 26, 27, 28, 29, 30, 31, 32, 33, 34, 35, 56, 57, 58, 59, 60, 61, 62, 63, 64, 65, 66, 67, 68] (by decide +kernel) (by decide +kernel)
set_option maxRecDepth 20000 in
theorem gX6_compare_X6_setBetween : GoodIn wsX6_compare (wsV RX6 170 RX6 yX6_setBetween wsX6_setBetween) := goodIn_app (goodIn_of _ (by decide +kernel)) ggX6_compare_X6_setBetween
set_option maxRecDepth 20000 in
theorem ggX6_compare_X6_many : GoodIn wsX6_compare wsX6_many := goodIn_r _ [20, 12, 56, 57, 58, 59, 60, 61, 62, 63, 64, 65, 66, 67, 68] (by decide +kernel) (by decide +kernel)
set_option maxRecDepth 20000 in
theorem gX6_compare_X6_many : GoodIn wsX6_compare (wsV RX6 68 RX6 yX6_many wsX6_many) := goodIn_app (goodIn_of _ (by decide +kernel)) ggX6_compare_X6_many
set_option maxRecDepth 20000 in
theorem ggX6_compare_X6_comesTo : GoodIn wsX6_compare wsX6_comesTo := goodIn_r _ [39, 40, 41, 3, 42, 21, 22, 23, 24, 25, 26, 27, 28, 29, 30, 31, 32, 33, 34, 35, 43, 44, 45, 46, 47, 48, 49, 50, 51, 52, 53, 54, 55, 56, 57, 58, 59, 60, 61, 62, 63, 64, 65, 66, 67, 68] (by decide +kernel) (by decide +kernel)
set_option maxRecDepth 20000 in
theorem gX6_compare_X6_comesTo : GoodIn wsX6_compare (wsV RX6 173 RX6 yX6_comesTo wsX6_comesTo) := goodIn_app (goodIn_of _ (by decide +kernel)) ggX6_compare_X6_comesTo
theorem dX6_compare_0 : decode cX6_compare 0 = .ok (.iload_n 1, 1) := by decide +kernel
theorem dX6_compare_1 : decode cX6_compare 1 = .ok (.invokestatic 72, 3) := by decide +kernel
theorem dX6_compare_4 : decode cX6_compare 4 = .ok (.ifCond .eq 10, 3) := by decide +kernel
theorem dX6_compare_7 : decode cX6_compare 7 = .ok (.iload_n 2, 1) := by decide +kernel
theorem dX6_compare_8 : decode cX6_compare 8 = .ok (.invokestatic 72, 3) := by decide +kernel
theorem dX6_compare_11 : decode cX6_compare 11 = .ok (.ifCond .ne 5, 3) := by decide +kernel
theorem dX6_compare_14 : decode cX6_compare 14 = .ok (.iconst (-1), 1) := by decide +kernel
theorem dX6_compare_15 : decode cX6_compare 15 = .ok (.ireturn, 1) := by decide +kernel
theorem dX6_compare_16 : decode cX6_compare 16 = .ok (.aload_n 0, 1) := by decide +kernel
theorem dX6_compare_17 : decode cX6_compare 17 = .ok (.iload_n 1, 1) := by decide +kernel
theorem dX6_compare_18 : decode cX6_compare 18 = .ok (.invokevirtual 79, 3) := by decide +kernel
theorem dX6_compare_21 : decode cX6_compare 21 = .ok (.istore 4, 2) := by decide +kernel
theorem dX6_compare_23 : decode cX6_compare 23 = .ok (.aload_n 0, 1) := by decide +kernel
theorem dX6_compare_24 : decode cX6_compare 24 = .ok (.iload_n 2, 1) := by decide +kernel
theorem dX6_compare_25 : decode cX6_compare 25 = .ok (.invokevirtual 79, 3) := by decide +kernel
theorem dX6_compare_28 : decode cX6_compare 28 = .ok (.istore 5, 2) := by decide +kernel
theorem dX6_compare_30 : decode cX6_compare 30 = .ok (.iload_n 3, 1) := by decide +kernel
theorem dX6_compare_31 : decode cX6_compare 31 = .ok (.tableswitch 99 0 3 #[29, 46, 55, 77], 29) := by decide +kernel
theorem dX6_compare_60 : decode cX6_compare 60 = .ok (.aload_n 0, 1) := by decide +kernel
theorem dX6_compare_61 : decode cX6_compare 61 = .ok (.iload 4, 2) := by decide +kernel
theorem dX6_compare_63 : decode cX6_compare 63 = .ok (.iload 5, 2) := by decide +kernel
theorem dX6_compare_65 : decode cX6_compare 65 = .ok (.invokevirtual 170, 3) := by decide +kernel
theorem dX6_compare_68 : decode cX6_compare 68 = .ok (.ifCond .lt 7, 3) := by decide +kernel
theorem dX6_compare_71 : decode cX6_compare 71 = .ok (.iconst 1, 1) := by decide +kernel
theorem dX6_compare_72 : decode cX6_compare 72 = .ok (.goto 4, 3) := by decide +kernel
theorem dX6_compare_75 : decode cX6_compare 75 = .ok (.iconst 0, 1) := by decide +kernel
theorem dX6_compare_76 : decode cX6_compare 76 = .ok (.ireturn, 1) := by decide +kernel
theorem dX6_compare_77 : decode cX6_compare 77 = .ok (.aload_n 0, 1) := by decide +kernel
theorem dX6_compare_78 : decode cX6_compare 78 = .ok (.iload 4, 2) := by decide +kernel
theorem dX6_compare_80 : decode cX6_compare 80 = .ok (.iload 5, 2) := by decide +kernel
theorem dX6_compare_82 : decode cX6_compare 82 = .ok (.invokevirtual 170, 3) := by decide +kernel
theorem dX6_compare_85 : decode cX6_compare 85 = .ok (.ireturn, 1) := by decide +kernel
theorem dX6_compare_86 : decode cX6_compare 86 = .ok (.aload_n 0, 1) := by decide +kernel
theorem dX6_compare_87 : decode cX6_compare 87 = .ok (.aload_n 0, 1) := by decide +kernel
theorem dX6_compare_88 : decode cX6_compare 88 = .ok (.invokevirtual 68, 3) := by decide +kernel
theorem dX6_compare_91 : decode cX6_compare 91 = .ok (.iload 4, 2) := by decide +kernel
theorem dX6_compare_93 : decode cX6_compare 93 = .ok (.iload 5, 2) := by decide +kernel
theorem dX6_compare_95 : decode cX6_compare 95 = .ok (.iconst 0, 1) := by decide +kernel
theorem dX6_compare_96 : decode cX6_compare 96 = .ok (.invokevirtual 173, 3) := by decide +kernel
theorem dX6_compare_99 : decode cX6_compare 99 = .ok (.ifCond .le 7, 3) := by decide +kernel
theorem dX6_compare_102 : decode cX6_compare 102 = .ok (.iconst 1, 1) := by decide +kernel
theorem dX6_compare_103 : decode cX6_compare 103 = .ok (.goto 4, 3) := by decide +kernel
theorem dX6_compare_106 : decode cX6_compare 106 = .ok (.iconst 0, 1) := by decide +kernel
theorem dX6_compare_107 : decode cX6_compare 107 = .ok (.ireturn, 1) := by decide +kernel
theorem dX6_compare_108 : decode cX6_compare 108 = .ok (.aload_n 0, 1) := by decide +kernel
theorem dX6_compare_109 : decode cX6_compare 109 = .ok (.aload_n 0, 1) := by decide +kernel
theorem dX6_compare_110 : decode cX6_compare 110 = .ok (.invokevirtual 68, 3) := by decide +kernel
theorem dX6_compare_113 : decode cX6_compare 113 = .ok (.iload 4, 2) := by decide +kernel
theorem dX6_compare_115 : decode cX6_compare 115 = .ok (.iload 5, 2) := by decide +kernel
theorem dX6_compare_117 : decode cX6_compare 117 = .ok (.iconst 1, 1) := by decide +kernel
theorem dX6_compare_118 : decode cX6_compare 118 = .ok (.invokevirtual 173, 3) := by decide +kernel
theorem dX6_compare_121 : decode cX6_compare 121 = .ok (.ifCond .le 7, 3) := by decide +kernel
theorem dX6_compare_124 : decode cX6_compare 124 = .ok (.iconst 1, 1) := by decide +kernel
theorem dX6_compare_125 : decode cX6_compare 125 = .ok (.goto 4, 3) := by decide +kernel
theorem dX6_compare_128 : decode cX6_compare 128 = .ok (.iconst 0, 1) := by decide +kernel
theorem dX6_compare_129 : decode cX6_compare 129 = .ok (.ireturn, 1) := by decide +kernel
theorem dX6_compare_130 : decode cX6_compare 130 = .ok (.bipush (-2), 2) := by decide +kernel
theorem dX6_compare_132 : decode cX6_compare 132 = .ok (.ireturn, 1) := by decide +kernel
set_option maxRecDepth 20000 in
theorem ggX6_kind_X6_isSlot : GoodIn wsX6_kind wsX6_isSlot := goodIn_r _ [4, 5, 6, 3, 7] (by decide +kernel) (by decide +kernel)
set_option maxRecDepth 20000 in
theorem gX6_kind_X6_isSlot : GoodIn wsX6_kind (va_wsS RX6 72 yX6_isSlot wsX6_isSlot) := goodIn_app (goodIn_of _ (by decide +kernel)) ggX6_kind_X6_isSlot
set_option maxRecDepth 20000 in
theorem ggX6_kind_X6_netOf : GoodIn wsX6_kind wsX6_netOf := goodIn_r _ [11, 12, 56, 57, 58, 59, 60, 61, 62, 63, 64, 65, 66, 67, 68] (by decide +kernel) (by decide +kernel)
set_option maxRecDepth 20000 in
theorem gX6_kind_X6_netOf : GoodIn wsX6_kind (wsV RX6 79 RX6 yX6_netOf wsX6_netOf) := goodIn_app (goodIn_of _ (by decide +kernel)) ggX6_kind_X6_netOf
set_option maxRecDepth 20000 in
theorem ggX6_kind_X6_many : GoodIn wsX6_kind wsX6_many := goodIn_r _ [16, 12, 56, 57, 58, 59, 60, 61, 62, 63, 64, 65, 66, 67, 68] (by decide +kernel) (by decide +kernel)
set_option maxRecDepth 20000 in
theorem gX6_kind_X6_many : GoodIn wsX6_kind (wsV RX6 68 RX6 yX6_many wsX6_many) := goodIn_app (goodIn_of _ (by decide +kernel)) ggX6_kind_X6_many
set_option maxRecDepth 20000 in
theorem ggX6_kind_X6_kindOf : GoodIn wsX6_kind wsX6_kindOf := goodIn_r _ [20, 21, 22, 23, 3, 24, 25, 26, 27, 28, 29, 30, 31, 32, 33, 34, 35, 36, 37, 38, 39, 40, 41, 42, 43, 44, 45, 46, 47, 48, 49, 50, 51, 56, 57, 58, 59, 60, 61, 62, 63, 64, 65, 66, 67, 68] (by decide +kernel) (by decide +kernel)
set_option maxRecDepth 20000 in
theorem gX6_kind_X6_kindOf : GoodIn wsX6_kind (wsV RX6 177 RX6 yX6_kindOf wsX6_kindOf) := goodIn_app (goodIn_of _ (by decide +kernel)) ggX6_kind_X6_kindOf
set_option maxRecDepth 20000 in
theorem ggX6_kind_X6_comesTo : GoodIn wsX6_kind wsX6_comesTo := goodIn_r _ [55, 22, 23, 3, 24, 25, 26, 27, 28, 29, 30, 31, 32, 33, 34, 35, 36, 37, 38, 39, 40, 41, 42, 43, 44, 45, 46, 21, 47, 48, 49, 50, 51, 56, 57, 58, 59, 60, 61, 62, 63, 64, 65, 66, 67, 68] (by decide +kernel) (by decide +kernel)
set_option maxRecDepth 20000 in
theorem gX6_kind_X6_comesTo : GoodIn wsX6_kind (wsV RX6 173 RX6 yX6_comesTo wsX6_comesTo) := goodIn_app (goodIn_of _ (by decide +kernel)) ggX6_kind_X6_comesTo
theorem dX6_kind_0 : decode cX6_kind 0 = .ok (.iload_n 1, 1) := by decide +kernel
theorem dX6_kind_1 : decode cX6_kind 1 = .ok (.invokestatic 72, 3) := by decide +kernel
theorem dX6_kind_4 : decode cX6_kind 4 = .ok (.ifCond .ne 5, 3) := by decide +kernel
theorem dX6_kind_7 : decode cX6_kind 7 = .ok (.iconst (-1), 1) := by decide +kernel
theorem dX6_kind_8 : decode cX6_kind 8 = .ok (.ireturn, 1) := by decide +kernel
theorem dX6_kind_9 : decode cX6_kind 9 = .ok (.aload_n 0, 1) := by decide +kernel
theorem dX6_kind_10 : decode cX6_kind 10 = .ok (.iload_n 1, 1) := by decide +kernel
theorem dX6_kind_11 : decode cX6_kind 11 = .ok (.invokevirtual 79, 3) := by decide +kernel
theorem dX6_kind_14 : decode cX6_kind 14 = .ok (.istore_n 3, 1) := by decide +kernel
theorem dX6_kind_15 : decode cX6_kind 15 = .ok (.iload_n 2, 1) := by decide +kernel
theorem dX6_kind_16 : decode cX6_kind 16 = .ok (.tableswitch 62 0 2 #[28, 38, 50], 28) := by decide +kernel
theorem dX6_kind_44 : decode cX6_kind 44 = .ok (.aload_n 0, 1) := by decide +kernel
theorem dX6_kind_45 : decode cX6_kind 45 = .ok (.aload_n 0, 1) := by decide +kernel
theorem dX6_kind_46 : decode cX6_kind 46 = .ok (.invokevirtual 68, 3) := by decide +kernel
theorem dX6_kind_49 : decode cX6_kind 49 = .ok (.iload_n 3, 1) := by decide +kernel
theorem dX6_kind_50 : decode cX6_kind 50 = .ok (.invokevirtual 177, 3) := by decide +kernel
theorem dX6_kind_53 : decode cX6_kind 53 = .ok (.ireturn, 1) := by decide +kernel
theorem dX6_kind_54 : decode cX6_kind 54 = .ok (.aload_n 0, 1) := by decide +kernel
theorem dX6_kind_55 : decode cX6_kind 55 = .ok (.aload_n 0, 1) := by decide +kernel
theorem dX6_kind_56 : decode cX6_kind 56 = .ok (.invokevirtual 68, 3) := by decide +kernel
theorem dX6_kind_59 : decode cX6_kind 59 = .ok (.iload_n 3, 1) := by decide +kernel
theorem dX6_kind_60 : decode cX6_kind 60 = .ok (.iload_n 3, 1) := by decide +kernel
theorem dX6_kind_61 : decode cX6_kind 61 = .ok (.iconst 1, 1) := by decide +kernel
theorem dX6_kind_62 : decode cX6_kind 62 = .ok (.invokevirtual 173, 3) := by decide +kernel
theorem dX6_kind_65 : decode cX6_kind 65 = .ok (.ireturn, 1) := by decide +kernel
theorem dX6_kind_66 : decode cX6_kind 66 = .ok (.aload_n 0, 1) := by decide +kernel
theorem dX6_kind_67 : decode cX6_kind 67 = .ok (.aload_n 0, 1) := by decide +kernel
theorem dX6_kind_68 : decode cX6_kind 68 = .ok (.invokevirtual 68, 3) := by decide +kernel
theorem dX6_kind_71 : decode cX6_kind 71 = .ok (.iload_n 3, 1) := by decide +kernel
theorem dX6_kind_72 : decode cX6_kind 72 = .ok (.iload_n 3, 1) := by decide +kernel
theorem dX6_kind_73 : decode cX6_kind 73 = .ok (.iconst 0, 1) := by decide +kernel
theorem dX6_kind_74 : decode cX6_kind 74 = .ok (.invokevirtual 173, 3) := by decide +kernel
theorem dX6_kind_77 : decode cX6_kind 77 = .ok (.ireturn, 1) := by decide +kernel
theorem dX6_kind_78 : decode cX6_kind 78 = .ok (.bipush (-2), 2) := by decide +kernel
theorem dX6_kind_80 : decode cX6_kind 80 = .ok (.ireturn, 1) := by decide +kernel
set_option maxRecDepth 20000 in
theorem ggX6_card_X6_isSlot : GoodIn wsX6_card wsX6_isSlot := goodIn_r _ [4, 5, 6, 3, 7] (by decide +kernel) (by decide +kernel)
set_option maxRecDepth 20000 in
theorem gX6_card_X6_isSlot : GoodIn wsX6_card (va_wsS RX6 72 yX6_isSlot wsX6_isSlot) := goodIn_app (goodIn_of _ (by decide +kernel)) ggX6_card_X6_isSlot
set_option maxRecDepth 20000 in
theorem ggX6_card_X6_isNode : GoodIn wsX6_card wsX6_isNode := goodIn_r _ [11, 12, 5, 6, 3, 7, 59, 60, 61, 62, 63, 64, 65, 66, 67, 68, 69, 70, 71] (by decide +kernel) (by decide +kernel)
set_option maxRecDepth 20000 in
theorem gX6_card_X6_isNode : GoodIn wsX6_card (wsV RX6 76 RX6 yX6_isNode wsX6_isNode) := goodIn_app (goodIn_of _ (by decide +kernel)) ggX6_card_X6_isNode
set_option maxRecDepth 20000 in
theorem ggX6_card_X6_many : GoodIn wsX6_card wsX6_many := goodIn_r _ [16, 12, 59, 60, 61, 62, 63, 64, 65, 66, 67, 68, 69, 70, 71] (by decide +kernel) (by decide +kernel)
set_option maxRecDepth 20000 in
theorem gX6_card_X6_many : GoodIn wsX6_card (wsV RX6 68 RX6 yX6_many wsX6_many) := goodIn_app (goodIn_of _ (by decide +kernel)) ggX6_card_X6_many
set_option maxRecDepth 20000 in
theorem ggX6_card_X6_netOf : GoodIn wsX6_card wsX6_netOf := goodIn_r _ [20, 12, 59, 60, 61, 62, 63, 64, 65, 66, 67, 68, 69, 70, 71] (by decide +kernel) (by decide +kernel)
set_option maxRecDepth 20000 in
theorem gX6_card_X6_netOf : GoodIn wsX6_card (wsV RX6 79 RX6 yX6_netOf wsX6_netOf) := goodIn_app (goodIn_of _ (by decide +kernel)) ggX6_card_X6_netOf
set_option maxRecDepth 20000 in
theorem ggX6_card_X6_without : GoodIn wsX6_card wsX6_without := goodIn_r _ [23, 24, 25, 3, 26, 27, 28, 29, 30, 31, 32] (by decide +kernel) (by decide +kernel)
set_option maxRecDepth 20000 in
theorem gX6_card_X6_without : GoodIn wsX6_card (va_wsS RX6 131 yX6_without wsX6_without) := goodIn_app (goodIn_of _ (by decide +kernel)) ggX6_card_X6_without
set_option maxRecDepth 20000 in
theorem ggX6_card_X6_kindOf : GoodIn wsX6_card wsX6_kindOf := goodIn_r _ [36, 37, 38, 39, 3, 40, 41, 42, 43, 24, 25, 26, 27, 28, 29, 30, 31, 32, 44, 45, 46, 47, 48, 49, 50, 51, 52, 53, 54, 55, 56, 57, 58, 59, 60, 61, 62, 63, 64, 65, 66, 67, 68, 69, 70, 71] (by decide +kernel) (by decide +kernel)
set_option maxRecDepth 20000 in
theorem gX6_card_X6_kindOf : GoodIn wsX6_card (wsV RX6 177 RX6 yX6_kindOf wsX6_kindOf) := goodIn_app (goodIn_of _ (by decide +kernel)) ggX6_card_X6_kindOf
theorem dX6_card_0 : decode cX6_card 0 = .ok (.iload_n 1, 1) := by decide +kernel
theorem dX6_card_1 : decode cX6_card 1 = .ok (.invokestatic 72, 3) := by decide +kernel
theorem dX6_card_4 : decode cX6_card 4 = .ok (.ifCond .eq 11, 3) := by decide +kernel
theorem dX6_card_7 : decode cX6_card 7 = .ok (.aload_n 0, 1) := by decide +kernel
theorem dX6_card_8 : decode cX6_card 8 = .ok (.iload_n 2, 1) := by decide +kernel
theorem dX6_card_9 : decode cX6_card 9 = .ok (.invokevirtual 76, 3) := by decide +kernel
theorem dX6_card_12 : decode cX6_card 12 = .ok (.ifCond .ne 5, 3) := by decide +kernel
theorem dX6_card_15 : decode cX6_card 15 = .ok (.iconst (-1), 1) := by decide +kernel
theorem dX6_card_16 : decode cX6_card 16 = .ok (.ireturn, 1) := by decide +kernel
theorem dX6_card_17 : decode cX6_card 17 = .ok (.aload_n 0, 1) := by decide +kernel
theorem dX6_card_18 : decode cX6_card 18 = .ok (.invokevirtual 68, 3) := by decide +kernel
theorem dX6_card_21 : decode cX6_card 21 = .ok (.iconst 3, 1) := by decide +kernel
theorem dX6_card_22 : decode cX6_card 22 = .ok (.if_icmp .ne 6, 3) := by decide +kernel
theorem dX6_card_25 : decode cX6_card 25 = .ok (.bipush (-3), 2) := by decide +kernel
theorem dX6_card_27 : decode cX6_card 27 = .ok (.ireturn, 1) := by decide +kernel
theorem dX6_card_28 : decode cX6_card 28 = .ok (.aload_n 0, 1) := by decide +kernel
theorem dX6_card_29 : decode cX6_card 29 = .ok (.aload_n 0, 1) := by decide +kernel
theorem dX6_card_30 : decode cX6_card 30 = .ok (.invokevirtual 68, 3) := by decide +kernel
theorem dX6_card_33 : decode cX6_card 33 = .ok (.iconst 1, 1) := by decide +kernel
theorem dX6_card_34 : decode cX6_card 34 = .ok (.isub, 1) := by decide +kernel
theorem dX6_card_35 : decode cX6_card 35 = .ok (.aload_n 0, 1) := by decide +kernel
theorem dX6_card_36 : decode cX6_card 36 = .ok (.invokevirtual 68, 3) := by decide +kernel
theorem dX6_card_39 : decode cX6_card 39 = .ok (.aload_n 0, 1) := by decide +kernel
theorem dX6_card_40 : decode cX6_card 40 = .ok (.iload_n 1, 1) := by decide +kernel
theorem dX6_card_41 : decode cX6_card 41 = .ok (.invokevirtual 79, 3) := by decide +kernel
theorem dX6_card_44 : decode cX6_card 44 = .ok (.iload_n 2, 1) := by decide +kernel
theorem dX6_card_45 : decode cX6_card 45 = .ok (.invokestatic 131, 3) := by decide +kernel
theorem dX6_card_48 : decode cX6_card 48 = .ok (.invokevirtual 177, 3) := by decide +kernel
theorem dX6_card_51 : decode cX6_card 51 = .ok (.ireturn, 1) := by decide +kernel
set_option maxRecDepth 20000 in
theorem ggX6_layTable_X6_many : GoodIn wsX6_layTable wsX6_many := goodIn_r _ [6, 7, 17, 18, 19, 20, 21, 22, 23, 24, 25, 26, 27, 28, 29] (by decide +kernel) (by decide +kernel)
set_option maxRecDepth 20000 in
theorem gX6_layTable_X6_many : GoodIn wsX6_layTable (wsV RX6 68 RX6 yX6_many wsX6_many) := goodIn_app (goodIn_of _ (by decide +kernel)) ggX6_layTable_X6_many
set_option maxRecDepth 20000 in
theorem ggX6_layTable_X6_joined : GoodIn wsX6_layTable wsX6_joined := goodIn_r _ [10, 11, 12, 5, 13, 14, 15, 16] (by decide +kernel) (by decide +kernel)
set_option maxRecDepth 20000 in
theorem gX6_layTable_X6_joined : GoodIn wsX6_layTable (va_wsS RX6 45 yX6_joined wsX6_joined) := goodIn_app (goodIn_of _ (by decide +kernel)) ggX6_layTable_X6_joined
theorem dX6_layTable_0 : decode cX6_layTable 0 = .ok (.iconst 0, 1) := by decide +kernel
theorem dX6_layTable_1 : decode cX6_layTable 1 = .ok (.istore_n 3, 1) := by decide +kernel
theorem dX6_layTable_2 : decode cX6_layTable 2 = .ok (.iload_n 3, 1) := by decide +kernel
theorem dX6_layTable_3 : decode cX6_layTable 3 = .ok (.aload_n 0, 1) := by decide +kernel
theorem dX6_layTable_4 : decode cX6_layTable 4 = .ok (.invokevirtual 68, 3) := by decide +kernel
theorem dX6_layTable_7 : decode cX6_layTable 7 = .ok (.if_icmp .ge 67, 3) := by decide +kernel
theorem dX6_layTable_10 : decode cX6_layTable 10 = .ok (.iconst 0, 1) := by decide +kernel
theorem dX6_layTable_11 : decode cX6_layTable 11 = .ok (.istore 4, 2) := by decide +kernel
theorem dX6_layTable_13 : decode cX6_layTable 13 = .ok (.iload 4, 2) := by decide +kernel
theorem dX6_layTable_15 : decode cX6_layTable 15 = .ok (.aload_n 0, 1) := by decide +kernel
theorem dX6_layTable_16 : decode cX6_layTable 16 = .ok (.invokevirtual 68, 3) := by decide +kernel
theorem dX6_layTable_19 : decode cX6_layTable 19 = .ok (.if_icmp .ge 49, 3) := by decide +kernel
theorem dX6_layTable_22 : decode cX6_layTable 22 = .ok (.aload_n 0, 1) := by decide +kernel
theorem dX6_layTable_23 : decode cX6_layTable 23 = .ok (.getfield 29, 3) := by decide +kernel
theorem dX6_layTable_26 : decode cX6_layTable 26 = .ok (.bipush 7, 2) := by decide +kernel
theorem dX6_layTable_28 : decode cX6_layTable 28 = .ok (.iload_n 3, 1) := by decide +kernel
theorem dX6_layTable_29 : decode cX6_layTable 29 = .ok (.imul, 1) := by decide +kernel
theorem dX6_layTable_30 : decode cX6_layTable 30 = .ok (.iload 4, 2) := by decide +kernel
theorem dX6_layTable_32 : decode cX6_layTable 32 = .ok (.iadd, 1) := by decide +kernel
theorem dX6_layTable_33 : decode cX6_layTable 33 = .ok (.iload_n 3, 1) := by decide +kernel
theorem dX6_layTable_34 : decode cX6_layTable 34 = .ok (.iload 4, 2) := by decide +kernel
theorem dX6_layTable_36 : decode cX6_layTable 36 = .ok (.if_icmp .ne 9, 3) := by decide +kernel
theorem dX6_layTable_39 : decode cX6_layTable 39 = .ok (.iload_n 2, 1) := by decide +kernel
theorem dX6_layTable_40 : decode cX6_layTable 40 = .ok (.ineg, 1) := by decide +kernel
theorem dX6_layTable_41 : decode cX6_layTable 41 = .ok (.i2l, 1) := by decide +kernel
theorem dX6_layTable_42 : decode cX6_layTable 42 = .ok (.goto 19, 3) := by decide +kernel
theorem dX6_layTable_45 : decode cX6_layTable 45 = .ok (.iconst 1, 1) := by decide +kernel
theorem dX6_layTable_46 : decode cX6_layTable 46 = .ok (.iconst 2, 1) := by decide +kernel
theorem dX6_layTable_47 : decode cX6_layTable 47 = .ok (.aload_n 0, 1) := by decide +kernel
theorem dX6_layTable_48 : decode cX6_layTable 48 = .ok (.invokevirtual 68, 3) := by decide +kernel
theorem dX6_layTable_51 : decode cX6_layTable 51 = .ok (.iload_n 1, 1) := by decide +kernel
theorem dX6_layTable_52 : decode cX6_layTable 52 = .ok (.iload_n 3, 1) := by decide +kernel
theorem dX6_layTable_53 : decode cX6_layTable 53 = .ok (.iload 4, 2) := by decide +kernel
theorem dX6_layTable_55 : decode cX6_layTable 55 = .ok (.invokestatic 45, 3) := by decide +kernel
theorem dX6_layTable_58 : decode cX6_layTable 58 = .ok (.imul, 1) := by decide +kernel
theorem dX6_layTable_59 : decode cX6_layTable 59 = .ok (.isub, 1) := by decide +kernel
theorem dX6_layTable_60 : decode cX6_layTable 60 = .ok (.i2l, 1) := by decide +kernel
theorem dX6_layTable_61 : decode cX6_layTable 61 = .ok (.lastore, 1) := by decide +kernel
theorem dX6_layTable_62 : decode cX6_layTable 62 = .ok (.iinc 4 1, 3) := by decide +kernel
theorem dX6_layTable_65 : decode cX6_layTable 65 = .ok (.goto (-52), 3) := by decide +kernel
theorem dX6_layTable_68 : decode cX6_layTable 68 = .ok (.iinc 3 1, 3) := by decide +kernel
theorem dX6_layTable_71 : decode cX6_layTable 71 = .ok (.goto (-69), 3) := by decide +kernel
theorem dX6_layTable_74 : decode cX6_layTable 74 = .ok (.return_, 1) := by decide +kernel
set_option maxRecDepth 20000 in
theorem ggX6_swapRows_X6_many : GoodIn wsX6_swapRows wsX6_many := goodIn_r _ [6, 7, 8, 9, 10, 11, 12, 13, 14, 15, 16, 17, 18, 19, 20] (by decide +kernel) (by decide +kernel)
set_option maxRecDepth 20000 in
theorem gX6_swapRows_X6_many : GoodIn wsX6_swapRows (wsV RX6 68 RX6 yX6_many wsX6_many) := goodIn_app (goodIn_of _ (by decide +kernel)) ggX6_swapRows_X6_many
theorem dX6_swapRows_0 : decode cX6_swapRows 0 = .ok (.iconst 0, 1) := by decide +kernel
theorem dX6_swapRows_1 : decode cX6_swapRows 1 = .ok (.istore_n 3, 1) := by decide +kernel
theorem dX6_swapRows_2 : decode cX6_swapRows 2 = .ok (.iload_n 3, 1) := by decide +kernel
theorem dX6_swapRows_3 : decode cX6_swapRows 3 = .ok (.aload_n 0, 1) := by decide +kernel
theorem dX6_swapRows_4 : decode cX6_swapRows 4 = .ok (.invokevirtual 68, 3) := by decide +kernel
theorem dX6_swapRows_7 : decode cX6_swapRows 7 = .ok (.if_icmp .ge 57, 3) := by decide +kernel
theorem dX6_swapRows_10 : decode cX6_swapRows 10 = .ok (.aload_n 0, 1) := by decide +kernel
theorem dX6_swapRows_11 : decode cX6_swapRows 11 = .ok (.getfield 29, 3) := by decide +kernel
theorem dX6_swapRows_14 : decode cX6_swapRows 14 = .ok (.bipush 7, 2) := by decide +kernel
theorem dX6_swapRows_16 : decode cX6_swapRows 16 = .ok (.iload_n 1, 1) := by decide +kernel
theorem dX6_swapRows_17 : decode cX6_swapRows 17 = .ok (.imul, 1) := by decide +kernel
theorem dX6_swapRows_18 : decode cX6_swapRows 18 = .ok (.iload_n 3, 1) := by decide +kernel
theorem dX6_swapRows_19 : decode cX6_swapRows 19 = .ok (.iadd, 1) := by decide +kernel
theorem dX6_swapRows_20 : decode cX6_swapRows 20 = .ok (.laload, 1) := by decide +kernel
theorem dX6_swapRows_21 : decode cX6_swapRows 21 = .ok (.lstore 4, 2) := by decide +kernel
theorem dX6_swapRows_23 : decode cX6_swapRows 23 = .ok (.aload_n 0, 1) := by decide +kernel
theorem dX6_swapRows_24 : decode cX6_swapRows 24 = .ok (.getfield 29, 3) := by decide +kernel
theorem dX6_swapRows_27 : decode cX6_swapRows 27 = .ok (.bipush 7, 2) := by decide +kernel
theorem dX6_swapRows_29 : decode cX6_swapRows 29 = .ok (.iload_n 1, 1) := by decide +kernel
theorem dX6_swapRows_30 : decode cX6_swapRows 30 = .ok (.imul, 1) := by decide +kernel
theorem dX6_swapRows_31 : decode cX6_swapRows 31 = .ok (.iload_n 3, 1) := by decide +kernel
theorem dX6_swapRows_32 : decode cX6_swapRows 32 = .ok (.iadd, 1) := by decide +kernel
theorem dX6_swapRows_33 : decode cX6_swapRows 33 = .ok (.aload_n 0, 1) := by decide +kernel
theorem dX6_swapRows_34 : decode cX6_swapRows 34 = .ok (.getfield 29, 3) := by decide +kernel
theorem dX6_swapRows_37 : decode cX6_swapRows 37 = .ok (.bipush 7, 2) := by decide +kernel
theorem dX6_swapRows_39 : decode cX6_swapRows 39 = .ok (.iload_n 2, 1) := by decide +kernel
theorem dX6_swapRows_40 : decode cX6_swapRows 40 = .ok (.imul, 1) := by decide +kernel
theorem dX6_swapRows_41 : decode cX6_swapRows 41 = .ok (.iload_n 3, 1) := by decide +kernel
theorem dX6_swapRows_42 : decode cX6_swapRows 42 = .ok (.iadd, 1) := by decide +kernel
theorem dX6_swapRows_43 : decode cX6_swapRows 43 = .ok (.laload, 1) := by decide +kernel
theorem dX6_swapRows_44 : decode cX6_swapRows 44 = .ok (.lastore, 1) := by decide +kernel
theorem dX6_swapRows_45 : decode cX6_swapRows 45 = .ok (.aload_n 0, 1) := by decide +kernel
theorem dX6_swapRows_46 : decode cX6_swapRows 46 = .ok (.getfield 29, 3) := by decide +kernel
theorem dX6_swapRows_49 : decode cX6_swapRows 49 = .ok (.bipush 7, 2) := by decide +kernel
theorem dX6_swapRows_51 : decode cX6_swapRows 51 = .ok (.iload_n 2, 1) := by decide +kernel
theorem dX6_swapRows_52 : decode cX6_swapRows 52 = .ok (.imul, 1) := by decide +kernel
theorem dX6_swapRows_53 : decode cX6_swapRows 53 = .ok (.iload_n 3, 1) := by decide +kernel
theorem dX6_swapRows_54 : decode cX6_swapRows 54 = .ok (.iadd, 1) := by decide +kernel
theorem dX6_swapRows_55 : decode cX6_swapRows 55 = .ok (.lload 4, 2) := by decide +kernel
theorem dX6_swapRows_57 : decode cX6_swapRows 57 = .ok (.lastore, 1) := by decide +kernel
theorem dX6_swapRows_58 : decode cX6_swapRows 58 = .ok (.iinc 3 1, 3) := by decide +kernel
theorem dX6_swapRows_61 : decode cX6_swapRows 61 = .ok (.goto (-59), 3) := by decide +kernel
theorem dX6_swapRows_64 : decode cX6_swapRows 64 = .ok (.return_, 1) := by decide +kernel
set_option maxRecDepth 20000 in
theorem ggX6_rowWith_X6_many : GoodIn wsX6_rowWith wsX6_many := goodIn_r _ [6, 7, 8, 9, 10, 11, 12, 13, 14, 15, 16, 17, 18, 19, 20] (by decide +kernel) (by decide +kernel)
set_option maxRecDepth 20000 in
theorem gX6_rowWith_X6_many : GoodIn wsX6_rowWith (wsV RX6 68 RX6 yX6_many wsX6_many) := goodIn_app (goodIn_of _ (by decide +kernel)) ggX6_rowWith_X6_many
theorem dX6_rowWith_0 : decode cX6_rowWith 0 = .ok (.iload_n 2, 1) := by decide +kernel
theorem dX6_rowWith_1 : decode cX6_rowWith 1 = .ok (.istore_n 3, 1) := by decide +kernel
theorem dX6_rowWith_2 : decode cX6_rowWith 2 = .ok (.iload_n 3, 1) := by decide +kernel
theorem dX6_rowWith_3 : decode cX6_rowWith 3 = .ok (.aload_n 0, 1) := by decide +kernel
theorem dX6_rowWith_4 : decode cX6_rowWith 4 = .ok (.invokevirtual 68, 3) := by decide +kernel
theorem dX6_rowWith_7 : decode cX6_rowWith 7 = .ok (.if_icmp .ge 27, 3) := by decide +kernel
theorem dX6_rowWith_10 : decode cX6_rowWith 10 = .ok (.aload_n 0, 1) := by decide +kernel
theorem dX6_rowWith_11 : decode cX6_rowWith 11 = .ok (.getfield 29, 3) := by decide +kernel
theorem dX6_rowWith_14 : decode cX6_rowWith 14 = .ok (.bipush 7, 2) := by decide +kernel
theorem dX6_rowWith_16 : decode cX6_rowWith 16 = .ok (.iload_n 3, 1) := by decide +kernel
theorem dX6_rowWith_17 : decode cX6_rowWith 17 = .ok (.imul, 1) := by decide +kernel
theorem dX6_rowWith_18 : decode cX6_rowWith 18 = .ok (.iload_n 1, 1) := by decide +kernel
theorem dX6_rowWith_19 : decode cX6_rowWith 19 = .ok (.iadd, 1) := by decide +kernel
theorem dX6_rowWith_20 : decode cX6_rowWith 20 = .ok (.laload, 1) := by decide +kernel
theorem dX6_rowWith_21 : decode cX6_rowWith 21 = .ok (.lconst 0, 1) := by decide +kernel
theorem dX6_rowWith_22 : decode cX6_rowWith 22 = .ok (.lcmp, 1) := by decide +kernel
theorem dX6_rowWith_23 : decode cX6_rowWith 23 = .ok (.ifCond .eq 5, 3) := by decide +kernel
theorem dX6_rowWith_26 : decode cX6_rowWith 26 = .ok (.iload_n 3, 1) := by decide +kernel
theorem dX6_rowWith_27 : decode cX6_rowWith 27 = .ok (.ireturn, 1) := by decide +kernel
theorem dX6_rowWith_28 : decode cX6_rowWith 28 = .ok (.iinc 3 1, 3) := by decide +kernel
theorem dX6_rowWith_31 : decode cX6_rowWith 31 = .ok (.goto (-29), 3) := by decide +kernel
theorem dX6_rowWith_34 : decode cX6_rowWith 34 = .ok (.bipush (-6), 2) := by decide +kernel
theorem dX6_rowWith_36 : decode cX6_rowWith 36 = .ok (.ireturn, 1) := by decide +kernel
set_option maxRecDepth 20000 in
theorem ggX6_clearBelow_X6_many : GoodIn wsX6_clearBelow wsX6_many := goodIn_r _ [6, 7, 8, 9, 10, 11, 12, 13, 14, 15, 16, 17, 18, 19, 20] (by decide +kernel) (by decide +kernel)
set_option maxRecDepth 20000 in
theorem gX6_clearBelow_X6_many : GoodIn wsX6_clearBelow (wsV RX6 68 RX6 yX6_many wsX6_many) := goodIn_app (goodIn_of _ (by decide +kernel)) ggX6_clearBelow_X6_many
theorem dX6_clearBelow_0 : decode cX6_clearBelow 0 = .ok (.aload_n 0, 1) := by decide +kernel
theorem dX6_clearBelow_1 : decode cX6_clearBelow 1 = .ok (.getfield 29, 3) := by decide +kernel
theorem dX6_clearBelow_4 : decode cX6_clearBelow 4 = .ok (.bipush 7, 2) := by decide +kernel
theorem dX6_clearBelow_6 : decode cX6_clearBelow 6 = .ok (.iload_n 1, 1) := by decide +kernel
theorem dX6_clearBelow_7 : decode cX6_clearBelow 7 = .ok (.imul, 1) := by decide +kernel
theorem dX6_clearBelow_8 : decode cX6_clearBelow 8 = .ok (.iload_n 2, 1) := by decide +kernel
theorem dX6_clearBelow_9 : decode cX6_clearBelow 9 = .ok (.iadd, 1) := by decide +kernel
theorem dX6_clearBelow_10 : decode cX6_clearBelow 10 = .ok (.laload, 1) := by decide +kernel
theorem dX6_clearBelow_11 : decode cX6_clearBelow 11 = .ok (.lstore 5, 2) := by decide +kernel
theorem dX6_clearBelow_13 : decode cX6_clearBelow 13 = .ok (.iload_n 1, 1) := by decide +kernel
theorem dX6_clearBelow_14 : decode cX6_clearBelow 14 = .ok (.iconst 1, 1) := by decide +kernel
theorem dX6_clearBelow_15 : decode cX6_clearBelow 15 = .ok (.iadd, 1) := by decide +kernel
theorem dX6_clearBelow_16 : decode cX6_clearBelow 16 = .ok (.istore 7, 2) := by decide +kernel
theorem dX6_clearBelow_18 : decode cX6_clearBelow 18 = .ok (.iload 7, 2) := by decide +kernel
theorem dX6_clearBelow_20 : decode cX6_clearBelow 20 = .ok (.aload_n 0, 1) := by decide +kernel
theorem dX6_clearBelow_21 : decode cX6_clearBelow 21 = .ok (.invokevirtual 68, 3) := by decide +kernel
theorem dX6_clearBelow_24 : decode cX6_clearBelow 24 = .ok (.if_icmp .ge 88, 3) := by decide +kernel
theorem dX6_clearBelow_27 : decode cX6_clearBelow 27 = .ok (.aload_n 0, 1) := by decide +kernel
theorem dX6_clearBelow_28 : decode cX6_clearBelow 28 = .ok (.getfield 29, 3) := by decide +kernel
theorem dX6_clearBelow_31 : decode cX6_clearBelow 31 = .ok (.bipush 7, 2) := by decide +kernel
theorem dX6_clearBelow_33 : decode cX6_clearBelow 33 = .ok (.iload 7, 2) := by decide +kernel
theorem dX6_clearBelow_35 : decode cX6_clearBelow 35 = .ok (.imul, 1) := by decide +kernel
theorem dX6_clearBelow_36 : decode cX6_clearBelow 36 = .ok (.iload_n 2, 1) := by decide +kernel
theorem dX6_clearBelow_37 : decode cX6_clearBelow 37 = .ok (.iadd, 1) := by decide +kernel
theorem dX6_clearBelow_38 : decode cX6_clearBelow 38 = .ok (.laload, 1) := by decide +kernel
theorem dX6_clearBelow_39 : decode cX6_clearBelow 39 = .ok (.lstore 8, 2) := by decide +kernel
theorem dX6_clearBelow_41 : decode cX6_clearBelow 41 = .ok (.iconst 0, 1) := by decide +kernel
theorem dX6_clearBelow_42 : decode cX6_clearBelow 42 = .ok (.istore 10, 2) := by decide +kernel
theorem dX6_clearBelow_44 : decode cX6_clearBelow 44 = .ok (.iload 10, 2) := by decide +kernel
theorem dX6_clearBelow_46 : decode cX6_clearBelow 46 = .ok (.aload_n 0, 1) := by decide +kernel
theorem dX6_clearBelow_47 : decode cX6_clearBelow 47 = .ok (.invokevirtual 68, 3) := by decide +kernel
theorem dX6_clearBelow_50 : decode cX6_clearBelow 50 = .ok (.if_icmp .ge 56, 3) := by decide +kernel
theorem dX6_clearBelow_53 : decode cX6_clearBelow 53 = .ok (.aload_n 0, 1) := by decide +kernel
theorem dX6_clearBelow_54 : decode cX6_clearBelow 54 = .ok (.getfield 29, 3) := by decide +kernel
theorem dX6_clearBelow_57 : decode cX6_clearBelow 57 = .ok (.bipush 7, 2) := by decide +kernel
theorem dX6_clearBelow_59 : decode cX6_clearBelow 59 = .ok (.iload 7, 2) := by decide +kernel
theorem dX6_clearBelow_61 : decode cX6_clearBelow 61 = .ok (.imul, 1) := by decide +kernel
theorem dX6_clearBelow_62 : decode cX6_clearBelow 62 = .ok (.iload 10, 2) := by decide +kernel
theorem dX6_clearBelow_64 : decode cX6_clearBelow 64 = .ok (.iadd, 1) := by decide +kernel
theorem dX6_clearBelow_65 : decode cX6_clearBelow 65 = .ok (.aload_n 0, 1) := by decide +kernel
theorem dX6_clearBelow_66 : decode cX6_clearBelow 66 = .ok (.getfield 29, 3) := by decide +kernel
theorem dX6_clearBelow_69 : decode cX6_clearBelow 69 = .ok (.bipush 7, 2) := by decide +kernel
theorem dX6_clearBelow_71 : decode cX6_clearBelow 71 = .ok (.iload 7, 2) := by decide +kernel
theorem dX6_clearBelow_73 : decode cX6_clearBelow 73 = .ok (.imul, 1) := by decide +kernel
theorem dX6_clearBelow_74 : decode cX6_clearBelow 74 = .ok (.iload 10, 2) := by decide +kernel
theorem dX6_clearBelow_76 : decode cX6_clearBelow 76 = .ok (.iadd, 1) := by decide +kernel
theorem dX6_clearBelow_77 : decode cX6_clearBelow 77 = .ok (.laload, 1) := by decide +kernel
theorem dX6_clearBelow_78 : decode cX6_clearBelow 78 = .ok (.lload 5, 2) := by decide +kernel
theorem dX6_clearBelow_80 : decode cX6_clearBelow 80 = .ok (.lmul, 1) := by decide +kernel
theorem dX6_clearBelow_81 : decode cX6_clearBelow 81 = .ok (.lload 8, 2) := by decide +kernel
theorem dX6_clearBelow_83 : decode cX6_clearBelow 83 = .ok (.aload_n 0, 1) := by decide +kernel
theorem dX6_clearBelow_84 : decode cX6_clearBelow 84 = .ok (.getfield 29, 3) := by decide +kernel
theorem dX6_clearBelow_87 : decode cX6_clearBelow 87 = .ok (.bipush 7, 2) := by decide +kernel
theorem dX6_clearBelow_89 : decode cX6_clearBelow 89 = .ok (.iload_n 1, 1) := by decide +kernel
theorem dX6_clearBelow_90 : decode cX6_clearBelow 90 = .ok (.imul, 1) := by decide +kernel
theorem dX6_clearBelow_91 : decode cX6_clearBelow 91 = .ok (.iload 10, 2) := by decide +kernel
theorem dX6_clearBelow_93 : decode cX6_clearBelow 93 = .ok (.iadd, 1) := by decide +kernel
theorem dX6_clearBelow_94 : decode cX6_clearBelow 94 = .ok (.laload, 1) := by decide +kernel
theorem dX6_clearBelow_95 : decode cX6_clearBelow 95 = .ok (.lmul, 1) := by decide +kernel
theorem dX6_clearBelow_96 : decode cX6_clearBelow 96 = .ok (.lsub, 1) := by decide +kernel
theorem dX6_clearBelow_97 : decode cX6_clearBelow 97 = .ok (.lload_n 3, 1) := by decide +kernel
theorem dX6_clearBelow_98 : decode cX6_clearBelow 98 = .ok (.ldiv, 1) := by decide +kernel
theorem dX6_clearBelow_99 : decode cX6_clearBelow 99 = .ok (.lastore, 1) := by decide +kernel
theorem dX6_clearBelow_100 : decode cX6_clearBelow 100 = .ok (.iinc 10 1, 3) := by decide +kernel
theorem dX6_clearBelow_103 : decode cX6_clearBelow 103 = .ok (.goto (-59), 3) := by decide +kernel
theorem dX6_clearBelow_106 : decode cX6_clearBelow 106 = .ok (.iinc 7 1, 3) := by decide +kernel
theorem dX6_clearBelow_109 : decode cX6_clearBelow 109 = .ok (.goto (-91), 3) := by decide +kernel
theorem dX6_clearBelow_112 : decode cX6_clearBelow 112 = .ok (.return_, 1) := by decide +kernel
set_option maxRecDepth 20000 in
theorem ggX6_workOut_X6_many : GoodIn wsX6_workOut wsX6_many := goodIn_r _ [8, 9, 22, 23, 24, 25, 26, 27, 28, 29, 30, 31, 32, 33, 34] (by decide +kernel) (by decide +kernel)
set_option maxRecDepth 20000 in
theorem gX6_workOut_X6_many : GoodIn wsX6_workOut (wsV RX6 68 RX6 yX6_many wsX6_many) := goodIn_app (goodIn_of _ (by decide +kernel)) ggX6_workOut_X6_many
set_option maxRecDepth 20000 in
theorem ggX6_workOut_X6_rowWith : GoodIn wsX6_workOut wsX6_rowWith := goodIn_r _ [13, 2, 4, 5, 6, 7, 8, 9, 22, 23, 24, 25, 26, 27, 28, 29, 30, 31, 32, 33, 34] (by decide +kernel) (by decide +kernel)
set_option maxRecDepth 20000 in
theorem gX6_workOut_X6_rowWith : GoodIn wsX6_workOut (wsV RX6 183 RX6 yX6_rowWith wsX6_rowWith) := goodIn_app (goodIn_of _ (by decide +kernel)) ggX6_workOut_X6_rowWith
set_option maxRecDepth 20000 in
theorem ggX6_workOut_X6_swapRows : GoodIn wsX6_workOut wsX6_swapRows := goodIn_r _ [17, 2, 4, 5, 6, 7, 8, 9, 22, 23, 24, 25, 26, 27, 28, 29, 30, 31, 32, 33, 34] (by decide +kernel) (by decide +kernel)
set_option maxRecDepth 20000 in
theorem gX6_workOut_X6_swapRows : GoodIn wsX6_workOut (wsV RX6 186 RX6 yX6_swapRows wsX6_swapRows) := goodIn_app (goodIn_of _ (by decide +kernel)) ggX6_workOut_X6_swapRows
set_option maxRecDepth 20000 in
theorem ggX6_workOut_X6_clearBelow : GoodIn wsX6_workOut wsX6_clearBelow := goodIn_r _ [21, 2, 4, 5, 6, 7, 8, 9, 22, 23, 24, 25, 26, 27, 28, 29, 30, 31, 32, 33, 34] (by decide +kernel) (by decide +kernel)
set_option maxRecDepth 20000 in
theorem gX6_workOut_X6_clearBelow : GoodIn wsX6_workOut (wsV RX6 189 RX6 yX6_clearBelow wsX6_clearBelow) := goodIn_app (goodIn_of _ (by decide +kernel)) ggX6_workOut_X6_clearBelow
theorem dX6_workOut_0 : decode cX6_workOut 0 = .ok (.aload_n 0, 1) := by decide +kernel
theorem dX6_workOut_1 : decode cX6_workOut 1 = .ok (.iconst 0, 1) := by decide +kernel
theorem dX6_workOut_2 : decode cX6_workOut 2 = .ok (.putfield 180, 3) := by decide +kernel
theorem dX6_workOut_5 : decode cX6_workOut 5 = .ok (.lconst 1, 1) := by decide +kernel
theorem dX6_workOut_6 : decode cX6_workOut 6 = .ok (.lstore_n 1, 1) := by decide +kernel
theorem dX6_workOut_7 : decode cX6_workOut 7 = .ok (.iconst 1, 1) := by decide +kernel
theorem dX6_workOut_8 : decode cX6_workOut 8 = .ok (.istore_n 3, 1) := by decide +kernel
theorem dX6_workOut_9 : decode cX6_workOut 9 = .ok (.iconst 0, 1) := by decide +kernel
theorem dX6_workOut_10 : decode cX6_workOut 10 = .ok (.istore 4, 2) := by decide +kernel
theorem dX6_workOut_12 : decode cX6_workOut 12 = .ok (.iload 4, 2) := by decide +kernel
theorem dX6_workOut_14 : decode cX6_workOut 14 = .ok (.aload_n 0, 1) := by decide +kernel
theorem dX6_workOut_15 : decode cX6_workOut 15 = .ok (.invokevirtual 68, 3) := by decide +kernel
theorem dX6_workOut_18 : decode cX6_workOut 18 = .ok (.if_icmp .ge 89, 3) := by decide +kernel
theorem dX6_workOut_21 : decode cX6_workOut 21 = .ok (.aload_n 0, 1) := by decide +kernel
theorem dX6_workOut_22 : decode cX6_workOut 22 = .ok (.iload 4, 2) := by decide +kernel
theorem dX6_workOut_24 : decode cX6_workOut 24 = .ok (.aload_n 0, 1) := by decide +kernel
theorem dX6_workOut_25 : decode cX6_workOut 25 = .ok (.getfield 180, 3) := by decide +kernel
theorem dX6_workOut_28 : decode cX6_workOut 28 = .ok (.invokevirtual 183, 3) := by decide +kernel
theorem dX6_workOut_31 : decode cX6_workOut 31 = .ok (.istore 5, 2) := by decide +kernel
theorem dX6_workOut_33 : decode cX6_workOut 33 = .ok (.iload 5, 2) := by decide +kernel
theorem dX6_workOut_35 : decode cX6_workOut 35 = .ok (.ifCond .lt 66, 3) := by decide +kernel
theorem dX6_workOut_38 : decode cX6_workOut 38 = .ok (.iload 5, 2) := by decide +kernel
theorem dX6_workOut_40 : decode cX6_workOut 40 = .ok (.aload_n 0, 1) := by decide +kernel
theorem dX6_workOut_41 : decode cX6_workOut 41 = .ok (.getfield 180, 3) := by decide +kernel
theorem dX6_workOut_44 : decode cX6_workOut 44 = .ok (.if_icmp .ne 7, 3) := by decide +kernel
theorem dX6_workOut_47 : decode cX6_workOut 47 = .ok (.iload_n 3, 1) := by decide +kernel
theorem dX6_workOut_48 : decode cX6_workOut 48 = .ok (.goto 5, 3) := by decide +kernel
theorem dX6_workOut_51 : decode cX6_workOut 51 = .ok (.iload_n 3, 1) := by decide +kernel
theorem dX6_workOut_52 : decode cX6_workOut 52 = .ok (.ineg, 1) := by decide +kernel
theorem dX6_workOut_53 : decode cX6_workOut 53 = .ok (.istore_n 3, 1) := by decide +kernel
theorem dX6_workOut_54 : decode cX6_workOut 54 = .ok (.aload_n 0, 1) := by decide +kernel
theorem dX6_workOut_55 : decode cX6_workOut 55 = .ok (.aload_n 0, 1) := by decide +kernel
theorem dX6_workOut_56 : decode cX6_workOut 56 = .ok (.getfield 180, 3) := by decide +kernel
theorem dX6_workOut_59 : decode cX6_workOut 59 = .ok (.iload 5, 2) := by decide +kernel
theorem dX6_workOut_61 : decode cX6_workOut 61 = .ok (.invokevirtual 186, 3) := by decide +kernel
theorem dX6_workOut_64 : decode cX6_workOut 64 = .ok (.aload_n 0, 1) := by decide +kernel
theorem dX6_workOut_65 : decode cX6_workOut 65 = .ok (.aload_n 0, 1) := by decide +kernel
theorem dX6_workOut_66 : decode cX6_workOut 66 = .ok (.getfield 180, 3) := by decide +kernel
theorem dX6_workOut_69 : decode cX6_workOut 69 = .ok (.iload 4, 2) := by decide +kernel
theorem dX6_workOut_71 : decode cX6_workOut 71 = .ok (.lload_n 1, 1) := by decide +kernel
theorem dX6_workOut_72 : decode cX6_workOut 72 = .ok (.invokevirtual 189, 3) := by decide +kernel
theorem dX6_workOut_75 : decode cX6_workOut 75 = .ok (.aload_n 0, 1) := by decide +kernel
theorem dX6_workOut_76 : decode cX6_workOut 76 = .ok (.getfield 29, 3) := by decide +kernel
theorem dX6_workOut_79 : decode cX6_workOut 79 = .ok (.bipush 7, 2) := by decide +kernel
theorem dX6_workOut_81 : decode cX6_workOut 81 = .ok (.aload_n 0, 1) := by decide +kernel
theorem dX6_workOut_82 : decode cX6_workOut 82 = .ok (.getfield 180, 3) := by decide +kernel
theorem dX6_workOut_85 : decode cX6_workOut 85 = .ok (.imul, 1) := by decide +kernel
theorem dX6_workOut_86 : decode cX6_workOut 86 = .ok (.iload 4, 2) := by decide +kernel
theorem dX6_workOut_88 : decode cX6_workOut 88 = .ok (.iadd, 1) := by decide +kernel
theorem dX6_workOut_89 : decode cX6_workOut 89 = .ok (.laload, 1) := by decide +kernel
theorem dX6_workOut_90 : decode cX6_workOut 90 = .ok (.lstore_n 1, 1) := by decide +kernel
theorem dX6_workOut_91 : decode cX6_workOut 91 = .ok (.aload_n 0, 1) := by decide +kernel
theorem dX6_workOut_92 : decode cX6_workOut 92 = .ok (.dup, 1) := by decide +kernel
theorem dX6_workOut_93 : decode cX6_workOut 93 = .ok (.getfield 180, 3) := by decide +kernel
theorem dX6_workOut_96 : decode cX6_workOut 96 = .ok (.iconst 1, 1) := by decide +kernel
theorem dX6_workOut_97 : decode cX6_workOut 97 = .ok (.iadd, 1) := by decide +kernel
theorem dX6_workOut_98 : decode cX6_workOut 98 = .ok (.putfield 180, 3) := by decide +kernel
theorem dX6_workOut_101 : decode cX6_workOut 101 = .ok (.iinc 4 1, 3) := by decide +kernel
theorem dX6_workOut_104 : decode cX6_workOut 104 = .ok (.goto (-92), 3) := by decide +kernel
theorem dX6_workOut_107 : decode cX6_workOut 107 = .ok (.aload_n 0, 1) := by decide +kernel
theorem dX6_workOut_108 : decode cX6_workOut 108 = .ok (.aload_n 0, 1) := by decide +kernel
theorem dX6_workOut_109 : decode cX6_workOut 109 = .ok (.getfield 180, 3) := by decide +kernel
theorem dX6_workOut_112 : decode cX6_workOut 112 = .ok (.aload_n 0, 1) := by decide +kernel
theorem dX6_workOut_113 : decode cX6_workOut 113 = .ok (.invokevirtual 68, 3) := by decide +kernel
theorem dX6_workOut_116 : decode cX6_workOut 116 = .ok (.if_icmp .ne 10, 3) := by decide +kernel
theorem dX6_workOut_119 : decode cX6_workOut 119 = .ok (.iload_n 3, 1) := by decide +kernel
theorem dX6_workOut_120 : decode cX6_workOut 120 = .ok (.i2l, 1) := by decide +kernel
theorem dX6_workOut_121 : decode cX6_workOut 121 = .ok (.lload_n 1, 1) := by decide +kernel
theorem dX6_workOut_122 : decode cX6_workOut 122 = .ok (.lmul, 1) := by decide +kernel
theorem dX6_workOut_123 : decode cX6_workOut 123 = .ok (.goto 4, 3) := by decide +kernel
theorem dX6_workOut_126 : decode cX6_workOut 126 = .ok (.lconst 0, 1) := by decide +kernel
theorem dX6_workOut_127 : decode cX6_workOut 127 = .ok (.putfield 193, 3) := by decide +kernel
theorem dX6_workOut_130 : decode cX6_workOut 130 = .ok (.return_, 1) := by decide +kernel
set_option maxRecDepth 20000 in
theorem ggX6_root_X6_isSlot : GoodIn wsX6_root wsX6_isSlot := goodIn_r _ [8, 9, 10, 7, 11] (by decide +kernel) (by decide +kernel)
set_option maxRecDepth 20000 in
theorem gX6_root_X6_isSlot : GoodIn wsX6_root (va_wsS RX6 72 yX6_isSlot wsX6_isSlot) := goodIn_app (goodIn_of _ (by decide +kernel)) ggX6_root_X6_isSlot
set_option maxRecDepth 20000 in
theorem ggX6_root_X6_in : GoodIn wsX6_root wsX6_in := goodIn_r _ [11] (by decide +kernel) (by decide +kernel)
set_option maxRecDepth 20000 in
theorem gX6_root_X6_in : GoodIn wsX6_root (va_wsS RX6 33 yX6_in wsX6_in) := goodIn_app (goodIn_of _ (by decide +kernel)) ggX6_root_X6_in
set_option maxRecDepth 20000 in
theorem ggX6_root_X6_netOf : GoodIn wsX6_root wsX6_netOf := goodIn_r _ [15, 16, 51, 52, 53, 54, 55, 56, 57, 58, 59, 60, 61, 62, 63] (by decide +kernel) (by decide +kernel)
set_option maxRecDepth 20000 in
theorem gX6_root_X6_netOf : GoodIn wsX6_root (wsV RX6 79 RX6 yX6_netOf wsX6_netOf) := goodIn_app (goodIn_of _ (by decide +kernel)) ggX6_root_X6_netOf
set_option maxRecDepth 20000 in
theorem ggX6_root_X6_layTable : GoodIn wsX6_root wsX6_layTable := goodIn_r _ [20, 21, 22, 23, 24, 7, 25, 16, 26, 27, 28, 29, 30, 31, 32, 33, 34, 51, 52, 53, 54, 55, 56, 57, 58, 59, 60, 61, 62, 63] (by decide +kernel) (by decide +kernel)
set_option maxRecDepth 20000 in
theorem gX6_root_X6_layTable : GoodIn wsX6_root (wsV RX6 201 RX6 yX6_layTable wsX6_layTable) := goodIn_app (goodIn_of _ (by decide +kernel)) ggX6_root_X6_layTable
set_option maxRecDepth 20000 in
theorem ggX6_root_X6_workOut : GoodIn wsX6_root wsX6_workOut := goodIn_r _ [38, 4, 21, 3, 22, 23, 24, 7, 25, 16, 39, 40, 41, 42, 43, 44, 45, 46, 47, 48, 49, 50, 51, 52, 53, 54, 55, 56, 57, 58, 59, 60, 61, 62, 63] (by decide +kernel) (by decide +kernel)
set_option maxRecDepth 20000 in
theorem gX6_root_X6_workOut : GoodIn wsX6_root (wsV RX6 204 RX6 yX6_workOut wsX6_workOut) := goodIn_app (goodIn_of _ (by decide +kernel)) ggX6_root_X6_workOut
set_option maxRecDepth 20000 in
theorem ggX6_root_X6_many : GoodIn wsX6_root wsX6_many := goodIn_r _ [25, 16, 51, 52, 53, 54, 55, 56, 57, 58, 59, 60, 61, 62, 63] (by decide +kernel) (by decide +kernel)
set_option maxRecDepth 20000 in
theorem gX6_root_X6_many : GoodIn wsX6_root (wsV RX6 68 RX6 yX6_many wsX6_many) := goodIn_app (goodIn_of _ (by decide +kernel)) ggX6_root_X6_many
theorem dX6_root_0 : decode cX6_root 0 = .ok (.iload_n 1, 1) := by decide +kernel
theorem dX6_root_1 : decode cX6_root 1 = .ok (.invokestatic 72, 3) := by decide +kernel
theorem dX6_root_4 : decode cX6_root 4 = .ok (.ifCond .ne 7, 3) := by decide +kernel
theorem dX6_root_7 : decode cX6_root 7 = .ok (.ldc2_w 197, 3) := by decide +kernel
theorem dX6_root_10 : decode cX6_root 10 = .ok (.lreturn, 1) := by decide +kernel
theorem dX6_root_11 : decode cX6_root 11 = .ok (.iload_n 2, 1) := by decide +kernel
theorem dX6_root_12 : decode cX6_root 12 = .ok (.bipush (-9), 2) := by decide +kernel
theorem dX6_root_14 : decode cX6_root 14 = .ok (.bipush 9, 2) := by decide +kernel
theorem dX6_root_16 : decode cX6_root 16 = .ok (.invokestatic 33, 3) := by decide +kernel
theorem dX6_root_19 : decode cX6_root 19 = .ok (.ifCond .eq 12, 3) := by decide +kernel
theorem dX6_root_22 : decode cX6_root 22 = .ok (.iload_n 3, 1) := by decide +kernel
theorem dX6_root_23 : decode cX6_root 23 = .ok (.iconst 0, 1) := by decide +kernel
theorem dX6_root_24 : decode cX6_root 24 = .ok (.iconst 1, 1) := by decide +kernel
theorem dX6_root_25 : decode cX6_root 25 = .ok (.invokestatic 33, 3) := by decide +kernel
theorem dX6_root_28 : decode cX6_root 28 = .ok (.ifCond .ne 7, 3) := by decide +kernel
theorem dX6_root_31 : decode cX6_root 31 = .ok (.ldc2_w 199, 3) := by decide +kernel
theorem dX6_root_34 : decode cX6_root 34 = .ok (.lreturn, 1) := by decide +kernel
theorem dX6_root_35 : decode cX6_root 35 = .ok (.aload_n 0, 1) := by decide +kernel
theorem dX6_root_36 : decode cX6_root 36 = .ok (.aload_n 0, 1) := by decide +kernel
theorem dX6_root_37 : decode cX6_root 37 = .ok (.iload_n 1, 1) := by decide +kernel
theorem dX6_root_38 : decode cX6_root 38 = .ok (.invokevirtual 79, 3) := by decide +kernel
theorem dX6_root_41 : decode cX6_root 41 = .ok (.iload_n 2, 1) := by decide +kernel
theorem dX6_root_42 : decode cX6_root 42 = .ok (.invokevirtual 201, 3) := by decide +kernel
theorem dX6_root_45 : decode cX6_root 45 = .ok (.aload_n 0, 1) := by decide +kernel
theorem dX6_root_46 : decode cX6_root 46 = .ok (.invokevirtual 204, 3) := by decide +kernel
theorem dX6_root_49 : decode cX6_root 49 = .ok (.iload_n 3, 1) := by decide +kernel
theorem dX6_root_50 : decode cX6_root 50 = .ok (.ifCond .ne 10, 3) := by decide +kernel
theorem dX6_root_53 : decode cX6_root 53 = .ok (.aload_n 0, 1) := by decide +kernel
theorem dX6_root_54 : decode cX6_root 54 = .ok (.getfield 193, 3) := by decide +kernel
theorem dX6_root_57 : decode cX6_root 57 = .ok (.goto 13, 3) := by decide +kernel
theorem dX6_root_60 : decode cX6_root 60 = .ok (.aload_n 0, 1) := by decide +kernel
theorem dX6_root_61 : decode cX6_root 61 = .ok (.invokevirtual 68, 3) := by decide +kernel
theorem dX6_root_64 : decode cX6_root 64 = .ok (.aload_n 0, 1) := by decide +kernel
theorem dX6_root_65 : decode cX6_root 65 = .ok (.getfield 180, 3) := by decide +kernel
theorem dX6_root_68 : decode cX6_root 68 = .ok (.isub, 1) := by decide +kernel
theorem dX6_root_69 : decode cX6_root 69 = .ok (.i2l, 1) := by decide +kernel
theorem dX6_root_70 : decode cX6_root 70 = .ok (.lreturn, 1) := by decide +kernel
set_option maxRecDepth 20000 in
theorem ggX6_image_X6_in : GoodIn wsX6_image wsX6_in := goodIn_r _ [7] (by decide +kernel) (by decide +kernel)
set_option maxRecDepth 20000 in
theorem gX6_image_X6_in : GoodIn wsX6_image (va_wsS RX6 33 yX6_in wsX6_in) := goodIn_app (goodIn_of _ (by decide +kernel)) ggX6_image_X6_in
theorem dX6_image_0 : decode cX6_image 0 = .ok (.iload_n 1, 1) := by decide +kernel
theorem dX6_image_1 : decode cX6_image 1 = .ok (.iconst 0, 1) := by decide +kernel
theorem dX6_image_2 : decode cX6_image 2 = .ok (.iconst 1, 1) := by decide +kernel
theorem dX6_image_3 : decode cX6_image 3 = .ok (.invokestatic 33, 3) := by decide +kernel
theorem dX6_image_6 : decode cX6_image 6 = .ok (.ifCond .ne 6, 3) := by decide +kernel
theorem dX6_image_9 : decode cX6_image 9 = .ok (.bipush (-2), 2) := by decide +kernel
theorem dX6_image_11 : decode cX6_image 11 = .ok (.ireturn, 1) := by decide +kernel
theorem dX6_image_12 : decode cX6_image 12 = .ok (.iconst 0, 1) := by decide +kernel
theorem dX6_image_13 : decode cX6_image 13 = .ok (.istore_n 2, 1) := by decide +kernel
theorem dX6_image_14 : decode cX6_image 14 = .ok (.iload_n 2, 1) := by decide +kernel
theorem dX6_image_15 : decode cX6_image 15 = .ok (.iconst 4, 1) := by decide +kernel
theorem dX6_image_16 : decode cX6_image 16 = .ok (.if_icmp .ge 25, 3) := by decide +kernel
theorem dX6_image_19 : decode cX6_image 19 = .ok (.aload_n 0, 1) := by decide +kernel
theorem dX6_image_20 : decode cX6_image 20 = .ok (.getfield 13, 3) := by decide +kernel
theorem dX6_image_23 : decode cX6_image 23 = .ok (.iconst 4, 1) := by decide +kernel
theorem dX6_image_24 : decode cX6_image 24 = .ok (.iload_n 1, 1) := by decide +kernel
theorem dX6_image_25 : decode cX6_image 25 = .ok (.imul, 1) := by decide +kernel
theorem dX6_image_26 : decode cX6_image 26 = .ok (.iload_n 2, 1) := by decide +kernel
theorem dX6_image_27 : decode cX6_image 27 = .ok (.iadd, 1) := by decide +kernel
theorem dX6_image_28 : decode cX6_image 28 = .ok (.aload_n 0, 1) := by decide +kernel
theorem dX6_image_29 : decode cX6_image 29 = .ok (.getfield 7, 3) := by decide +kernel
theorem dX6_image_32 : decode cX6_image 32 = .ok (.iload_n 2, 1) := by decide +kernel
theorem dX6_image_33 : decode cX6_image 33 = .ok (.iaload, 1) := by decide +kernel
theorem dX6_image_34 : decode cX6_image 34 = .ok (.iastore, 1) := by decide +kernel
theorem dX6_image_35 : decode cX6_image 35 = .ok (.iinc 2 1, 3) := by decide +kernel
theorem dX6_image_38 : decode cX6_image 38 = .ok (.goto (-24), 3) := by decide +kernel
theorem dX6_image_41 : decode cX6_image 41 = .ok (.aload_n 0, 1) := by decide +kernel
theorem dX6_image_42 : decode cX6_image 42 = .ok (.getfield 16, 3) := by decide +kernel
theorem dX6_image_45 : decode cX6_image 45 = .ok (.iload_n 1, 1) := by decide +kernel
theorem dX6_image_46 : decode cX6_image 46 = .ok (.iconst 1, 1) := by decide +kernel
theorem dX6_image_47 : decode cX6_image 47 = .ok (.bastore, 1) := by decide +kernel
theorem dX6_image_48 : decode cX6_image 48 = .ok (.iconst 1, 1) := by decide +kernel
theorem dX6_image_49 : decode cX6_image 49 = .ok (.ireturn, 1) := by decide +kernel
set_option maxRecDepth 20000 in
theorem ggX6_restore_X6_in : GoodIn wsX6_restore wsX6_in := goodIn_r _ [7] (by decide +kernel) (by decide +kernel)
set_option maxRecDepth 20000 in
theorem gX6_restore_X6_in : GoodIn wsX6_restore (va_wsS RX6 33 yX6_in wsX6_in) := goodIn_app (goodIn_of _ (by decide +kernel)) ggX6_restore_X6_in
theorem dX6_restore_0 : decode cX6_restore 0 = .ok (.iload_n 1, 1) := by decide +kernel
theorem dX6_restore_1 : decode cX6_restore 1 = .ok (.iconst 0, 1) := by decide +kernel
theorem dX6_restore_2 : decode cX6_restore 2 = .ok (.iconst 1, 1) := by decide +kernel
theorem dX6_restore_3 : decode cX6_restore 3 = .ok (.invokestatic 33, 3) := by decide +kernel
theorem dX6_restore_6 : decode cX6_restore 6 = .ok (.ifCond .ne 6, 3) := by decide +kernel
theorem dX6_restore_9 : decode cX6_restore 9 = .ok (.bipush (-2), 2) := by decide +kernel
theorem dX6_restore_11 : decode cX6_restore 11 = .ok (.ireturn, 1) := by decide +kernel
theorem dX6_restore_12 : decode cX6_restore 12 = .ok (.aload_n 0, 1) := by decide +kernel
theorem dX6_restore_13 : decode cX6_restore 13 = .ok (.getfield 16, 3) := by decide +kernel
theorem dX6_restore_16 : decode cX6_restore 16 = .ok (.iload_n 1, 1) := by decide +kernel
theorem dX6_restore_17 : decode cX6_restore 17 = .ok (.baload, 1) := by decide +kernel
theorem dX6_restore_18 : decode cX6_restore 18 = .ok (.ifCond .ne 6, 3) := by decide +kernel
theorem dX6_restore_21 : decode cX6_restore 21 = .ok (.bipush (-3), 2) := by decide +kernel
theorem dX6_restore_23 : decode cX6_restore 23 = .ok (.ireturn, 1) := by decide +kernel
theorem dX6_restore_24 : decode cX6_restore 24 = .ok (.iconst 0, 1) := by decide +kernel
theorem dX6_restore_25 : decode cX6_restore 25 = .ok (.istore_n 2, 1) := by decide +kernel
theorem dX6_restore_26 : decode cX6_restore 26 = .ok (.iload_n 2, 1) := by decide +kernel
theorem dX6_restore_27 : decode cX6_restore 27 = .ok (.iconst 4, 1) := by decide +kernel
theorem dX6_restore_28 : decode cX6_restore 28 = .ok (.if_icmp .ge 25, 3) := by decide +kernel
theorem dX6_restore_31 : decode cX6_restore 31 = .ok (.aload_n 0, 1) := by decide +kernel
theorem dX6_restore_32 : decode cX6_restore 32 = .ok (.getfield 7, 3) := by decide +kernel
theorem dX6_restore_35 : decode cX6_restore 35 = .ok (.iload_n 2, 1) := by decide +kernel
theorem dX6_restore_36 : decode cX6_restore 36 = .ok (.aload_n 0, 1) := by decide +kernel
theorem dX6_restore_37 : decode cX6_restore 37 = .ok (.getfield 13, 3) := by decide +kernel
theorem dX6_restore_40 : decode cX6_restore 40 = .ok (.iconst 4, 1) := by decide +kernel
theorem dX6_restore_41 : decode cX6_restore 41 = .ok (.iload_n 1, 1) := by decide +kernel
theorem dX6_restore_42 : decode cX6_restore 42 = .ok (.imul, 1) := by decide +kernel
theorem dX6_restore_43 : decode cX6_restore 43 = .ok (.iload_n 2, 1) := by decide +kernel
theorem dX6_restore_44 : decode cX6_restore 44 = .ok (.iadd, 1) := by decide +kernel
theorem dX6_restore_45 : decode cX6_restore 45 = .ok (.iaload, 1) := by decide +kernel
theorem dX6_restore_46 : decode cX6_restore 46 = .ok (.iastore, 1) := by decide +kernel
theorem dX6_restore_47 : decode cX6_restore 47 = .ok (.iinc 2 1, 3) := by decide +kernel
theorem dX6_restore_50 : decode cX6_restore 50 = .ok (.goto (-24), 3) := by decide +kernel
theorem dX6_restore_53 : decode cX6_restore 53 = .ok (.iconst 1, 1) := by decide +kernel
theorem dX6_restore_54 : decode cX6_restore 54 = .ok (.ireturn, 1) := by decide +kernel
set_option maxRecDepth 20000 in
theorem ggX6_classes_X6_many : GoodIn wsX6_classes wsX6_many := goodIn_r _ [5, 6, 50, 51, 52, 53, 54, 55, 56, 57, 58, 59, 60, 61, 62] (by decide +kernel) (by decide +kernel)
set_option maxRecDepth 20000 in
theorem gX6_classes_X6_many : GoodIn wsX6_classes (wsV RX6 68 RX6 yX6_many wsX6_many) := goodIn_app (goodIn_of _ (by decide +kernel)) ggX6_classes_X6_many
set_option maxRecDepth 20000 in
theorem ggX6_classes_X6_netOf : GoodIn wsX6_classes wsX6_netOf := goodIn_r _ [10, 6, 50, 51, 52, 53, 54, 55, 56, 57, 58, 59, 60, 61, 62] (by decide +kernel) (by decide +kernel)
set_option maxRecDepth 20000 in
theorem gX6_classes_X6_netOf : GoodIn wsX6_classes (wsV RX6 79 RX6 yX6_netOf wsX6_netOf) := goodIn_app (goodIn_of _ (by decide +kernel)) ggX6_classes_X6_netOf
set_option maxRecDepth 20000 in
theorem ggX6_classes_X6_comesTo : GoodIn wsX6_classes wsX6_comesTo := goodIn_r _ [14, 15, 16, 4, 17, 18, 19, 20, 21, 22, 23, 24, 25, 26, 27, 28, 29, 30, 31, 32, 33, 34, 35, 36, 37, 38, 39, 40, 41, 42, 43, 44, 45, 50, 51, 52, 53, 54, 55, 56, 57, 58, 59, 60, 61, 62] (by decide +kernel) (by decide +kernel)
set_option maxRecDepth 20000 in
theorem gX6_classes_X6_comesTo : GoodIn wsX6_classes (wsV RX6 173 RX6 yX6_comesTo wsX6_comesTo) := goodIn_app (goodIn_of _ (by decide +kernel)) ggX6_classes_X6_comesTo
set_option maxRecDepth 20000 in
theorem ggX6_classes_X6_setBetween : GoodIn wsX6_classes wsX6_setBetween := goodIn_r _ [49, 1, 2, 3, 4, 5, 6, 18, 19, 20, 21, 22, 23, 24, 25, 26, 27, 28, 29, 30, 31, 32, 50, 51, 52, 53, 54, 55, 56, 57, 58, 59, 60, 61, 62] (by decide +kernel) (by decide +kernel)
set_option maxRecDepth 20000 in
theorem gX6_classes_X6_setBetween : GoodIn wsX6_classes (wsV RX6 170 RX6 yX6_setBetween wsX6_setBetween) := goodIn_app (goodIn_of _ (by decide +kernel)) ggX6_classes_X6_setBetween
theorem dX6_classes_0 : decode cX6_classes 0 = .ok (.iconst 0, 1) := by decide +kernel
theorem dX6_classes_1 : decode cX6_classes 1 = .ok (.istore_n 2, 1) := by decide +kernel
theorem dX6_classes_2 : decode cX6_classes 2 = .ok (.iconst 0, 1) := by decide +kernel
theorem dX6_classes_3 : decode cX6_classes 3 = .ok (.istore_n 3, 1) := by decide +kernel
theorem dX6_classes_4 : decode cX6_classes 4 = .ok (.iload_n 3, 1) := by decide +kernel
theorem dX6_classes_5 : decode cX6_classes 5 = .ok (.iconst 3, 1) := by decide +kernel
theorem dX6_classes_6 : decode cX6_classes 6 = .ok (.if_icmp .ge 100, 3) := by decide +kernel
theorem dX6_classes_9 : decode cX6_classes 9 = .ok (.iconst 1, 1) := by decide +kernel
theorem dX6_classes_10 : decode cX6_classes 10 = .ok (.istore 4, 2) := by decide +kernel
theorem dX6_classes_12 : decode cX6_classes 12 = .ok (.iconst 0, 1) := by decide +kernel
theorem dX6_classes_13 : decode cX6_classes 13 = .ok (.istore 5, 2) := by decide +kernel
theorem dX6_classes_15 : decode cX6_classes 15 = .ok (.iload 5, 2) := by decide +kernel
theorem dX6_classes_17 : decode cX6_classes 17 = .ok (.iload_n 3, 1) := by decide +kernel
theorem dX6_classes_18 : decode cX6_classes 18 = .ok (.if_icmp .ge 69, 3) := by decide +kernel
theorem dX6_classes_21 : decode cX6_classes 21 = .ok (.iload 4, 2) := by decide +kernel
theorem dX6_classes_23 : decode cX6_classes 23 = .ok (.ifCond .eq 55, 3) := by decide +kernel
theorem dX6_classes_26 : decode cX6_classes 26 = .ok (.iload_n 1, 1) := by decide +kernel
theorem dX6_classes_27 : decode cX6_classes 27 = .ok (.ifCond .eq 29, 3) := by decide +kernel
theorem dX6_classes_30 : decode cX6_classes 30 = .ok (.aload_n 0, 1) := by decide +kernel
theorem dX6_classes_31 : decode cX6_classes 31 = .ok (.aload_n 0, 1) := by decide +kernel
theorem dX6_classes_32 : decode cX6_classes 32 = .ok (.invokevirtual 68, 3) := by decide +kernel
theorem dX6_classes_35 : decode cX6_classes 35 = .ok (.aload_n 0, 1) := by decide +kernel
theorem dX6_classes_36 : decode cX6_classes 36 = .ok (.iload_n 3, 1) := by decide +kernel
theorem dX6_classes_37 : decode cX6_classes 37 = .ok (.invokevirtual 79, 3) := by decide +kernel
theorem dX6_classes_40 : decode cX6_classes 40 = .ok (.aload_n 0, 1) := by decide +kernel
theorem dX6_classes_41 : decode cX6_classes 41 = .ok (.iload 5, 2) := by decide +kernel
theorem dX6_classes_43 : decode cX6_classes 43 = .ok (.invokevirtual 79, 3) := by decide +kernel
theorem dX6_classes_46 : decode cX6_classes 46 = .ok (.iconst 1, 1) := by decide +kernel
theorem dX6_classes_47 : decode cX6_classes 47 = .ok (.invokevirtual 173, 3) := by decide +kernel
theorem dX6_classes_50 : decode cX6_classes 50 = .ok (.ifCond .ne 28, 3) := by decide +kernel
theorem dX6_classes_53 : decode cX6_classes 53 = .ok (.goto 21, 3) := by decide +kernel
theorem dX6_classes_56 : decode cX6_classes 56 = .ok (.aload_n 0, 1) := by decide +kernel
theorem dX6_classes_57 : decode cX6_classes 57 = .ok (.aload_n 0, 1) := by decide +kernel
theorem dX6_classes_58 : decode cX6_classes 58 = .ok (.iload_n 3, 1) := by decide +kernel
theorem dX6_classes_59 : decode cX6_classes 59 = .ok (.invokevirtual 79, 3) := by decide +kernel
theorem dX6_classes_62 : decode cX6_classes 62 = .ok (.aload_n 0, 1) := by decide +kernel
theorem dX6_classes_63 : decode cX6_classes 63 = .ok (.iload 5, 2) := by decide +kernel
theorem dX6_classes_65 : decode cX6_classes 65 = .ok (.invokevirtual 79, 3) := by decide +kernel
theorem dX6_classes_68 : decode cX6_classes 68 = .ok (.invokevirtual 170, 3) := by decide +kernel
theorem dX6_classes_71 : decode cX6_classes 71 = .ok (.ifCond .ge 7, 3) := by decide +kernel
theorem dX6_classes_74 : decode cX6_classes 74 = .ok (.iconst 1, 1) := by decide +kernel
theorem dX6_classes_75 : decode cX6_classes 75 = .ok (.goto 4, 3) := by decide +kernel
theorem dX6_classes_78 : decode cX6_classes 78 = .ok (.iconst 0, 1) := by decide +kernel
theorem dX6_classes_79 : decode cX6_classes 79 = .ok (.istore 4, 2) := by decide +kernel
theorem dX6_classes_81 : decode cX6_classes 81 = .ok (.iinc 5 1, 3) := by decide +kernel
theorem dX6_classes_84 : decode cX6_classes 84 = .ok (.goto (-69), 3) := by decide +kernel
theorem dX6_classes_87 : decode cX6_classes 87 = .ok (.iload_n 2, 1) := by decide +kernel
theorem dX6_classes_88 : decode cX6_classes 88 = .ok (.iload 4, 2) := by decide +kernel
theorem dX6_classes_90 : decode cX6_classes 90 = .ok (.ifCond .eq 7, 3) := by decide +kernel
theorem dX6_classes_93 : decode cX6_classes 93 = .ok (.iconst 1, 1) := by decide +kernel
theorem dX6_classes_94 : decode cX6_classes 94 = .ok (.goto 4, 3) := by decide +kernel
theorem dX6_classes_97 : decode cX6_classes 97 = .ok (.iconst 0, 1) := by decide +kernel
theorem dX6_classes_98 : decode cX6_classes 98 = .ok (.iadd, 1) := by decide +kernel
theorem dX6_classes_99 : decode cX6_classes 99 = .ok (.istore_n 2, 1) := by decide +kernel
theorem dX6_classes_100 : decode cX6_classes 100 = .ok (.iinc 3 1, 3) := by decide +kernel
theorem dX6_classes_103 : decode cX6_classes 103 = .ok (.goto (-99), 3) := by decide +kernel
theorem dX6_classes_106 : decode cX6_classes 106 = .ok (.iload_n 2, 1) := by decide +kernel
theorem dX6_classes_107 : decode cX6_classes 107 = .ok (.ireturn, 1) := by decide +kernel
set_option maxRecDepth 20000 in
theorem ggX6_count_X6_many : GoodIn wsX6_count wsX6_many := goodIn_r _ [7, 8, 59, 60, 61, 62, 63, 64, 65, 66, 67, 68, 69, 70, 71] (by decide +kernel) (by decide +kernel)
set_option maxRecDepth 20000 in
theorem gX6_count_X6_many : GoodIn wsX6_count (wsV RX6 68 RX6 yX6_many wsX6_many) := goodIn_app (goodIn_of _ (by decide +kernel)) ggX6_count_X6_many
set_option maxRecDepth 20000 in
theorem ggX6_count_X6_pairs : GoodIn wsX6_count wsX6_pairs := goodIn_r _ [11] (by decide +kernel) (by decide +kernel)
set_option maxRecDepth 20000 in
theorem gX6_count_X6_pairs : GoodIn wsX6_count (va_wsS RX6 37 yX6_pairs wsX6_pairs) := goodIn_app (goodIn_of _ (by decide +kernel)) ggX6_count_X6_pairs
set_option maxRecDepth 20000 in
theorem ggX6_count_X6_triples : GoodIn wsX6_count wsX6_triples := goodIn_r _ [14] (by decide +kernel) (by decide +kernel)
set_option maxRecDepth 20000 in
theorem gX6_count_X6_triples : GoodIn wsX6_count (va_wsS RX6 86 yX6_triples wsX6_triples) := goodIn_app (goodIn_of _ (by decide +kernel)) ggX6_count_X6_triples
set_option maxRecDepth 20000 in
theorem ggX6_count_X6_classes : GoodIn wsX6_count wsX6_classes := goodIn_r _ [18, 3, 4, 5, 6, 7, 8, 19, 20, 21, 22, 23, 24, 25, 26, 27, 28, 29, 30, 31, 32, 33, 34, 35, 36, 37, 38, 9, 10, 11, 39, 40, 41, 42, 43, 44, 45, 46, 47, 48, 49, 50, 51, 52, 53, 54, 55, 56, 57, 58, 59, 60, 61, 62, 63, 64, 65, 66, 67, 68, 69, 70, 71] (by decide +kernel) (by decide +kernel)
set_option maxRecDepth 20000 in
theorem gX6_count_X6_classes : GoodIn wsX6_count (wsV RX6 207 RX6 yX6_classes wsX6_classes) := goodIn_app (goodIn_of _ (by decide +kernel)) ggX6_count_X6_classes
theorem dX6_count_0 : decode cX6_count 0 = .ok (.iload_n 1, 1) := by decide +kernel
theorem dX6_count_1 : decode cX6_count 1 = .ok (.tableswitch 111 0 6 #[43, 48, 56, 64, 69, 75, 81], 43) := by decide +kernel
theorem dX6_count_44 : decode cX6_count 44 = .ok (.aload_n 0, 1) := by decide +kernel
theorem dX6_count_45 : decode cX6_count 45 = .ok (.invokevirtual 68, 3) := by decide +kernel
theorem dX6_count_48 : decode cX6_count 48 = .ok (.ireturn, 1) := by decide +kernel
theorem dX6_count_49 : decode cX6_count 49 = .ok (.aload_n 0, 1) := by decide +kernel
theorem dX6_count_50 : decode cX6_count 50 = .ok (.invokevirtual 68, 3) := by decide +kernel
theorem dX6_count_53 : decode cX6_count 53 = .ok (.invokestatic 37, 3) := by decide +kernel
theorem dX6_count_56 : decode cX6_count 56 = .ok (.ireturn, 1) := by decide +kernel
theorem dX6_count_57 : decode cX6_count 57 = .ok (.aload_n 0, 1) := by decide +kernel
theorem dX6_count_58 : decode cX6_count 58 = .ok (.invokevirtual 68, 3) := by decide +kernel
theorem dX6_count_61 : decode cX6_count 61 = .ok (.invokestatic 86, 3) := by decide +kernel
theorem dX6_count_64 : decode cX6_count 64 = .ok (.ireturn, 1) := by decide +kernel
theorem dX6_count_65 : decode cX6_count 65 = .ok (.aload_n 0, 1) := by decide +kernel
theorem dX6_count_66 : decode cX6_count 66 = .ok (.getfield 82, 3) := by decide +kernel
theorem dX6_count_69 : decode cX6_count 69 = .ok (.ireturn, 1) := by decide +kernel
theorem dX6_count_70 : decode cX6_count 70 = .ok (.aload_n 0, 1) := by decide +kernel
theorem dX6_count_71 : decode cX6_count 71 = .ok (.iconst 0, 1) := by decide +kernel
theorem dX6_count_72 : decode cX6_count 72 = .ok (.invokevirtual 207, 3) := by decide +kernel
theorem dX6_count_75 : decode cX6_count 75 = .ok (.ireturn, 1) := by decide +kernel
theorem dX6_count_76 : decode cX6_count 76 = .ok (.aload_n 0, 1) := by decide +kernel
theorem dX6_count_77 : decode cX6_count 77 = .ok (.iconst 1, 1) := by decide +kernel
theorem dX6_count_78 : decode cX6_count 78 = .ok (.invokevirtual 207, 3) := by decide +kernel
theorem dX6_count_81 : decode cX6_count 81 = .ok (.ireturn, 1) := by decide +kernel
theorem dX6_count_82 : decode cX6_count 82 = .ok (.aload_n 0, 1) := by decide +kernel
theorem dX6_count_83 : decode cX6_count 83 = .ok (.getfield 16, 3) := by decide +kernel
theorem dX6_count_86 : decode cX6_count 86 = .ok (.iconst 0, 1) := by decide +kernel
theorem dX6_count_87 : decode cX6_count 87 = .ok (.baload, 1) := by decide +kernel
theorem dX6_count_88 : decode cX6_count 88 = .ok (.ifCond .eq 7, 3) := by decide +kernel
theorem dX6_count_91 : decode cX6_count 91 = .ok (.iconst 1, 1) := by decide +kernel
theorem dX6_count_92 : decode cX6_count 92 = .ok (.goto 4, 3) := by decide +kernel
theorem dX6_count_95 : decode cX6_count 95 = .ok (.iconst 0, 1) := by decide +kernel
theorem dX6_count_96 : decode cX6_count 96 = .ok (.aload_n 0, 1) := by decide +kernel
theorem dX6_count_97 : decode cX6_count 97 = .ok (.getfield 16, 3) := by decide +kernel
theorem dX6_count_100 : decode cX6_count 100 = .ok (.iconst 1, 1) := by decide +kernel
theorem dX6_count_101 : decode cX6_count 101 = .ok (.baload, 1) := by decide +kernel
theorem dX6_count_102 : decode cX6_count 102 = .ok (.ifCond .eq 7, 3) := by decide +kernel
theorem dX6_count_105 : decode cX6_count 105 = .ok (.iconst 2, 1) := by decide +kernel
theorem dX6_count_106 : decode cX6_count 106 = .ok (.goto 4, 3) := by decide +kernel
theorem dX6_count_109 : decode cX6_count 109 = .ok (.iconst 0, 1) := by decide +kernel
theorem dX6_count_110 : decode cX6_count 110 = .ok (.iadd, 1) := by decide +kernel
theorem dX6_count_111 : decode cX6_count 111 = .ok (.ireturn, 1) := by decide +kernel
theorem dX6_count_112 : decode cX6_count 112 = .ok (.bipush (-2), 2) := by decide +kernel
theorem dX6_count_114 : decode cX6_count 114 = .ok (.ireturn, 1) := by decide +kernel
theorem dJ6_bitCount_0f7a4_0 : decode cJ6_bitCount_0f7a4 0 = .ok (.iload_n 0, 1) := by decide +kernel
theorem dJ6_bitCount_0f7a4_1 : decode cJ6_bitCount_0f7a4 1 = .ok (.iload_n 0, 1) := by decide +kernel
theorem dJ6_bitCount_0f7a4_2 : decode cJ6_bitCount_0f7a4 2 = .ok (.iconst 1, 1) := by decide +kernel
theorem dJ6_bitCount_0f7a4_3 : decode cJ6_bitCount_0f7a4 3 = .ok (.iushr, 1) := by decide +kernel
theorem dJ6_bitCount_0f7a4_4 : decode cJ6_bitCount_0f7a4 4 = .ok (.ldc_w 265, 3) := by decide +kernel
theorem dJ6_bitCount_0f7a4_7 : decode cJ6_bitCount_0f7a4 7 = .ok (.iand, 1) := by decide +kernel
theorem dJ6_bitCount_0f7a4_8 : decode cJ6_bitCount_0f7a4 8 = .ok (.isub, 1) := by decide +kernel
theorem dJ6_bitCount_0f7a4_9 : decode cJ6_bitCount_0f7a4 9 = .ok (.istore_n 0, 1) := by decide +kernel
theorem dJ6_bitCount_0f7a4_10 : decode cJ6_bitCount_0f7a4 10 = .ok (.iload_n 0, 1) := by decide +kernel
theorem dJ6_bitCount_0f7a4_11 : decode cJ6_bitCount_0f7a4 11 = .ok (.ldc_w 266, 3) := by decide +kernel
theorem dJ6_bitCount_0f7a4_14 : decode cJ6_bitCount_0f7a4 14 = .ok (.iand, 1) := by decide +kernel
theorem dJ6_bitCount_0f7a4_15 : decode cJ6_bitCount_0f7a4 15 = .ok (.iload_n 0, 1) := by decide +kernel
theorem dJ6_bitCount_0f7a4_16 : decode cJ6_bitCount_0f7a4 16 = .ok (.iconst 2, 1) := by decide +kernel
theorem dJ6_bitCount_0f7a4_17 : decode cJ6_bitCount_0f7a4 17 = .ok (.iushr, 1) := by decide +kernel
theorem dJ6_bitCount_0f7a4_18 : decode cJ6_bitCount_0f7a4 18 = .ok (.ldc_w 266, 3) := by decide +kernel
theorem dJ6_bitCount_0f7a4_21 : decode cJ6_bitCount_0f7a4 21 = .ok (.iand, 1) := by decide +kernel
theorem dJ6_bitCount_0f7a4_22 : decode cJ6_bitCount_0f7a4 22 = .ok (.iadd, 1) := by decide +kernel
theorem dJ6_bitCount_0f7a4_23 : decode cJ6_bitCount_0f7a4 23 = .ok (.istore_n 0, 1) := by decide +kernel
theorem dJ6_bitCount_0f7a4_24 : decode cJ6_bitCount_0f7a4 24 = .ok (.iload_n 0, 1) := by decide +kernel
theorem dJ6_bitCount_0f7a4_25 : decode cJ6_bitCount_0f7a4 25 = .ok (.iload_n 0, 1) := by decide +kernel
theorem dJ6_bitCount_0f7a4_26 : decode cJ6_bitCount_0f7a4 26 = .ok (.iconst 4, 1) := by decide +kernel
theorem dJ6_bitCount_0f7a4_27 : decode cJ6_bitCount_0f7a4 27 = .ok (.iushr, 1) := by decide +kernel
theorem dJ6_bitCount_0f7a4_28 : decode cJ6_bitCount_0f7a4 28 = .ok (.iadd, 1) := by decide +kernel
theorem dJ6_bitCount_0f7a4_29 : decode cJ6_bitCount_0f7a4 29 = .ok (.ldc_w 267, 3) := by decide +kernel
theorem dJ6_bitCount_0f7a4_32 : decode cJ6_bitCount_0f7a4 32 = .ok (.iand, 1) := by decide +kernel
theorem dJ6_bitCount_0f7a4_33 : decode cJ6_bitCount_0f7a4 33 = .ok (.istore_n 0, 1) := by decide +kernel
theorem dJ6_bitCount_0f7a4_34 : decode cJ6_bitCount_0f7a4 34 = .ok (.iload_n 0, 1) := by decide +kernel
theorem dJ6_bitCount_0f7a4_35 : decode cJ6_bitCount_0f7a4 35 = .ok (.iload_n 0, 1) := by decide +kernel
theorem dJ6_bitCount_0f7a4_36 : decode cJ6_bitCount_0f7a4 36 = .ok (.bipush 8, 2) := by decide +kernel
theorem dJ6_bitCount_0f7a4_38 : decode cJ6_bitCount_0f7a4 38 = .ok (.iushr, 1) := by decide +kernel
theorem dJ6_bitCount_0f7a4_39 : decode cJ6_bitCount_0f7a4 39 = .ok (.iadd, 1) := by decide +kernel
theorem dJ6_bitCount_0f7a4_40 : decode cJ6_bitCount_0f7a4 40 = .ok (.istore_n 0, 1) := by decide +kernel
theorem dJ6_bitCount_0f7a4_41 : decode cJ6_bitCount_0f7a4 41 = .ok (.iload_n 0, 1) := by decide +kernel
theorem dJ6_bitCount_0f7a4_42 : decode cJ6_bitCount_0f7a4 42 = .ok (.iload_n 0, 1) := by decide +kernel
theorem dJ6_bitCount_0f7a4_43 : decode cJ6_bitCount_0f7a4 43 = .ok (.bipush 16, 2) := by decide +kernel
theorem dJ6_bitCount_0f7a4_45 : decode cJ6_bitCount_0f7a4 45 = .ok (.iushr, 1) := by decide +kernel
theorem dJ6_bitCount_0f7a4_46 : decode cJ6_bitCount_0f7a4 46 = .ok (.iadd, 1) := by decide +kernel
theorem dJ6_bitCount_0f7a4_47 : decode cJ6_bitCount_0f7a4 47 = .ok (.istore_n 0, 1) := by decide +kernel
theorem dJ6_bitCount_0f7a4_48 : decode cJ6_bitCount_0f7a4 48 = .ok (.iload_n 0, 1) := by decide +kernel
theorem dJ6_bitCount_0f7a4_49 : decode cJ6_bitCount_0f7a4 49 = .ok (.bipush 63, 2) := by decide +kernel
theorem dJ6_bitCount_0f7a4_51 : decode cJ6_bitCount_0f7a4 51 = .ok (.iand, 1) := by decide +kernel
theorem dJ6_bitCount_0f7a4_52 : decode cJ6_bitCount_0f7a4 52 = .ok (.ireturn, 1) := by decide +kernel
theorem dJ9_min_7cf53_0 : decode cJ9_min_7cf53 0 = .ok (.iload_n 0, 1) := by decide +kernel
theorem dJ9_min_7cf53_1 : decode cJ9_min_7cf53 1 = .ok (.iload_n 1, 1) := by decide +kernel
theorem dJ9_min_7cf53_2 : decode cJ9_min_7cf53 2 = .ok (.if_icmp .gt 7, 3) := by decide +kernel
theorem dJ9_min_7cf53_5 : decode cJ9_min_7cf53 5 = .ok (.iload_n 0, 1) := by decide +kernel
theorem dJ9_min_7cf53_6 : decode cJ9_min_7cf53 6 = .ok (.goto 4, 3) := by decide +kernel
theorem dJ9_min_7cf53_9 : decode cJ9_min_7cf53 9 = .ok (.iload_n 1, 1) := by decide +kernel
theorem dJ9_min_7cf53_10 : decode cJ9_min_7cf53 10 = .ok (.ireturn, 1) := by decide +kernel
theorem dJ7_fill_53178_0 : decode cJ7_fill_53178 0 = .ok (.iconst 0, 1) := by decide +kernel
theorem dJ7_fill_53178_1 : decode cJ7_fill_53178 1 = .ok (.istore_n 2, 1) := by decide +kernel
theorem dJ7_fill_53178_2 : decode cJ7_fill_53178 2 = .ok (.aload_n 0, 1) := by decide +kernel
theorem dJ7_fill_53178_3 : decode cJ7_fill_53178 3 = .ok (.arraylength, 1) := by decide +kernel
theorem dJ7_fill_53178_4 : decode cJ7_fill_53178 4 = .ok (.istore_n 3, 1) := by decide +kernel
theorem dJ7_fill_53178_5 : decode cJ7_fill_53178 5 = .ok (.iload_n 2, 1) := by decide +kernel
theorem dJ7_fill_53178_6 : decode cJ7_fill_53178 6 = .ok (.iload_n 3, 1) := by decide +kernel
theorem dJ7_fill_53178_7 : decode cJ7_fill_53178 7 = .ok (.if_icmp .ge 13, 3) := by decide +kernel
theorem dJ7_fill_53178_10 : decode cJ7_fill_53178 10 = .ok (.aload_n 0, 1) := by decide +kernel
theorem dJ7_fill_53178_11 : decode cJ7_fill_53178 11 = .ok (.iload_n 2, 1) := by decide +kernel
theorem dJ7_fill_53178_12 : decode cJ7_fill_53178 12 = .ok (.iload_n 1, 1) := by decide +kernel
theorem dJ7_fill_53178_13 : decode cJ7_fill_53178 13 = .ok (.iastore, 1) := by decide +kernel
theorem dJ7_fill_53178_14 : decode cJ7_fill_53178 14 = .ok (.iinc 2 1, 3) := by decide +kernel
theorem dJ7_fill_53178_17 : decode cJ7_fill_53178 17 = .ok (.goto (-12), 3) := by decide +kernel
theorem dJ7_fill_53178_20 : decode cJ7_fill_53178 20 = .ok (.return_, 1) := by decide +kernel
set_option maxRecDepth 20000 in
theorem ggL_law_X5_init : GoodIn wsL_law wsX5_init := goodIn_r _ [8, 9, 10, 11, 12, 13, 14, 15, 16, 17, 18, 19, 20, 21, 22, 23, 24, 25, 26, 27, 28, 29, 30, 31, 32, 33, 34, 35, 36, 37, 38, 39, 40, 41, 42, 43, 44, 45, 46, 47, 48, 49, 50, 51, 52, 53, 54, 55, 56, 57, 58, 59, 60, 61, 62, 63, 64, 65, 66, 67, 68, 69, 70, 71, 686, 687, 665, 666, 667, 668, 669, 670, 671, 672, 688, 689, 690, 691, 692, 693, 694, 695, 696, 697] (by decide +kernel) (by decide +kernel)
set_option maxRecDepth 20000 in
theorem gL_law_X5_init : GoodIn wsL_law (wsX5_init) := ggL_law_X5_init
set_option maxRecDepth 20000 in
theorem ggL_law_X6_init : GoodIn wsL_law wsX6_init := goodIn_r _ [74, 75, 10, 11, 34, 76, 77, 78, 79, 80, 81, 82, 63, 83, 673, 674, 675, 676, 677, 678, 679, 680, 681, 682, 683, 684, 685] (by decide +kernel) (by decide +kernel)
set_option maxRecDepth 20000 in
theorem gL_law_X6_init : GoodIn wsL_law (wsX6_init) := ggL_law_X6_init
set_option maxRecDepth 20000 in
theorem ggL_law_X5_nodes : GoodIn wsL_law wsX5_nodes := goodIn_r _ [87, 15, 88, 89, 2, 90, 65, 14, 66, 67, 39, 40, 68, 69, 70, 71, 665, 666, 667, 668, 669, 670, 671, 672, 686, 687] (by decide +kernel) (by decide +kernel)
set_option maxRecDepth 20000 in
theorem gL_law_X5_nodes : GoodIn wsL_law (wsV RL 13 RX5 yX5_nodes wsX5_nodes) := goodIn_app (goodIn_of _ (by decide +kernel)) ggL_law_X5_nodes
set_option maxRecDepth 20000 in
theorem ggL_law_X6_nodes : GoodIn wsL_law wsX6_nodes := goodIn_r _ [94, 76, 95, 96, 5, 97, 98, 99, 100, 101, 673, 674, 675, 676, 677, 678, 679, 680, 681, 682, 683, 684, 685] (by decide +kernel) (by decide +kernel)
set_option maxRecDepth 20000 in
theorem gL_law_X6_nodes : GoodIn wsL_law (wsV RL 17 RX6 yX6_nodes wsX6_nodes) := goodIn_app (goodIn_of _ (by decide +kernel)) ggL_law_X6_nodes
set_option maxRecDepth 20000 in
theorem ggL_law_X5_join : GoodIn wsL_law wsX5_join := goodIn_r _ [105, 24, 15, 106, 107, 2, 108, 88, 89, 90, 109, 110, 111, 112, 113, 114, 115, 116, 117, 23, 118, 119, 49, 50, 120, 69, 70, 71, 121, 122, 123, 124, 125, 126, 127, 128, 129, 130, 131, 132, 133, 134, 135, 136, 137, 138, 139, 140, 141, 142, 143, 144, 145, 146, 147, 148, 149, 150, 665, 666, 667, 668, 669, 670, 671, 672, 686, 687, 690, 691] (by decide +kernel) (by decide +kernel)
set_option maxRecDepth 20000 in
theorem gL_law_X5_join : GoodIn wsL_law (wsV RL 18 RX5 yX5_join wsX5_join) := goodIn_app (goodIn_of _ (by decide +kernel)) ggL_law_X5_join
set_option maxRecDepth 20000 in
theorem ggL_law_X6_join : GoodIn wsL_law wsX6_join := goodIn_r _ [154, 76, 155, 156, 5, 157, 95, 96, 97, 158, 159, 160, 161, 98, 99, 100, 101, 162, 163, 164, 165, 166, 167, 168, 169, 170, 171, 172, 173, 174, 673, 674, 675, 676, 677, 678, 679, 680, 681, 682, 683, 684, 685] (by decide +kernel) (by decide +kernel)
set_option maxRecDepth 20000 in
theorem gL_law_X6_join : GoodIn wsL_law (wsV RL 22 RX6 yX6_join wsX6_join) := goodIn_app (goodIn_of _ (by decide +kernel)) ggL_law_X6_join
set_option maxRecDepth 20000 in
theorem ggL_law_X5_set : GoodIn wsL_law wsX5_set := goodIn_r _ [178, 15, 106, 107, 2, 108, 88, 89, 90, 179, 124, 125, 665, 666, 667, 668, 669, 670, 671, 672, 686, 687] (by decide +kernel) (by decide +kernel)
set_option maxRecDepth 20000 in
theorem gL_law_X5_set : GoodIn wsL_law (wsV RL 23 RX5 yX5_set wsX5_set) := goodIn_app (goodIn_of _ (by decide +kernel)) ggL_law_X5_set
set_option maxRecDepth 20000 in
theorem ggL_law_X6_set : GoodIn wsL_law wsX6_set := goodIn_r _ [183, 76, 155, 156, 5, 157, 95, 96, 97, 98, 99, 100, 101, 165, 166, 167, 168, 169, 170, 171, 673, 674, 675, 676, 677, 678, 679, 680, 681, 682, 683, 684, 685] (by decide +kernel) (by decide +kernel)
set_option maxRecDepth 20000 in
theorem gL_law_X6_set : GoodIn wsL_law (wsV RL 27 RX6 yX6_set wsX6_set) := goodIn_app (goodIn_of _ (by decide +kernel)) ggL_law_X6_set
set_option maxRecDepth 20000 in
theorem ggL_law_X5_say : GoodIn wsL_law wsX5_say := goodIn_r _ [187, 20, 88, 89, 2, 90, 188, 19, 189, 190, 44, 45, 665, 666, 667, 668, 669, 670, 671, 672, 688, 689] (by decide +kernel) (by decide +kernel)
set_option maxRecDepth 20000 in
theorem gL_law_X5_say : GoodIn wsL_law (wsV RL 28 RX5 yX5_say wsX5_say) := goodIn_app (goodIn_of _ (by decide +kernel)) ggL_law_X5_say
set_option maxRecDepth 20000 in
theorem ggL_law_X6_say : GoodIn wsL_law wsX6_say := goodIn_r _ [194, 195, 80, 95, 96, 5, 97, 673, 674, 675, 676, 677, 678, 679, 680, 681, 682, 683, 684, 685] (by decide +kernel) (by decide +kernel)
set_option maxRecDepth 20000 in
theorem gL_law_X6_say : GoodIn wsL_law (wsV RL 31 RX6 yX6_say wsX6_say) := goodIn_app (goodIn_of _ (by decide +kernel)) ggL_law_X6_say
set_option maxRecDepth 20000 in
theorem ggL_law_X5_wipe : GoodIn wsL_law wsX5_wipe := goodIn_r _ [199, 20, 665, 666, 667, 668, 669, 670, 671, 672, 688, 689] (by decide +kernel) (by decide +kernel)
set_option maxRecDepth 20000 in
theorem gL_law_X5_wipe : GoodIn wsL_law (wsV RL 32 RX5 yX5_wipe wsX5_wipe) := goodIn_app (goodIn_of _ (by decide +kernel)) ggL_law_X5_wipe
set_option maxRecDepth 20000 in
theorem ggL_law_X6_wipe : GoodIn wsL_law wsX6_wipe := goodIn_r _ [203, 195, 673, 674, 675, 676, 677, 678, 679, 680, 681, 682, 683, 684, 685] (by decide +kernel) (by decide +kernel)
set_option maxRecDepth 20000 in
theorem gL_law_X6_wipe : GoodIn wsL_law (wsV RL 36 RX6 yX6_wipe wsX6_wipe) := goodIn_app (goodIn_of _ (by decide +kernel)) ggL_law_X6_wipe
set_option maxRecDepth 20000 in
theorem ggL_law_X5_fault : GoodIn wsL_law wsX5_fault := goodIn_r _ [207, 20, 88, 89, 2, 90, 208, 209, 210, 211, 15, 179, 124, 125, 212, 213, 214, 215, 19, 216, 217, 44, 45, 665, 666, 667, 668, 669, 670, 671, 672, 686, 687, 688, 689] (by decide +kernel) (by decide +kernel)
set_option maxRecDepth 20000 in
theorem gL_law_X5_fault : GoodIn wsL_law (wsV RL 37 RX5 yX5_fault wsX5_fault) := goodIn_app (goodIn_of _ (by decide +kernel)) ggL_law_X5_fault
set_option maxRecDepth 20000 in
theorem ggL_law_X6_fault : GoodIn wsL_law wsX6_fault := goodIn_r _ [221, 95, 96, 5, 97, 222, 223, 224, 225, 195, 80, 98, 99, 100, 101, 76, 165, 166, 167, 226, 227, 228, 673, 674, 675, 676, 677, 678, 679, 680, 681, 682, 683, 684, 685] (by decide +kernel) (by decide +kernel)
set_option maxRecDepth 20000 in
theorem gL_law_X6_fault : GoodIn wsL_law (wsV RL 40 RX6 yX6_fault wsX6_fault) := goodIn_app (goodIn_of _ (by decide +kernel)) ggL_law_X6_fault
set_option maxRecDepth 20000 in
theorem ggL_law_X5_read : GoodIn wsL_law wsX5_read := goodIn_r _ [232, 20, 24, 15, 106, 107, 2, 108, 88, 89, 90, 208, 209, 210, 211, 179, 124, 125, 212, 213, 214, 215, 19, 216, 217, 44, 45, 117, 23, 118, 119, 49, 50, 120, 69, 70, 71, 233, 234, 235, 236, 237, 238, 126, 127, 128, 129, 239, 240, 241, 242, 243, 244, 245, 133, 134, 135, 136, 130, 131, 132, 665, 666, 667, 668, 669, 670, 671, 672, 686, 687, 688, 689, 690, 691] (by decide +kernel) (by decide +kernel)
set_option maxRecDepth 20000 in
theorem gL_law_X5_read : GoodIn wsL_law (wsV RL 41 RX5 yX5_read wsX5_read) := goodIn_app (goodIn_of _ (by decide +kernel)) ggL_law_X5_read
set_option maxRecDepth 20000 in
theorem ggL_law_X6_read : GoodIn wsL_law wsX6_read := goodIn_r _ [249, 195, 155, 156, 5, 157, 95, 96, 97, 222, 223, 224, 225, 80, 98, 99, 100, 101, 76, 165, 166, 167, 226, 227, 228, 250, 251, 252, 253, 254, 255, 256, 257, 258, 259, 260, 261, 262, 263, 264, 265, 266, 267, 268, 269, 270, 271, 272, 273, 162, 163, 164, 274, 275, 276, 277, 673, 674, 675, 676, 677, 678, 679, 680, 681, 682, 683, 684, 685] (by decide +kernel) (by decide +kernel)
set_option maxRecDepth 20000 in
theorem gL_law_X6_read : GoodIn wsL_law (wsV RL 44 RX6 yX6_read wsX6_read) := goodIn_app (goodIn_of _ (by decide +kernel)) ggL_law_X6_read
set_option maxRecDepth 20000 in
theorem ggL_law_X5_turn : GoodIn wsL_law wsX5_turn := goodIn_r _ [281, 15, 24, 106, 107, 2, 108, 88, 89, 90, 113, 114, 115, 116, 117, 23, 118, 119, 49, 50, 120, 69, 70, 71, 121, 122, 123, 124, 125, 126, 127, 128, 129, 282, 283, 284, 285, 286, 287, 288, 130, 131, 132, 133, 134, 135, 136, 665, 666, 667, 668, 669, 670, 671, 672, 686, 687, 690, 691] (by decide +kernel) (by decide +kernel)
set_option maxRecDepth 20000 in
theorem gL_law_X5_turn : GoodIn wsL_law (wsV RL 45 RX5 yX5_turn wsX5_turn) := goodIn_app (goodIn_of _ (by decide +kernel)) ggL_law_X5_turn
set_option maxRecDepth 20000 in
theorem ggL_law_X6_turn : GoodIn wsL_law wsX6_turn := goodIn_r _ [292, 155, 156, 5, 157, 95, 96, 97, 98, 99, 100, 101, 76, 168, 169, 170, 171, 293, 294, 295, 162, 163, 164, 165, 166, 167, 274, 275, 276, 277, 673, 674, 675, 676, 677, 678, 679, 680, 681, 682, 683, 684, 685] (by decide +kernel) (by decide +kernel)
set_option maxRecDepth 20000 in
theorem gL_law_X6_turn : GoodIn wsL_law (wsV RL 49 RX6 yX6_turn wsX6_turn) := goodIn_app (goodIn_of _ (by decide +kernel)) ggL_law_X6_turn
set_option maxRecDepth 20000 in
theorem ggL_law_X5_of : GoodIn wsL_law wsX5_of := goodIn_r _ [299, 24, 15, 106, 107, 2, 108, 88, 89, 90, 113, 114, 115, 116, 117, 23, 118, 119, 49, 50, 120, 69, 70, 71, 121, 122, 123, 124, 125, 126, 127, 128, 129, 137, 138, 139, 140, 141, 142, 143, 144, 145, 146, 147, 148, 149, 150, 300, 301, 302, 303, 304, 305, 306, 307, 308, 309, 310, 133, 134, 135, 136, 285, 286, 287, 288, 311, 312, 313, 314, 315, 316, 665, 666, 667, 668, 669, 670, 671, 672, 686, 687, 690, 691] (by decide +kernel) (by decide +kernel)
set_option maxRecDepth 20000 in
theorem gL_law_X5_of : GoodIn wsL_law (wsV RL 50 RX5 yX5_of wsX5_of) := goodIn_app (goodIn_of _ (by decide +kernel)) ggL_law_X5_of
set_option maxRecDepth 20000 in
theorem ggL_law_X6_of : GoodIn wsL_law wsX6_of := goodIn_r _ [320, 155, 156, 5, 157, 95, 96, 97, 168, 169, 170, 171, 76, 172, 173, 174, 98, 99, 100, 101, 321, 322, 323, 324, 325, 326, 327, 328, 329, 330, 331, 332, 333, 334, 335, 162, 163, 164, 165, 166, 167, 336, 337, 338, 339, 340, 341, 342, 343, 344, 345, 346, 347, 348, 349, 673, 674, 675, 676, 677, 678, 679, 680, 681, 682, 683, 684, 685] (by decide +kernel) (by decide +kernel)
set_option maxRecDepth 20000 in
theorem gL_law_X6_of : GoodIn wsL_law (wsV RL 53 RX6 yX6_of wsX6_of) := goodIn_app (goodIn_of _ (by decide +kernel)) ggL_law_X6_of
set_option maxRecDepth 20000 in
theorem ggL_law_X5_node : GoodIn wsL_law wsX5_node := goodIn_r _ [353, 24, 106, 107, 2, 108, 88, 89, 90, 109, 110, 111, 112, 15, 113, 114, 115, 116, 117, 23, 118, 119, 49, 50, 120, 69, 70, 71, 121, 122, 123, 124, 125, 126, 127, 128, 129, 141, 142, 143, 144, 145, 146, 147, 148, 149, 150, 304, 305, 306, 307, 308, 309, 310, 133, 134, 135, 136, 285, 286, 287, 288, 354, 355, 356, 357, 282, 283, 284, 130, 131, 132, 358, 359, 360, 665, 666, 667, 668, 669, 670, 671, 672, 686, 687, 690, 691] (by decide +kernel) (by decide +kernel)
set_option maxRecDepth 20000 in
theorem gL_law_X5_node : GoodIn wsL_law (wsV RL 54 RX5 yX5_node wsX5_node) := goodIn_app (goodIn_of _ (by decide +kernel)) ggL_law_X5_node
set_option maxRecDepth 20000 in
theorem ggL_law_X6_node : GoodIn wsL_law wsX6_node := goodIn_r _ [364, 155, 156, 5, 157, 95, 96, 97, 158, 159, 160, 161, 76, 168, 169, 170, 171, 98, 99, 100, 101, 344, 345, 346, 347, 348, 349, 333, 334, 335, 162, 163, 164, 165, 166, 167, 172, 173, 174, 324, 325, 326, 327, 328, 329, 330, 331, 332, 365, 366, 367, 293, 294, 295, 368, 369, 370, 673, 674, 675, 676, 677, 678, 679, 680, 681, 682, 683, 684, 685] (by decide +kernel) (by decide +kernel)
set_option maxRecDepth 20000 in
theorem gL_law_X6_node : GoodIn wsL_law (wsV RL 57 RX6 yX6_node wsX6_node) := goodIn_app (goodIn_of _ (by decide +kernel)) ggL_law_X6_node
set_option maxRecDepth 20000 in
theorem ggL_law_X5_pair : GoodIn wsL_law wsX5_pair := goodIn_r _ [374, 24, 106, 107, 2, 108, 88, 89, 90, 109, 110, 111, 112, 15, 113, 114, 115, 116, 117, 23, 118, 119, 49, 50, 120, 69, 70, 71, 121, 122, 123, 124, 125, 126, 127, 128, 129, 134, 135, 136, 308, 309, 310, 133, 285, 286, 287, 288, 144, 145, 146, 147, 148, 149, 150, 375, 376, 377, 665, 666, 667, 668, 669, 670, 671, 672, 686, 687, 690, 691] (by decide +kernel) (by decide +kernel)
set_option maxRecDepth 20000 in
theorem gL_law_X5_pair : GoodIn wsL_law (wsV RL 58 RX5 yX5_pair wsX5_pair) := goodIn_app (goodIn_of _ (by decide +kernel)) ggL_law_X5_pair
set_option maxRecDepth 20000 in
theorem ggL_law_X6_pair : GoodIn wsL_law wsX6_pair := goodIn_r _ [381, 155, 156, 5, 157, 95, 96, 97, 158, 159, 160, 161, 76, 168, 169, 170, 171, 98, 99, 100, 101, 333, 334, 335, 162, 163, 164, 165, 166, 167, 327, 328, 329, 330, 331, 332, 382, 383, 384, 347, 348, 349, 172, 173, 174, 673, 674, 675, 676, 677, 678, 679, 680, 681, 682, 683, 684, 685] (by decide +kernel) (by decide +kernel)
set_option maxRecDepth 20000 in
theorem gL_law_X6_pair : GoodIn wsL_law (wsV RL 61 RX6 yX6_pair wsX6_pair) := goodIn_app (goodIn_of _ (by decide +kernel)) ggL_law_X6_pair
set_option maxRecDepth 20000 in
theorem ggL_law_X5_fewest : GoodIn wsL_law wsX5_fewest := goodIn_r _ [388, 24, 15, 25, 106, 107, 2, 108, 88, 89, 90, 113, 114, 115, 116, 117, 23, 118, 119, 49, 50, 120, 69, 70, 71, 121, 122, 123, 124, 125, 126, 127, 128, 129, 179, 389, 390, 391, 392, 393, 394, 395, 357, 282, 283, 284, 285, 286, 287, 288, 137, 138, 139, 140, 141, 142, 143, 144, 145, 146, 147, 148, 149, 150, 665, 666, 667, 668, 669, 670, 671, 672, 686, 687, 690, 691] (by decide +kernel) (by decide +kernel)
set_option maxRecDepth 20000 in
theorem gL_law_X5_fewest : GoodIn wsL_law (wsV RL 62 RX5 yX5_fewest wsX5_fewest) := goodIn_app (goodIn_of _ (by decide +kernel)) ggL_law_X5_fewest
set_option maxRecDepth 20000 in
theorem ggL_law_X6_fewest : GoodIn wsL_law wsX6_fewest := goodIn_r _ [399, 400, 401, 402, 155, 156, 5, 157, 95, 96, 97, 98, 99, 100, 101, 76, 168, 169, 170, 171, 293, 294, 295, 162, 163, 164, 165, 166, 167, 172, 173, 174, 673, 674, 675, 676, 677, 678, 679, 680, 681, 682, 683, 684, 685] (by decide +kernel) (by decide +kernel)
set_option maxRecDepth 20000 in
theorem gL_law_X6_fewest : GoodIn wsL_law (wsV RL 65 RX6 yX6_fewest wsX6_fewest) := goodIn_app (goodIn_of _ (by decide +kernel)) ggL_law_X6_fewest
set_option maxRecDepth 20000 in
theorem ggL_law_X5_even : GoodIn wsL_law wsX5_even := goodIn_r _ [406, 24, 106, 107, 2, 108, 88, 89, 90, 113, 114, 115, 116, 15, 117, 23, 118, 119, 49, 50, 120, 69, 70, 71, 121, 122, 123, 124, 125, 126, 127, 128, 129, 407, 408, 409, 410, 25, 389, 390, 391, 392, 393, 394, 395, 357, 282, 283, 284, 285, 286, 287, 288, 411, 412, 413, 414, 314, 315, 316, 140, 141, 142, 143, 144, 145, 146, 147, 148, 149, 150, 415, 416, 417, 418, 419, 420, 421, 133, 134, 135, 136, 422, 375, 376, 377, 423, 424, 425, 426, 665, 666, 667, 668, 669, 670, 671, 672, 686, 687, 690, 691] (by decide +kernel) (by decide +kernel)
set_option maxRecDepth 20000 in
theorem gL_law_X5_even : GoodIn wsL_law (wsV RL 66 RX5 yX5_even wsX5_even) := goodIn_app (goodIn_of _ (by decide +kernel)) ggL_law_X5_even
set_option maxRecDepth 20000 in
theorem ggL_law_X6_even : GoodIn wsL_law wsX6_even := goodIn_r _ [430, 402, 401, 155, 156, 5, 157, 95, 96, 97, 431, 432, 433, 434, 98, 99, 100, 101, 76, 168, 169, 170, 171, 293, 294, 295, 162, 163, 164, 165, 166, 167, 340, 341, 342, 343, 344, 345, 346, 347, 348, 349, 333, 334, 335, 172, 173, 174, 435, 436, 437, 438, 673, 674, 675, 676, 677, 678, 679, 680, 681, 682, 683, 684, 685] (by decide +kernel) (by decide +kernel)
set_option maxRecDepth 20000 in
theorem gL_law_X6_even : GoodIn wsL_law (wsV RL 69 RX6 yX6_even wsX6_even) := goodIn_app (goodIn_of _ (by decide +kernel)) ggL_law_X6_even
set_option maxRecDepth 20000 in
theorem ggL_law_X5_by : GoodIn wsL_law wsX5_by := goodIn_r _ [442, 24, 106, 107, 2, 108, 88, 89, 90, 113, 114, 115, 116, 15, 117, 23, 118, 119, 49, 50, 120, 69, 70, 71, 121, 122, 123, 124, 125, 126, 127, 128, 129, 423, 424, 425, 426, 25, 389, 390, 391, 392, 393, 394, 395, 357, 282, 283, 284, 285, 286, 287, 288, 411, 412, 413, 414, 314, 315, 316, 140, 141, 142, 143, 144, 145, 146, 147, 148, 149, 150, 407, 408, 409, 410, 415, 416, 417, 418, 419, 420, 421, 133, 134, 135, 136, 422, 375, 376, 377, 665, 666, 667, 668, 669, 670, 671, 672, 686, 687, 690, 691] (by decide +kernel) (by decide +kernel)
set_option maxRecDepth 20000 in
theorem gL_law_X5_by : GoodIn wsL_law (wsV RL 70 RX5 yX5_by wsX5_by) := goodIn_app (goodIn_of _ (by decide +kernel)) ggL_law_X5_by
set_option maxRecDepth 20000 in
theorem ggL_law_X6_by : GoodIn wsL_law wsX6_by := goodIn_r _ [446, 402, 401, 155, 156, 5, 157, 95, 96, 97, 431, 432, 433, 434, 98, 99, 100, 101, 76, 168, 169, 170, 171, 293, 294, 295, 162, 163, 164, 165, 166, 167, 447, 448, 449, 450, 344, 345, 346, 347, 348, 349, 333, 334, 335, 172, 173, 174, 435, 436, 437, 438, 451, 452, 453, 454, 382, 383, 384, 673, 674, 675, 676, 677, 678, 679, 680, 681, 682, 683, 684, 685] (by decide +kernel) (by decide +kernel)
set_option maxRecDepth 20000 in
theorem gL_law_X6_by : GoodIn wsL_law (wsV RL 73 RX6 yX6_by wsX6_by) := goodIn_app (goodIn_of _ (by decide +kernel)) ggL_law_X6_by
set_option maxRecDepth 20000 in
theorem ggL_law_X5_compare : GoodIn wsL_law wsX5_compare := goodIn_r _ [458, 24, 25, 29, 106, 107, 2, 108, 88, 89, 90, 459, 460, 461, 462, 113, 114, 115, 116, 15, 117, 23, 118, 119, 49, 50, 120, 69, 70, 71, 121, 122, 123, 124, 125, 126, 127, 128, 129, 282, 283, 284, 285, 286, 287, 288, 130, 131, 132, 133, 134, 135, 136, 463, 28, 464, 465, 54, 466, 467, 468, 469, 470, 471, 141, 142, 143, 144, 145, 146, 147, 148, 149, 150, 472, 473, 474, 475, 476, 477, 478, 479, 480, 481, 482, 354, 355, 356, 357, 483, 484, 485, 486, 487, 488, 489, 490, 491, 492, 493, 494, 495, 496, 497, 498, 499, 500, 665, 666, 667, 668, 669, 670, 671, 672, 690, 691, 686, 687, 692] (by decide +kernel) (by decide +kernel)
set_option maxRecDepth 20000 in
theorem gL_law_X5_compare : GoodIn wsL_law (wsV RL 74 RX5 yX5_compare wsX5_compare) := goodIn_app (goodIn_of _ (by decide +kernel)) ggL_law_X5_compare
set_option maxRecDepth 20000 in
theorem ggL_law_X6_compare : GoodIn wsL_law wsX6_compare := goodIn_r _ [504, 155, 156, 5, 157, 95, 96, 97, 168, 169, 170, 171, 76, 505, 506, 507, 508, 98, 99, 100, 101, 347, 348, 349, 333, 334, 335, 162, 163, 164, 165, 166, 167, 293, 294, 295, 509, 510, 511, 512, 365, 366, 367, 513, 514, 515, 516, 517, 518, 519, 81, 82, 520, 521, 522, 523, 673, 674, 675, 676, 677, 678, 679, 680, 681, 682, 683, 684, 685] (by decide +kernel) (by decide +kernel)
set_option maxRecDepth 20000 in
theorem gL_law_X6_compare : GoodIn wsL_law (wsV RL 77 RX6 yX6_compare wsX6_compare) := goodIn_app (goodIn_of _ (by decide +kernel)) ggL_law_X6_compare
set_option maxRecDepth 20000 in
theorem ggL_law_X5_kind : GoodIn wsL_law wsX5_kind := goodIn_r _ [527, 24, 29, 25, 106, 107, 2, 108, 88, 89, 90, 472, 473, 474, 475, 113, 114, 115, 116, 15, 117, 23, 118, 119, 49, 50, 120, 69, 70, 71, 121, 122, 123, 124, 125, 126, 127, 128, 129, 476, 28, 477, 478, 54, 479, 480, 481, 482, 354, 355, 356, 357, 282, 283, 284, 285, 286, 287, 288, 483, 484, 485, 486, 487, 488, 134, 135, 136, 489, 490, 491, 492, 493, 494, 495, 496, 497, 498, 499, 500, 528, 529, 530, 389, 390, 391, 392, 393, 394, 395, 466, 467, 468, 469, 470, 471, 141, 142, 143, 144, 145, 146, 147, 148, 149, 150, 531, 532, 533, 534, 535, 536, 537, 538, 665, 666, 667, 668, 669, 670, 671, 672, 686, 687, 690, 691, 692] (by decide +kernel) (by decide +kernel)
set_option maxRecDepth 20000 in
theorem gL_law_X5_kind : GoodIn wsL_law (wsV RL 78 RX5 yX5_kind wsX5_kind) := goodIn_app (goodIn_of _ (by decide +kernel)) ggL_law_X5_kind
set_option maxRecDepth 20000 in
theorem ggL_law_X6_kind : GoodIn wsL_law wsX6_kind := goodIn_r _ [542, 155, 156, 5, 157, 95, 96, 97, 168, 169, 170, 171, 76, 98, 99, 100, 101, 543, 544, 545, 546, 81, 365, 366, 367, 347, 348, 349, 333, 334, 335, 162, 163, 164, 165, 166, 167, 293, 294, 295, 513, 514, 515, 516, 517, 518, 519, 82, 520, 521, 522, 523, 509, 510, 511, 512, 673, 674, 675, 676, 677, 678, 679, 680, 681, 682, 683, 684, 685] (by decide +kernel) (by decide +kernel)
set_option maxRecDepth 20000 in
theorem gL_law_X6_kind : GoodIn wsL_law (wsV RL 81 RX6 yX6_kind wsX6_kind) := goodIn_app (goodIn_of _ (by decide +kernel)) ggL_law_X6_kind
set_option maxRecDepth 20000 in
theorem ggL_law_X5_card : GoodIn wsL_law wsX5_card := goodIn_r _ [550, 15, 24, 29, 106, 107, 2, 108, 88, 89, 90, 109, 110, 111, 112, 113, 114, 115, 116, 117, 23, 118, 119, 49, 50, 120, 69, 70, 71, 121, 122, 123, 124, 125, 126, 127, 128, 129, 358, 359, 360, 476, 28, 477, 478, 54, 479, 480, 481, 482, 354, 355, 356, 357, 282, 283, 284, 285, 286, 287, 288, 483, 484, 485, 486, 487, 488, 134, 135, 136, 489, 490, 491, 492, 493, 494, 495, 496, 497, 498, 499, 500, 665, 666, 667, 668, 669, 670, 671, 672, 686, 687, 690, 691, 692] (by decide +kernel) (by decide +kernel)
set_option maxRecDepth 20000 in
theorem gL_law_X5_card : GoodIn wsL_law (wsV RL 82 RX5 yX5_card wsX5_card) := goodIn_app (goodIn_of _ (by decide +kernel)) ggL_law_X5_card
set_option maxRecDepth 20000 in
theorem ggL_law_X6_card : GoodIn wsL_law wsX6_card := goodIn_r _ [554, 155, 156, 5, 157, 95, 96, 97, 158, 159, 160, 161, 76, 98, 99, 100, 101, 168, 169, 170, 171, 368, 369, 370, 333, 334, 335, 162, 163, 164, 165, 166, 167, 543, 544, 545, 546, 81, 365, 366, 367, 347, 348, 349, 293, 294, 295, 513, 514, 515, 516, 517, 518, 519, 82, 520, 521, 522, 523, 673, 674, 675, 676, 677, 678, 679, 680, 681, 682, 683, 684, 685] (by decide +kernel) (by decide +kernel)
set_option maxRecDepth 20000 in
theorem gL_law_X6_card : GoodIn wsL_law (wsV RL 85 RX6 yX6_card wsX6_card) := goodIn_app (goodIn_of _ (by decide +kernel)) ggL_law_X6_card
set_option maxRecDepth 20000 in
theorem ggL_law_X5_root : GoodIn wsL_law wsX5_root := goodIn_r _ [558, 559, 560, 24, 33, 15, 106, 107, 2, 108, 88, 89, 90, 113, 114, 115, 116, 117, 23, 118, 119, 49, 50, 120, 69, 70, 71, 121, 122, 123, 124, 125, 126, 127, 128, 129, 561, 32, 562, 563, 58, 64, 134, 135, 136, 564, 565, 566, 59, 60, 61, 567, 568, 569, 570, 571, 572, 573, 574, 575, 576, 577, 578, 579, 580, 581, 665, 666, 667, 668, 669, 670, 671, 672, 686, 687, 693, 694, 695, 696, 697, 690, 691] (by decide +kernel) (by decide +kernel)
set_option maxRecDepth 20000 in
theorem gL_law_X5_root : GoodIn wsL_law (wsV RL 86 RX5 yX5_root wsX5_root) := goodIn_app (goodIn_of _ (by decide +kernel)) ggL_law_X5_root
set_option maxRecDepth 20000 in
theorem ggL_law_X6_root : GoodIn wsL_law wsX6_root := goodIn_r _ [585, 586, 587, 588, 589, 155, 156, 5, 157, 95, 96, 97, 168, 169, 170, 171, 76, 590, 591, 592, 593, 83, 98, 99, 100, 101, 333, 334, 335, 162, 163, 164, 165, 166, 167, 594, 595, 596, 597, 598, 599, 600, 601, 602, 603, 604, 605, 606, 607, 608, 609, 673, 674, 675, 676, 677, 678, 679, 680, 681, 682, 683, 684, 685] (by decide +kernel) (by decide +kernel)
set_option maxRecDepth 20000 in
theorem gL_law_X6_root : GoodIn wsL_law (wsV RL 90 RX6 yX6_root wsX6_root) := goodIn_app (goodIn_of _ (by decide +kernel)) ggL_law_X6_root
set_option maxRecDepth 20000 in
theorem ggL_law_X5_image : GoodIn wsL_law wsX5_image := goodIn_r _ [613, 16, 15, 88, 89, 2, 90, 614, 14, 615, 616, 39, 40, 617, 393, 394, 395, 665, 666, 667, 668, 669, 670, 671, 672, 686, 687] (by decide +kernel) (by decide +kernel)
set_option maxRecDepth 20000 in
theorem gL_law_X5_image : GoodIn wsL_law (wsV RL 91 RX5 yX5_image wsX5_image) := goodIn_app (goodIn_of _ (by decide +kernel)) ggL_law_X5_image
set_option maxRecDepth 20000 in
theorem ggL_law_X6_image : GoodIn wsL_law wsX6_image := goodIn_r _ [621, 77, 76, 79, 95, 96, 5, 97, 673, 674, 675, 676, 677, 678, 679, 680, 681, 682, 683, 684, 685] (by decide +kernel) (by decide +kernel)
set_option maxRecDepth 20000 in
theorem gL_law_X6_image : GoodIn wsL_law (wsV RL 94 RX6 yX6_image wsX6_image) := goodIn_app (goodIn_of _ (by decide +kernel)) ggL_law_X6_image
set_option maxRecDepth 20000 in
theorem ggL_law_X5_restore : GoodIn wsL_law wsX5_restore := goodIn_r _ [625, 16, 15, 88, 89, 2, 90, 626, 14, 627, 628, 39, 614, 615, 616, 40, 617, 393, 394, 395, 665, 666, 667, 668, 669, 670, 671, 672, 686, 687] (by decide +kernel) (by decide +kernel)
set_option maxRecDepth 20000 in
theorem gL_law_X5_restore : GoodIn wsL_law (wsV RL 95 RX5 yX5_restore wsX5_restore) := goodIn_app (goodIn_of _ (by decide +kernel)) ggL_law_X5_restore
set_option maxRecDepth 20000 in
theorem ggL_law_X6_restore : GoodIn wsL_law wsX6_restore := goodIn_r _ [632, 79, 76, 77, 95, 96, 5, 97, 673, 674, 675, 676, 677, 678, 679, 680, 681, 682, 683, 684, 685] (by decide +kernel) (by decide +kernel)
set_option maxRecDepth 20000 in
theorem gL_law_X6_restore : GoodIn wsL_law (wsV RL 98 RX6 yX6_restore wsX6_restore) := goodIn_app (goodIn_of _ (by decide +kernel)) ggL_law_X6_restore
set_option maxRecDepth 20000 in
theorem ggL_law_X5_count : GoodIn wsL_law wsX5_count := goodIn_r _ [636, 15, 20, 179, 124, 2, 125, 212, 213, 214, 637, 638, 639, 640, 24, 35, 113, 114, 115, 116, 117, 23, 118, 119, 49, 50, 120, 69, 70, 71, 121, 122, 123, 126, 127, 128, 129, 354, 355, 356, 357, 282, 283, 284, 285, 286, 287, 288, 130, 131, 132, 133, 134, 135, 136, 641, 642, 643, 644, 645, 646, 647, 648, 649, 650, 651, 652, 472, 473, 474, 475, 29, 476, 28, 477, 478, 54, 479, 480, 481, 482, 483, 484, 485, 486, 487, 488, 489, 490, 491, 492, 493, 494, 495, 496, 497, 498, 499, 500, 653, 654, 655, 656, 16, 626, 14, 627, 628, 39, 665, 666, 667, 668, 669, 670, 671, 672, 686, 687, 688, 689, 690, 691, 692] (by decide +kernel) (by decide +kernel)
set_option maxRecDepth 20000 in
theorem gL_law_X5_count : GoodIn wsL_law (wsV RL 99 RX5 yX5_count wsX5_count) := goodIn_app (goodIn_of _ (by decide +kernel)) ggL_law_X5_count
set_option maxRecDepth 20000 in
theorem ggL_law_X6_count : GoodIn wsL_law wsX6_count := goodIn_r _ [660, 195, 79, 98, 99, 100, 5, 101, 76, 165, 166, 167, 226, 227, 228, 661, 662, 663, 664, 168, 169, 170, 171, 509, 510, 511, 512, 365, 366, 367, 347, 348, 349, 333, 334, 335, 162, 163, 164, 293, 294, 295, 513, 514, 515, 516, 517, 518, 519, 81, 82, 520, 521, 522, 523, 505, 506, 507, 508, 673, 674, 675, 676, 677, 678, 679, 680, 681, 682, 683, 684, 685] (by decide +kernel) (by decide +kernel)
set_option maxRecDepth 20000 in
theorem gL_law_X6_count : GoodIn wsL_law (wsV RL 102 RX6 yX6_count wsX6_count) := goodIn_app (goodIn_of _ (by decide +kernel)) ggL_law_X6_count
theorem dL_law_0 : decode cL_law 0 = .ok (.new 7, 3) := by decide +kernel
theorem dL_law_3 : decode cL_law 3 = .ok (.dup, 1) := by decide +kernel
theorem dL_law_4 : decode cL_law 4 = .ok (.invokespecial 9, 3) := by decide +kernel
theorem dL_law_7 : decode cL_law 7 = .ok (.astore_n 1, 1) := by decide +kernel
theorem dL_law_8 : decode cL_law 8 = .ok (.new 10, 3) := by decide +kernel
theorem dL_law_11 : decode cL_law 11 = .ok (.dup, 1) := by decide +kernel
theorem dL_law_12 : decode cL_law 12 = .ok (.invokespecial 12, 3) := by decide +kernel
theorem dL_law_15 : decode cL_law 15 = .ok (.astore_n 2, 1) := by decide +kernel
theorem dL_law_16 : decode cL_law 16 = .ok (.iconst 0, 1) := by decide +kernel
theorem dL_law_17 : decode cL_law 17 = .ok (.istore_n 3, 1) := by decide +kernel
theorem dL_law_18 : decode cL_law 18 = .ok (.iload_n 3, 1) := by decide +kernel
theorem dL_law_19 : decode cL_law 19 = .ok (.aload_n 0, 1) := by decide +kernel
theorem dL_law_20 : decode cL_law 20 = .ok (.arraylength, 1) := by decide +kernel
theorem dL_law_21 : decode cL_law 21 = .ok (.iconst 5, 1) := by decide +kernel
theorem dL_law_22 : decode cL_law 22 = .ok (.isub, 1) := by decide +kernel
theorem dL_law_23 : decode cL_law 23 = .ok (.if_icmp .gt 819, 3) := by decide +kernel
theorem dL_law_26 : decode cL_law 26 = .ok (.aload_n 0, 1) := by decide +kernel
theorem dL_law_27 : decode cL_law 27 = .ok (.iload_n 3, 1) := by decide +kernel
theorem dL_law_28 : decode cL_law 28 = .ok (.iaload, 1) := by decide +kernel
theorem dL_law_29 : decode cL_law 29 = .ok (.bipush 31, 2) := by decide +kernel
theorem dL_law_31 : decode cL_law 31 = .ok (.iand, 1) := by decide +kernel
theorem dL_law_32 : decode cL_law 32 = .ok (.tableswitch 804 0 20 #[100, 123, 176, 209, 232, 245, 268, 301, 344, 377, 420, 473, 506, 539, 582, 625, 658, 691, 735, 758, 781], 100) := by decide +kernel
theorem dL_law_132 : decode cL_law 132 = .ok (.aload_n 1, 1) := by decide +kernel
theorem dL_law_133 : decode cL_law 133 = .ok (.aload_n 0, 1) := by decide +kernel
theorem dL_law_134 : decode cL_law 134 = .ok (.iload_n 3, 1) := by decide +kernel
theorem dL_law_135 : decode cL_law 135 = .ok (.iconst 1, 1) := by decide +kernel
theorem dL_law_136 : decode cL_law 136 = .ok (.iadd, 1) := by decide +kernel
theorem dL_law_137 : decode cL_law 137 = .ok (.iaload, 1) := by decide +kernel
theorem dL_law_138 : decode cL_law 138 = .ok (.invokevirtual 13, 3) := by decide +kernel
theorem dL_law_141 : decode cL_law 141 = .ok (.aload_n 2, 1) := by decide +kernel
theorem dL_law_142 : decode cL_law 142 = .ok (.aload_n 0, 1) := by decide +kernel
theorem dL_law_143 : decode cL_law 143 = .ok (.iload_n 3, 1) := by decide +kernel
theorem dL_law_144 : decode cL_law 144 = .ok (.iconst 1, 1) := by decide +kernel
theorem dL_law_145 : decode cL_law 145 = .ok (.iadd, 1) := by decide +kernel
theorem dL_law_146 : decode cL_law 146 = .ok (.iaload, 1) := by decide +kernel
theorem dL_law_147 : decode cL_law 147 = .ok (.invokevirtual 17, 3) := by decide +kernel
theorem dL_law_150 : decode cL_law 150 = .ok (.if_icmp .eq 686, 3) := by decide +kernel
theorem dL_law_153 : decode cL_law 153 = .ok (.iconst 0, 1) := by decide +kernel
theorem dL_law_154 : decode cL_law 154 = .ok (.ireturn, 1) := by decide +kernel
theorem dL_law_155 : decode cL_law 155 = .ok (.aload_n 1, 1) := by decide +kernel
theorem dL_law_156 : decode cL_law 156 = .ok (.aload_n 0, 1) := by decide +kernel
theorem dL_law_157 : decode cL_law 157 = .ok (.iload_n 3, 1) := by decide +kernel
theorem dL_law_158 : decode cL_law 158 = .ok (.iconst 1, 1) := by decide +kernel
theorem dL_law_159 : decode cL_law 159 = .ok (.iadd, 1) := by decide +kernel
theorem dL_law_160 : decode cL_law 160 = .ok (.iaload, 1) := by decide +kernel
theorem dL_law_161 : decode cL_law 161 = .ok (.aload_n 0, 1) := by decide +kernel
theorem dL_law_162 : decode cL_law 162 = .ok (.iload_n 3, 1) := by decide +kernel
theorem dL_law_163 : decode cL_law 163 = .ok (.iconst 2, 1) := by decide +kernel
theorem dL_law_164 : decode cL_law 164 = .ok (.iadd, 1) := by decide +kernel
theorem dL_law_165 : decode cL_law 165 = .ok (.iaload, 1) := by decide +kernel
theorem dL_law_166 : decode cL_law 166 = .ok (.aload_n 0, 1) := by decide +kernel
theorem dL_law_167 : decode cL_law 167 = .ok (.iload_n 3, 1) := by decide +kernel
theorem dL_law_168 : decode cL_law 168 = .ok (.iconst 3, 1) := by decide +kernel
theorem dL_law_169 : decode cL_law 169 = .ok (.iadd, 1) := by decide +kernel
theorem dL_law_170 : decode cL_law 170 = .ok (.iaload, 1) := by decide +kernel
theorem dL_law_171 : decode cL_law 171 = .ok (.aload_n 0, 1) := by decide +kernel
theorem dL_law_172 : decode cL_law 172 = .ok (.iload_n 3, 1) := by decide +kernel
theorem dL_law_173 : decode cL_law 173 = .ok (.iconst 4, 1) := by decide +kernel
theorem dL_law_174 : decode cL_law 174 = .ok (.iadd, 1) := by decide +kernel
theorem dL_law_175 : decode cL_law 175 = .ok (.iaload, 1) := by decide +kernel
theorem dL_law_176 : decode cL_law 176 = .ok (.invokevirtual 18, 3) := by decide +kernel
theorem dL_law_179 : decode cL_law 179 = .ok (.aload_n 2, 1) := by decide +kernel
theorem dL_law_180 : decode cL_law 180 = .ok (.aload_n 0, 1) := by decide +kernel
theorem dL_law_181 : decode cL_law 181 = .ok (.iload_n 3, 1) := by decide +kernel
theorem dL_law_182 : decode cL_law 182 = .ok (.iconst 1, 1) := by decide +kernel
theorem dL_law_183 : decode cL_law 183 = .ok (.iadd, 1) := by decide +kernel
theorem dL_law_184 : decode cL_law 184 = .ok (.iaload, 1) := by decide +kernel
theorem dL_law_185 : decode cL_law 185 = .ok (.aload_n 0, 1) := by decide +kernel
theorem dL_law_186 : decode cL_law 186 = .ok (.iload_n 3, 1) := by decide +kernel
theorem dL_law_187 : decode cL_law 187 = .ok (.iconst 2, 1) := by decide +kernel
theorem dL_law_188 : decode cL_law 188 = .ok (.iadd, 1) := by decide +kernel
theorem dL_law_189 : decode cL_law 189 = .ok (.iaload, 1) := by decide +kernel
theorem dL_law_190 : decode cL_law 190 = .ok (.aload_n 0, 1) := by decide +kernel
theorem dL_law_191 : decode cL_law 191 = .ok (.iload_n 3, 1) := by decide +kernel
theorem dL_law_192 : decode cL_law 192 = .ok (.iconst 3, 1) := by decide +kernel
theorem dL_law_193 : decode cL_law 193 = .ok (.iadd, 1) := by decide +kernel
theorem dL_law_194 : decode cL_law 194 = .ok (.iaload, 1) := by decide +kernel
theorem dL_law_195 : decode cL_law 195 = .ok (.aload_n 0, 1) := by decide +kernel
theorem dL_law_196 : decode cL_law 196 = .ok (.iload_n 3, 1) := by decide +kernel
theorem dL_law_197 : decode cL_law 197 = .ok (.iconst 4, 1) := by decide +kernel
theorem dL_law_198 : decode cL_law 198 = .ok (.iadd, 1) := by decide +kernel
theorem dL_law_199 : decode cL_law 199 = .ok (.iaload, 1) := by decide +kernel
theorem dL_law_200 : decode cL_law 200 = .ok (.invokevirtual 22, 3) := by decide +kernel
theorem dL_law_203 : decode cL_law 203 = .ok (.if_icmp .eq 633, 3) := by decide +kernel
theorem dL_law_206 : decode cL_law 206 = .ok (.iconst 0, 1) := by decide +kernel
theorem dL_law_207 : decode cL_law 207 = .ok (.ireturn, 1) := by decide +kernel
theorem dL_law_208 : decode cL_law 208 = .ok (.aload_n 1, 1) := by decide +kernel
theorem dL_law_209 : decode cL_law 209 = .ok (.aload_n 0, 1) := by decide +kernel
theorem dL_law_210 : decode cL_law 210 = .ok (.iload_n 3, 1) := by decide +kernel
theorem dL_law_211 : decode cL_law 211 = .ok (.iconst 1, 1) := by decide +kernel
theorem dL_law_212 : decode cL_law 212 = .ok (.iadd, 1) := by decide +kernel
theorem dL_law_213 : decode cL_law 213 = .ok (.iaload, 1) := by decide +kernel
theorem dL_law_214 : decode cL_law 214 = .ok (.aload_n 0, 1) := by decide +kernel
theorem dL_law_215 : decode cL_law 215 = .ok (.iload_n 3, 1) := by decide +kernel
theorem dL_law_216 : decode cL_law 216 = .ok (.iconst 2, 1) := by decide +kernel
theorem dL_law_217 : decode cL_law 217 = .ok (.iadd, 1) := by decide +kernel
theorem dL_law_218 : decode cL_law 218 = .ok (.iaload, 1) := by decide +kernel
theorem dL_law_219 : decode cL_law 219 = .ok (.invokevirtual 23, 3) := by decide +kernel
theorem dL_law_222 : decode cL_law 222 = .ok (.aload_n 2, 1) := by decide +kernel
theorem dL_law_223 : decode cL_law 223 = .ok (.aload_n 0, 1) := by decide +kernel
theorem dL_law_224 : decode cL_law 224 = .ok (.iload_n 3, 1) := by decide +kernel
theorem dL_law_225 : decode cL_law 225 = .ok (.iconst 1, 1) := by decide +kernel
theorem dL_law_226 : decode cL_law 226 = .ok (.iadd, 1) := by decide +kernel
theorem dL_law_227 : decode cL_law 227 = .ok (.iaload, 1) := by decide +kernel
theorem dL_law_228 : decode cL_law 228 = .ok (.aload_n 0, 1) := by decide +kernel
theorem dL_law_229 : decode cL_law 229 = .ok (.iload_n 3, 1) := by decide +kernel
theorem dL_law_230 : decode cL_law 230 = .ok (.iconst 2, 1) := by decide +kernel
theorem dL_law_231 : decode cL_law 231 = .ok (.iadd, 1) := by decide +kernel
theorem dL_law_232 : decode cL_law 232 = .ok (.iaload, 1) := by decide +kernel
theorem dL_law_233 : decode cL_law 233 = .ok (.invokevirtual 27, 3) := by decide +kernel
theorem dL_law_236 : decode cL_law 236 = .ok (.if_icmp .eq 600, 3) := by decide +kernel
theorem dL_law_239 : decode cL_law 239 = .ok (.iconst 0, 1) := by decide +kernel
theorem dL_law_240 : decode cL_law 240 = .ok (.ireturn, 1) := by decide +kernel
theorem dL_law_241 : decode cL_law 241 = .ok (.aload_n 1, 1) := by decide +kernel
theorem dL_law_242 : decode cL_law 242 = .ok (.aload_n 0, 1) := by decide +kernel
theorem dL_law_243 : decode cL_law 243 = .ok (.iload_n 3, 1) := by decide +kernel
theorem dL_law_244 : decode cL_law 244 = .ok (.iconst 1, 1) := by decide +kernel
theorem dL_law_245 : decode cL_law 245 = .ok (.iadd, 1) := by decide +kernel
theorem dL_law_246 : decode cL_law 246 = .ok (.iaload, 1) := by decide +kernel
theorem dL_law_247 : decode cL_law 247 = .ok (.invokevirtual 28, 3) := by decide +kernel
theorem dL_law_250 : decode cL_law 250 = .ok (.aload_n 2, 1) := by decide +kernel
theorem dL_law_251 : decode cL_law 251 = .ok (.aload_n 0, 1) := by decide +kernel
theorem dL_law_252 : decode cL_law 252 = .ok (.iload_n 3, 1) := by decide +kernel
theorem dL_law_253 : decode cL_law 253 = .ok (.iconst 1, 1) := by decide +kernel
theorem dL_law_254 : decode cL_law 254 = .ok (.iadd, 1) := by decide +kernel
theorem dL_law_255 : decode cL_law 255 = .ok (.iaload, 1) := by decide +kernel
theorem dL_law_256 : decode cL_law 256 = .ok (.invokevirtual 31, 3) := by decide +kernel
theorem dL_law_259 : decode cL_law 259 = .ok (.if_icmp .eq 577, 3) := by decide +kernel
theorem dL_law_262 : decode cL_law 262 = .ok (.iconst 0, 1) := by decide +kernel
theorem dL_law_263 : decode cL_law 263 = .ok (.ireturn, 1) := by decide +kernel
theorem dL_law_264 : decode cL_law 264 = .ok (.aload_n 1, 1) := by decide +kernel
theorem dL_law_265 : decode cL_law 265 = .ok (.invokevirtual 32, 3) := by decide +kernel
theorem dL_law_268 : decode cL_law 268 = .ok (.aload_n 2, 1) := by decide +kernel
theorem dL_law_269 : decode cL_law 269 = .ok (.invokevirtual 36, 3) := by decide +kernel
theorem dL_law_272 : decode cL_law 272 = .ok (.if_icmp .eq 564, 3) := by decide +kernel
theorem dL_law_275 : decode cL_law 275 = .ok (.iconst 0, 1) := by decide +kernel
theorem dL_law_276 : decode cL_law 276 = .ok (.ireturn, 1) := by decide +kernel
theorem dL_law_277 : decode cL_law 277 = .ok (.aload_n 1, 1) := by decide +kernel
theorem dL_law_278 : decode cL_law 278 = .ok (.aload_n 0, 1) := by decide +kernel
theorem dL_law_279 : decode cL_law 279 = .ok (.iload_n 3, 1) := by decide +kernel
theorem dL_law_280 : decode cL_law 280 = .ok (.iconst 1, 1) := by decide +kernel
theorem dL_law_281 : decode cL_law 281 = .ok (.iadd, 1) := by decide +kernel
theorem dL_law_282 : decode cL_law 282 = .ok (.iaload, 1) := by decide +kernel
theorem dL_law_283 : decode cL_law 283 = .ok (.invokevirtual 37, 3) := by decide +kernel
theorem dL_law_286 : decode cL_law 286 = .ok (.aload_n 2, 1) := by decide +kernel
theorem dL_law_287 : decode cL_law 287 = .ok (.aload_n 0, 1) := by decide +kernel
theorem dL_law_288 : decode cL_law 288 = .ok (.iload_n 3, 1) := by decide +kernel
theorem dL_law_289 : decode cL_law 289 = .ok (.iconst 1, 1) := by decide +kernel
theorem dL_law_290 : decode cL_law 290 = .ok (.iadd, 1) := by decide +kernel
theorem dL_law_291 : decode cL_law 291 = .ok (.iaload, 1) := by decide +kernel
theorem dL_law_292 : decode cL_law 292 = .ok (.invokevirtual 40, 3) := by decide +kernel
theorem dL_law_295 : decode cL_law 295 = .ok (.if_icmp .eq 541, 3) := by decide +kernel
theorem dL_law_298 : decode cL_law 298 = .ok (.iconst 0, 1) := by decide +kernel
theorem dL_law_299 : decode cL_law 299 = .ok (.ireturn, 1) := by decide +kernel
theorem dL_law_300 : decode cL_law 300 = .ok (.aload_n 1, 1) := by decide +kernel
theorem dL_law_301 : decode cL_law 301 = .ok (.aload_n 0, 1) := by decide +kernel
theorem dL_law_302 : decode cL_law 302 = .ok (.iload_n 3, 1) := by decide +kernel
theorem dL_law_303 : decode cL_law 303 = .ok (.iconst 1, 1) := by decide +kernel
theorem dL_law_304 : decode cL_law 304 = .ok (.iadd, 1) := by decide +kernel
theorem dL_law_305 : decode cL_law 305 = .ok (.iaload, 1) := by decide +kernel
theorem dL_law_306 : decode cL_law 306 = .ok (.aload_n 0, 1) := by decide +kernel
theorem dL_law_307 : decode cL_law 307 = .ok (.iload_n 3, 1) := by decide +kernel
theorem dL_law_308 : decode cL_law 308 = .ok (.iconst 2, 1) := by decide +kernel
theorem dL_law_309 : decode cL_law 309 = .ok (.iadd, 1) := by decide +kernel
theorem dL_law_310 : decode cL_law 310 = .ok (.iaload, 1) := by decide +kernel
theorem dL_law_311 : decode cL_law 311 = .ok (.invokevirtual 41, 3) := by decide +kernel
theorem dL_law_314 : decode cL_law 314 = .ok (.aload_n 2, 1) := by decide +kernel
theorem dL_law_315 : decode cL_law 315 = .ok (.aload_n 0, 1) := by decide +kernel
theorem dL_law_316 : decode cL_law 316 = .ok (.iload_n 3, 1) := by decide +kernel
theorem dL_law_317 : decode cL_law 317 = .ok (.iconst 1, 1) := by decide +kernel
theorem dL_law_318 : decode cL_law 318 = .ok (.iadd, 1) := by decide +kernel
theorem dL_law_319 : decode cL_law 319 = .ok (.iaload, 1) := by decide +kernel
theorem dL_law_320 : decode cL_law 320 = .ok (.aload_n 0, 1) := by decide +kernel
theorem dL_law_321 : decode cL_law 321 = .ok (.iload_n 3, 1) := by decide +kernel
theorem dL_law_322 : decode cL_law 322 = .ok (.iconst 2, 1) := by decide +kernel
theorem dL_law_323 : decode cL_law 323 = .ok (.iadd, 1) := by decide +kernel
theorem dL_law_324 : decode cL_law 324 = .ok (.iaload, 1) := by decide +kernel
theorem dL_law_325 : decode cL_law 325 = .ok (.invokevirtual 44, 3) := by decide +kernel
theorem dL_law_328 : decode cL_law 328 = .ok (.if_icmp .eq 508, 3) := by decide +kernel
theorem dL_law_331 : decode cL_law 331 = .ok (.iconst 0, 1) := by decide +kernel
theorem dL_law_332 : decode cL_law 332 = .ok (.ireturn, 1) := by decide +kernel
theorem dL_law_333 : decode cL_law 333 = .ok (.aload_n 1, 1) := by decide +kernel
theorem dL_law_334 : decode cL_law 334 = .ok (.aload_n 0, 1) := by decide +kernel
theorem dL_law_335 : decode cL_law 335 = .ok (.iload_n 3, 1) := by decide +kernel
theorem dL_law_336 : decode cL_law 336 = .ok (.iconst 1, 1) := by decide +kernel
theorem dL_law_337 : decode cL_law 337 = .ok (.iadd, 1) := by decide +kernel
theorem dL_law_338 : decode cL_law 338 = .ok (.iaload, 1) := by decide +kernel
theorem dL_law_339 : decode cL_law 339 = .ok (.aload_n 0, 1) := by decide +kernel
theorem dL_law_340 : decode cL_law 340 = .ok (.iload_n 3, 1) := by decide +kernel
theorem dL_law_341 : decode cL_law 341 = .ok (.iconst 2, 1) := by decide +kernel
theorem dL_law_342 : decode cL_law 342 = .ok (.iadd, 1) := by decide +kernel
theorem dL_law_343 : decode cL_law 343 = .ok (.iaload, 1) := by decide +kernel
theorem dL_law_344 : decode cL_law 344 = .ok (.aload_n 0, 1) := by decide +kernel
theorem dL_law_345 : decode cL_law 345 = .ok (.iload_n 3, 1) := by decide +kernel
theorem dL_law_346 : decode cL_law 346 = .ok (.iconst 3, 1) := by decide +kernel
theorem dL_law_347 : decode cL_law 347 = .ok (.iadd, 1) := by decide +kernel
theorem dL_law_348 : decode cL_law 348 = .ok (.iaload, 1) := by decide +kernel
theorem dL_law_349 : decode cL_law 349 = .ok (.invokevirtual 45, 3) := by decide +kernel
theorem dL_law_352 : decode cL_law 352 = .ok (.aload_n 2, 1) := by decide +kernel
theorem dL_law_353 : decode cL_law 353 = .ok (.aload_n 0, 1) := by decide +kernel
theorem dL_law_354 : decode cL_law 354 = .ok (.iload_n 3, 1) := by decide +kernel
theorem dL_law_355 : decode cL_law 355 = .ok (.iconst 1, 1) := by decide +kernel
theorem dL_law_356 : decode cL_law 356 = .ok (.iadd, 1) := by decide +kernel
theorem dL_law_357 : decode cL_law 357 = .ok (.iaload, 1) := by decide +kernel
theorem dL_law_358 : decode cL_law 358 = .ok (.aload_n 0, 1) := by decide +kernel
theorem dL_law_359 : decode cL_law 359 = .ok (.iload_n 3, 1) := by decide +kernel
theorem dL_law_360 : decode cL_law 360 = .ok (.iconst 2, 1) := by decide +kernel
theorem dL_law_361 : decode cL_law 361 = .ok (.iadd, 1) := by decide +kernel
theorem dL_law_362 : decode cL_law 362 = .ok (.iaload, 1) := by decide +kernel
theorem dL_law_363 : decode cL_law 363 = .ok (.aload_n 0, 1) := by decide +kernel
theorem dL_law_364 : decode cL_law 364 = .ok (.iload_n 3, 1) := by decide +kernel
theorem dL_law_365 : decode cL_law 365 = .ok (.iconst 3, 1) := by decide +kernel
theorem dL_law_366 : decode cL_law 366 = .ok (.iadd, 1) := by decide +kernel
theorem dL_law_367 : decode cL_law 367 = .ok (.iaload, 1) := by decide +kernel
theorem dL_law_368 : decode cL_law 368 = .ok (.invokevirtual 49, 3) := by decide +kernel
theorem dL_law_371 : decode cL_law 371 = .ok (.if_icmp .eq 465, 3) := by decide +kernel
theorem dL_law_374 : decode cL_law 374 = .ok (.iconst 0, 1) := by decide +kernel
theorem dL_law_375 : decode cL_law 375 = .ok (.ireturn, 1) := by decide +kernel
theorem dL_law_376 : decode cL_law 376 = .ok (.aload_n 1, 1) := by decide +kernel
theorem dL_law_377 : decode cL_law 377 = .ok (.aload_n 0, 1) := by decide +kernel
theorem dL_law_378 : decode cL_law 378 = .ok (.iload_n 3, 1) := by decide +kernel
theorem dL_law_379 : decode cL_law 379 = .ok (.iconst 1, 1) := by decide +kernel
theorem dL_law_380 : decode cL_law 380 = .ok (.iadd, 1) := by decide +kernel
theorem dL_law_381 : decode cL_law 381 = .ok (.iaload, 1) := by decide +kernel
theorem dL_law_382 : decode cL_law 382 = .ok (.aload_n 0, 1) := by decide +kernel
theorem dL_law_383 : decode cL_law 383 = .ok (.iload_n 3, 1) := by decide +kernel
theorem dL_law_384 : decode cL_law 384 = .ok (.iconst 2, 1) := by decide +kernel
theorem dL_law_385 : decode cL_law 385 = .ok (.iadd, 1) := by decide +kernel
theorem dL_law_386 : decode cL_law 386 = .ok (.iaload, 1) := by decide +kernel
theorem dL_law_387 : decode cL_law 387 = .ok (.invokevirtual 50, 3) := by decide +kernel
theorem dL_law_390 : decode cL_law 390 = .ok (.aload_n 2, 1) := by decide +kernel
theorem dL_law_391 : decode cL_law 391 = .ok (.aload_n 0, 1) := by decide +kernel
theorem dL_law_392 : decode cL_law 392 = .ok (.iload_n 3, 1) := by decide +kernel
theorem dL_law_393 : decode cL_law 393 = .ok (.iconst 1, 1) := by decide +kernel
theorem dL_law_394 : decode cL_law 394 = .ok (.iadd, 1) := by decide +kernel
theorem dL_law_395 : decode cL_law 395 = .ok (.iaload, 1) := by decide +kernel
theorem dL_law_396 : decode cL_law 396 = .ok (.aload_n 0, 1) := by decide +kernel
theorem dL_law_397 : decode cL_law 397 = .ok (.iload_n 3, 1) := by decide +kernel
theorem dL_law_398 : decode cL_law 398 = .ok (.iconst 2, 1) := by decide +kernel
theorem dL_law_399 : decode cL_law 399 = .ok (.iadd, 1) := by decide +kernel
theorem dL_law_400 : decode cL_law 400 = .ok (.iaload, 1) := by decide +kernel
theorem dL_law_401 : decode cL_law 401 = .ok (.invokevirtual 53, 3) := by decide +kernel
theorem dL_law_404 : decode cL_law 404 = .ok (.if_icmp .eq 432, 3) := by decide +kernel
theorem dL_law_407 : decode cL_law 407 = .ok (.iconst 0, 1) := by decide +kernel
theorem dL_law_408 : decode cL_law 408 = .ok (.ireturn, 1) := by decide +kernel
theorem dL_law_409 : decode cL_law 409 = .ok (.aload_n 1, 1) := by decide +kernel
theorem dL_law_410 : decode cL_law 410 = .ok (.aload_n 0, 1) := by decide +kernel
theorem dL_law_411 : decode cL_law 411 = .ok (.iload_n 3, 1) := by decide +kernel
theorem dL_law_412 : decode cL_law 412 = .ok (.iconst 1, 1) := by decide +kernel
theorem dL_law_413 : decode cL_law 413 = .ok (.iadd, 1) := by decide +kernel
theorem dL_law_414 : decode cL_law 414 = .ok (.iaload, 1) := by decide +kernel
theorem dL_law_415 : decode cL_law 415 = .ok (.aload_n 0, 1) := by decide +kernel
theorem dL_law_416 : decode cL_law 416 = .ok (.iload_n 3, 1) := by decide +kernel
theorem dL_law_417 : decode cL_law 417 = .ok (.iconst 2, 1) := by decide +kernel
theorem dL_law_418 : decode cL_law 418 = .ok (.iadd, 1) := by decide +kernel
theorem dL_law_419 : decode cL_law 419 = .ok (.iaload, 1) := by decide +kernel
theorem dL_law_420 : decode cL_law 420 = .ok (.aload_n 0, 1) := by decide +kernel
theorem dL_law_421 : decode cL_law 421 = .ok (.iload_n 3, 1) := by decide +kernel
theorem dL_law_422 : decode cL_law 422 = .ok (.iconst 3, 1) := by decide +kernel
theorem dL_law_423 : decode cL_law 423 = .ok (.iadd, 1) := by decide +kernel
theorem dL_law_424 : decode cL_law 424 = .ok (.iaload, 1) := by decide +kernel
theorem dL_law_425 : decode cL_law 425 = .ok (.invokevirtual 54, 3) := by decide +kernel
theorem dL_law_428 : decode cL_law 428 = .ok (.aload_n 2, 1) := by decide +kernel
theorem dL_law_429 : decode cL_law 429 = .ok (.aload_n 0, 1) := by decide +kernel
theorem dL_law_430 : decode cL_law 430 = .ok (.iload_n 3, 1) := by decide +kernel
theorem dL_law_431 : decode cL_law 431 = .ok (.iconst 1, 1) := by decide +kernel
theorem dL_law_432 : decode cL_law 432 = .ok (.iadd, 1) := by decide +kernel
theorem dL_law_433 : decode cL_law 433 = .ok (.iaload, 1) := by decide +kernel
theorem dL_law_434 : decode cL_law 434 = .ok (.aload_n 0, 1) := by decide +kernel
theorem dL_law_435 : decode cL_law 435 = .ok (.iload_n 3, 1) := by decide +kernel
theorem dL_law_436 : decode cL_law 436 = .ok (.iconst 2, 1) := by decide +kernel
theorem dL_law_437 : decode cL_law 437 = .ok (.iadd, 1) := by decide +kernel
theorem dL_law_438 : decode cL_law 438 = .ok (.iaload, 1) := by decide +kernel
theorem dL_law_439 : decode cL_law 439 = .ok (.aload_n 0, 1) := by decide +kernel
theorem dL_law_440 : decode cL_law 440 = .ok (.iload_n 3, 1) := by decide +kernel
theorem dL_law_441 : decode cL_law 441 = .ok (.iconst 3, 1) := by decide +kernel
theorem dL_law_442 : decode cL_law 442 = .ok (.iadd, 1) := by decide +kernel
theorem dL_law_443 : decode cL_law 443 = .ok (.iaload, 1) := by decide +kernel
theorem dL_law_444 : decode cL_law 444 = .ok (.invokevirtual 57, 3) := by decide +kernel
theorem dL_law_447 : decode cL_law 447 = .ok (.if_icmp .eq 389, 3) := by decide +kernel
theorem dL_law_450 : decode cL_law 450 = .ok (.iconst 0, 1) := by decide +kernel
theorem dL_law_451 : decode cL_law 451 = .ok (.ireturn, 1) := by decide +kernel
theorem dL_law_452 : decode cL_law 452 = .ok (.aload_n 1, 1) := by decide +kernel
theorem dL_law_453 : decode cL_law 453 = .ok (.aload_n 0, 1) := by decide +kernel
theorem dL_law_454 : decode cL_law 454 = .ok (.iload_n 3, 1) := by decide +kernel
theorem dL_law_455 : decode cL_law 455 = .ok (.iconst 1, 1) := by decide +kernel
theorem dL_law_456 : decode cL_law 456 = .ok (.iadd, 1) := by decide +kernel
theorem dL_law_457 : decode cL_law 457 = .ok (.iaload, 1) := by decide +kernel
theorem dL_law_458 : decode cL_law 458 = .ok (.aload_n 0, 1) := by decide +kernel
theorem dL_law_459 : decode cL_law 459 = .ok (.iload_n 3, 1) := by decide +kernel
theorem dL_law_460 : decode cL_law 460 = .ok (.iconst 2, 1) := by decide +kernel
theorem dL_law_461 : decode cL_law 461 = .ok (.iadd, 1) := by decide +kernel
theorem dL_law_462 : decode cL_law 462 = .ok (.iaload, 1) := by decide +kernel
theorem dL_law_463 : decode cL_law 463 = .ok (.aload_n 0, 1) := by decide +kernel
theorem dL_law_464 : decode cL_law 464 = .ok (.iload_n 3, 1) := by decide +kernel
theorem dL_law_465 : decode cL_law 465 = .ok (.iconst 3, 1) := by decide +kernel
theorem dL_law_466 : decode cL_law 466 = .ok (.iadd, 1) := by decide +kernel
theorem dL_law_467 : decode cL_law 467 = .ok (.iaload, 1) := by decide +kernel
theorem dL_law_468 : decode cL_law 468 = .ok (.aload_n 0, 1) := by decide +kernel
theorem dL_law_469 : decode cL_law 469 = .ok (.iload_n 3, 1) := by decide +kernel
theorem dL_law_470 : decode cL_law 470 = .ok (.iconst 4, 1) := by decide +kernel
theorem dL_law_471 : decode cL_law 471 = .ok (.iadd, 1) := by decide +kernel
theorem dL_law_472 : decode cL_law 472 = .ok (.iaload, 1) := by decide +kernel
theorem dL_law_473 : decode cL_law 473 = .ok (.invokevirtual 58, 3) := by decide +kernel
theorem dL_law_476 : decode cL_law 476 = .ok (.aload_n 2, 1) := by decide +kernel
theorem dL_law_477 : decode cL_law 477 = .ok (.aload_n 0, 1) := by decide +kernel
theorem dL_law_478 : decode cL_law 478 = .ok (.iload_n 3, 1) := by decide +kernel
theorem dL_law_479 : decode cL_law 479 = .ok (.iconst 1, 1) := by decide +kernel
theorem dL_law_480 : decode cL_law 480 = .ok (.iadd, 1) := by decide +kernel
theorem dL_law_481 : decode cL_law 481 = .ok (.iaload, 1) := by decide +kernel
theorem dL_law_482 : decode cL_law 482 = .ok (.aload_n 0, 1) := by decide +kernel
theorem dL_law_483 : decode cL_law 483 = .ok (.iload_n 3, 1) := by decide +kernel
theorem dL_law_484 : decode cL_law 484 = .ok (.iconst 2, 1) := by decide +kernel
theorem dL_law_485 : decode cL_law 485 = .ok (.iadd, 1) := by decide +kernel
theorem dL_law_486 : decode cL_law 486 = .ok (.iaload, 1) := by decide +kernel
theorem dL_law_487 : decode cL_law 487 = .ok (.aload_n 0, 1) := by decide +kernel
theorem dL_law_488 : decode cL_law 488 = .ok (.iload_n 3, 1) := by decide +kernel
theorem dL_law_489 : decode cL_law 489 = .ok (.iconst 3, 1) := by decide +kernel
theorem dL_law_490 : decode cL_law 490 = .ok (.iadd, 1) := by decide +kernel
theorem dL_law_491 : decode cL_law 491 = .ok (.iaload, 1) := by decide +kernel
theorem dL_law_492 : decode cL_law 492 = .ok (.aload_n 0, 1) := by decide +kernel
theorem dL_law_493 : decode cL_law 493 = .ok (.iload_n 3, 1) := by decide +kernel
theorem dL_law_494 : decode cL_law 494 = .ok (.iconst 4, 1) := by decide +kernel
theorem dL_law_495 : decode cL_law 495 = .ok (.iadd, 1) := by decide +kernel
theorem dL_law_496 : decode cL_law 496 = .ok (.iaload, 1) := by decide +kernel
theorem dL_law_497 : decode cL_law 497 = .ok (.invokevirtual 61, 3) := by decide +kernel
theorem dL_law_500 : decode cL_law 500 = .ok (.if_icmp .eq 336, 3) := by decide +kernel
theorem dL_law_503 : decode cL_law 503 = .ok (.iconst 0, 1) := by decide +kernel
theorem dL_law_504 : decode cL_law 504 = .ok (.ireturn, 1) := by decide +kernel
theorem dL_law_505 : decode cL_law 505 = .ok (.aload_n 1, 1) := by decide +kernel
theorem dL_law_506 : decode cL_law 506 = .ok (.aload_n 0, 1) := by decide +kernel
theorem dL_law_507 : decode cL_law 507 = .ok (.iload_n 3, 1) := by decide +kernel
theorem dL_law_508 : decode cL_law 508 = .ok (.iconst 1, 1) := by decide +kernel
theorem dL_law_509 : decode cL_law 509 = .ok (.iadd, 1) := by decide +kernel
theorem dL_law_510 : decode cL_law 510 = .ok (.iaload, 1) := by decide +kernel
theorem dL_law_511 : decode cL_law 511 = .ok (.aload_n 0, 1) := by decide +kernel
theorem dL_law_512 : decode cL_law 512 = .ok (.iload_n 3, 1) := by decide +kernel
theorem dL_law_513 : decode cL_law 513 = .ok (.iconst 2, 1) := by decide +kernel
theorem dL_law_514 : decode cL_law 514 = .ok (.iadd, 1) := by decide +kernel
theorem dL_law_515 : decode cL_law 515 = .ok (.iaload, 1) := by decide +kernel
theorem dL_law_516 : decode cL_law 516 = .ok (.invokevirtual 62, 3) := by decide +kernel
theorem dL_law_519 : decode cL_law 519 = .ok (.aload_n 2, 1) := by decide +kernel
theorem dL_law_520 : decode cL_law 520 = .ok (.aload_n 0, 1) := by decide +kernel
theorem dL_law_521 : decode cL_law 521 = .ok (.iload_n 3, 1) := by decide +kernel
theorem dL_law_522 : decode cL_law 522 = .ok (.iconst 1, 1) := by decide +kernel
theorem dL_law_523 : decode cL_law 523 = .ok (.iadd, 1) := by decide +kernel
theorem dL_law_524 : decode cL_law 524 = .ok (.iaload, 1) := by decide +kernel
theorem dL_law_525 : decode cL_law 525 = .ok (.aload_n 0, 1) := by decide +kernel
theorem dL_law_526 : decode cL_law 526 = .ok (.iload_n 3, 1) := by decide +kernel
theorem dL_law_527 : decode cL_law 527 = .ok (.iconst 2, 1) := by decide +kernel
theorem dL_law_528 : decode cL_law 528 = .ok (.iadd, 1) := by decide +kernel
theorem dL_law_529 : decode cL_law 529 = .ok (.iaload, 1) := by decide +kernel
theorem dL_law_530 : decode cL_law 530 = .ok (.invokevirtual 65, 3) := by decide +kernel
theorem dL_law_533 : decode cL_law 533 = .ok (.if_icmp .eq 303, 3) := by decide +kernel
theorem dL_law_536 : decode cL_law 536 = .ok (.iconst 0, 1) := by decide +kernel
theorem dL_law_537 : decode cL_law 537 = .ok (.ireturn, 1) := by decide +kernel
theorem dL_law_538 : decode cL_law 538 = .ok (.aload_n 1, 1) := by decide +kernel
theorem dL_law_539 : decode cL_law 539 = .ok (.aload_n 0, 1) := by decide +kernel
theorem dL_law_540 : decode cL_law 540 = .ok (.iload_n 3, 1) := by decide +kernel
theorem dL_law_541 : decode cL_law 541 = .ok (.iconst 1, 1) := by decide +kernel
theorem dL_law_542 : decode cL_law 542 = .ok (.iadd, 1) := by decide +kernel
theorem dL_law_543 : decode cL_law 543 = .ok (.iaload, 1) := by decide +kernel
theorem dL_law_544 : decode cL_law 544 = .ok (.aload_n 0, 1) := by decide +kernel
theorem dL_law_545 : decode cL_law 545 = .ok (.iload_n 3, 1) := by decide +kernel
theorem dL_law_546 : decode cL_law 546 = .ok (.iconst 2, 1) := by decide +kernel
theorem dL_law_547 : decode cL_law 547 = .ok (.iadd, 1) := by decide +kernel
theorem dL_law_548 : decode cL_law 548 = .ok (.iaload, 1) := by decide +kernel
theorem dL_law_549 : decode cL_law 549 = .ok (.invokevirtual 66, 3) := by decide +kernel
theorem dL_law_552 : decode cL_law 552 = .ok (.aload_n 2, 1) := by decide +kernel
theorem dL_law_553 : decode cL_law 553 = .ok (.aload_n 0, 1) := by decide +kernel
theorem dL_law_554 : decode cL_law 554 = .ok (.iload_n 3, 1) := by decide +kernel
theorem dL_law_555 : decode cL_law 555 = .ok (.iconst 1, 1) := by decide +kernel
theorem dL_law_556 : decode cL_law 556 = .ok (.iadd, 1) := by decide +kernel
theorem dL_law_557 : decode cL_law 557 = .ok (.iaload, 1) := by decide +kernel
theorem dL_law_558 : decode cL_law 558 = .ok (.aload_n 0, 1) := by decide +kernel
theorem dL_law_559 : decode cL_law 559 = .ok (.iload_n 3, 1) := by decide +kernel
theorem dL_law_560 : decode cL_law 560 = .ok (.iconst 2, 1) := by decide +kernel
theorem dL_law_561 : decode cL_law 561 = .ok (.iadd, 1) := by decide +kernel
theorem dL_law_562 : decode cL_law 562 = .ok (.iaload, 1) := by decide +kernel
theorem dL_law_563 : decode cL_law 563 = .ok (.invokevirtual 69, 3) := by decide +kernel
theorem dL_law_566 : decode cL_law 566 = .ok (.if_icmp .eq 270, 3) := by decide +kernel
theorem dL_law_569 : decode cL_law 569 = .ok (.iconst 0, 1) := by decide +kernel
theorem dL_law_570 : decode cL_law 570 = .ok (.ireturn, 1) := by decide +kernel
theorem dL_law_571 : decode cL_law 571 = .ok (.aload_n 1, 1) := by decide +kernel
theorem dL_law_572 : decode cL_law 572 = .ok (.aload_n 0, 1) := by decide +kernel
theorem dL_law_573 : decode cL_law 573 = .ok (.iload_n 3, 1) := by decide +kernel
theorem dL_law_574 : decode cL_law 574 = .ok (.iconst 1, 1) := by decide +kernel
theorem dL_law_575 : decode cL_law 575 = .ok (.iadd, 1) := by decide +kernel
theorem dL_law_576 : decode cL_law 576 = .ok (.iaload, 1) := by decide +kernel
theorem dL_law_577 : decode cL_law 577 = .ok (.aload_n 0, 1) := by decide +kernel
theorem dL_law_578 : decode cL_law 578 = .ok (.iload_n 3, 1) := by decide +kernel
theorem dL_law_579 : decode cL_law 579 = .ok (.iconst 2, 1) := by decide +kernel
theorem dL_law_580 : decode cL_law 580 = .ok (.iadd, 1) := by decide +kernel
theorem dL_law_581 : decode cL_law 581 = .ok (.iaload, 1) := by decide +kernel
theorem dL_law_582 : decode cL_law 582 = .ok (.aload_n 0, 1) := by decide +kernel
theorem dL_law_583 : decode cL_law 583 = .ok (.iload_n 3, 1) := by decide +kernel
theorem dL_law_584 : decode cL_law 584 = .ok (.iconst 3, 1) := by decide +kernel
theorem dL_law_585 : decode cL_law 585 = .ok (.iadd, 1) := by decide +kernel
theorem dL_law_586 : decode cL_law 586 = .ok (.iaload, 1) := by decide +kernel
theorem dL_law_587 : decode cL_law 587 = .ok (.invokevirtual 70, 3) := by decide +kernel
theorem dL_law_590 : decode cL_law 590 = .ok (.aload_n 2, 1) := by decide +kernel
theorem dL_law_591 : decode cL_law 591 = .ok (.aload_n 0, 1) := by decide +kernel
theorem dL_law_592 : decode cL_law 592 = .ok (.iload_n 3, 1) := by decide +kernel
theorem dL_law_593 : decode cL_law 593 = .ok (.iconst 1, 1) := by decide +kernel
theorem dL_law_594 : decode cL_law 594 = .ok (.iadd, 1) := by decide +kernel
theorem dL_law_595 : decode cL_law 595 = .ok (.iaload, 1) := by decide +kernel
theorem dL_law_596 : decode cL_law 596 = .ok (.aload_n 0, 1) := by decide +kernel
theorem dL_law_597 : decode cL_law 597 = .ok (.iload_n 3, 1) := by decide +kernel
theorem dL_law_598 : decode cL_law 598 = .ok (.iconst 2, 1) := by decide +kernel
theorem dL_law_599 : decode cL_law 599 = .ok (.iadd, 1) := by decide +kernel
theorem dL_law_600 : decode cL_law 600 = .ok (.iaload, 1) := by decide +kernel
theorem dL_law_601 : decode cL_law 601 = .ok (.aload_n 0, 1) := by decide +kernel
theorem dL_law_602 : decode cL_law 602 = .ok (.iload_n 3, 1) := by decide +kernel
theorem dL_law_603 : decode cL_law 603 = .ok (.iconst 3, 1) := by decide +kernel
theorem dL_law_604 : decode cL_law 604 = .ok (.iadd, 1) := by decide +kernel
theorem dL_law_605 : decode cL_law 605 = .ok (.iaload, 1) := by decide +kernel
theorem dL_law_606 : decode cL_law 606 = .ok (.invokevirtual 73, 3) := by decide +kernel
theorem dL_law_609 : decode cL_law 609 = .ok (.if_icmp .eq 227, 3) := by decide +kernel
theorem dL_law_612 : decode cL_law 612 = .ok (.iconst 0, 1) := by decide +kernel
theorem dL_law_613 : decode cL_law 613 = .ok (.ireturn, 1) := by decide +kernel
theorem dL_law_614 : decode cL_law 614 = .ok (.aload_n 1, 1) := by decide +kernel
theorem dL_law_615 : decode cL_law 615 = .ok (.aload_n 0, 1) := by decide +kernel
theorem dL_law_616 : decode cL_law 616 = .ok (.iload_n 3, 1) := by decide +kernel
theorem dL_law_617 : decode cL_law 617 = .ok (.iconst 1, 1) := by decide +kernel
theorem dL_law_618 : decode cL_law 618 = .ok (.iadd, 1) := by decide +kernel
theorem dL_law_619 : decode cL_law 619 = .ok (.iaload, 1) := by decide +kernel
theorem dL_law_620 : decode cL_law 620 = .ok (.aload_n 0, 1) := by decide +kernel
theorem dL_law_621 : decode cL_law 621 = .ok (.iload_n 3, 1) := by decide +kernel
theorem dL_law_622 : decode cL_law 622 = .ok (.iconst 2, 1) := by decide +kernel
theorem dL_law_623 : decode cL_law 623 = .ok (.iadd, 1) := by decide +kernel
theorem dL_law_624 : decode cL_law 624 = .ok (.iaload, 1) := by decide +kernel
theorem dL_law_625 : decode cL_law 625 = .ok (.aload_n 0, 1) := by decide +kernel
theorem dL_law_626 : decode cL_law 626 = .ok (.iload_n 3, 1) := by decide +kernel
theorem dL_law_627 : decode cL_law 627 = .ok (.iconst 3, 1) := by decide +kernel
theorem dL_law_628 : decode cL_law 628 = .ok (.iadd, 1) := by decide +kernel
theorem dL_law_629 : decode cL_law 629 = .ok (.iaload, 1) := by decide +kernel
theorem dL_law_630 : decode cL_law 630 = .ok (.invokevirtual 74, 3) := by decide +kernel
theorem dL_law_633 : decode cL_law 633 = .ok (.aload_n 2, 1) := by decide +kernel
theorem dL_law_634 : decode cL_law 634 = .ok (.aload_n 0, 1) := by decide +kernel
theorem dL_law_635 : decode cL_law 635 = .ok (.iload_n 3, 1) := by decide +kernel
theorem dL_law_636 : decode cL_law 636 = .ok (.iconst 1, 1) := by decide +kernel
theorem dL_law_637 : decode cL_law 637 = .ok (.iadd, 1) := by decide +kernel
theorem dL_law_638 : decode cL_law 638 = .ok (.iaload, 1) := by decide +kernel
theorem dL_law_639 : decode cL_law 639 = .ok (.aload_n 0, 1) := by decide +kernel
theorem dL_law_640 : decode cL_law 640 = .ok (.iload_n 3, 1) := by decide +kernel
theorem dL_law_641 : decode cL_law 641 = .ok (.iconst 2, 1) := by decide +kernel
theorem dL_law_642 : decode cL_law 642 = .ok (.iadd, 1) := by decide +kernel
theorem dL_law_643 : decode cL_law 643 = .ok (.iaload, 1) := by decide +kernel
theorem dL_law_644 : decode cL_law 644 = .ok (.aload_n 0, 1) := by decide +kernel
theorem dL_law_645 : decode cL_law 645 = .ok (.iload_n 3, 1) := by decide +kernel
theorem dL_law_646 : decode cL_law 646 = .ok (.iconst 3, 1) := by decide +kernel
theorem dL_law_647 : decode cL_law 647 = .ok (.iadd, 1) := by decide +kernel
theorem dL_law_648 : decode cL_law 648 = .ok (.iaload, 1) := by decide +kernel
theorem dL_law_649 : decode cL_law 649 = .ok (.invokevirtual 77, 3) := by decide +kernel
theorem dL_law_652 : decode cL_law 652 = .ok (.if_icmp .eq 184, 3) := by decide +kernel
theorem dL_law_655 : decode cL_law 655 = .ok (.iconst 0, 1) := by decide +kernel
theorem dL_law_656 : decode cL_law 656 = .ok (.ireturn, 1) := by decide +kernel
theorem dL_law_657 : decode cL_law 657 = .ok (.aload_n 1, 1) := by decide +kernel
theorem dL_law_658 : decode cL_law 658 = .ok (.aload_n 0, 1) := by decide +kernel
theorem dL_law_659 : decode cL_law 659 = .ok (.iload_n 3, 1) := by decide +kernel
theorem dL_law_660 : decode cL_law 660 = .ok (.iconst 1, 1) := by decide +kernel
theorem dL_law_661 : decode cL_law 661 = .ok (.iadd, 1) := by decide +kernel
theorem dL_law_662 : decode cL_law 662 = .ok (.iaload, 1) := by decide +kernel
theorem dL_law_663 : decode cL_law 663 = .ok (.aload_n 0, 1) := by decide +kernel
theorem dL_law_664 : decode cL_law 664 = .ok (.iload_n 3, 1) := by decide +kernel
theorem dL_law_665 : decode cL_law 665 = .ok (.iconst 2, 1) := by decide +kernel
theorem dL_law_666 : decode cL_law 666 = .ok (.iadd, 1) := by decide +kernel
theorem dL_law_667 : decode cL_law 667 = .ok (.iaload, 1) := by decide +kernel
theorem dL_law_668 : decode cL_law 668 = .ok (.invokevirtual 78, 3) := by decide +kernel
theorem dL_law_671 : decode cL_law 671 = .ok (.aload_n 2, 1) := by decide +kernel
theorem dL_law_672 : decode cL_law 672 = .ok (.aload_n 0, 1) := by decide +kernel
theorem dL_law_673 : decode cL_law 673 = .ok (.iload_n 3, 1) := by decide +kernel
theorem dL_law_674 : decode cL_law 674 = .ok (.iconst 1, 1) := by decide +kernel
theorem dL_law_675 : decode cL_law 675 = .ok (.iadd, 1) := by decide +kernel
theorem dL_law_676 : decode cL_law 676 = .ok (.iaload, 1) := by decide +kernel
theorem dL_law_677 : decode cL_law 677 = .ok (.aload_n 0, 1) := by decide +kernel
theorem dL_law_678 : decode cL_law 678 = .ok (.iload_n 3, 1) := by decide +kernel
theorem dL_law_679 : decode cL_law 679 = .ok (.iconst 2, 1) := by decide +kernel
theorem dL_law_680 : decode cL_law 680 = .ok (.iadd, 1) := by decide +kernel
theorem dL_law_681 : decode cL_law 681 = .ok (.iaload, 1) := by decide +kernel
theorem dL_law_682 : decode cL_law 682 = .ok (.invokevirtual 81, 3) := by decide +kernel
theorem dL_law_685 : decode cL_law 685 = .ok (.if_icmp .eq 151, 3) := by decide +kernel
theorem dL_law_688 : decode cL_law 688 = .ok (.iconst 0, 1) := by decide +kernel
theorem dL_law_689 : decode cL_law 689 = .ok (.ireturn, 1) := by decide +kernel
theorem dL_law_690 : decode cL_law 690 = .ok (.aload_n 1, 1) := by decide +kernel
theorem dL_law_691 : decode cL_law 691 = .ok (.aload_n 0, 1) := by decide +kernel
theorem dL_law_692 : decode cL_law 692 = .ok (.iload_n 3, 1) := by decide +kernel
theorem dL_law_693 : decode cL_law 693 = .ok (.iconst 1, 1) := by decide +kernel
theorem dL_law_694 : decode cL_law 694 = .ok (.iadd, 1) := by decide +kernel
theorem dL_law_695 : decode cL_law 695 = .ok (.iaload, 1) := by decide +kernel
theorem dL_law_696 : decode cL_law 696 = .ok (.aload_n 0, 1) := by decide +kernel
theorem dL_law_697 : decode cL_law 697 = .ok (.iload_n 3, 1) := by decide +kernel
theorem dL_law_698 : decode cL_law 698 = .ok (.iconst 2, 1) := by decide +kernel
theorem dL_law_699 : decode cL_law 699 = .ok (.iadd, 1) := by decide +kernel
theorem dL_law_700 : decode cL_law 700 = .ok (.iaload, 1) := by decide +kernel
theorem dL_law_701 : decode cL_law 701 = .ok (.invokevirtual 82, 3) := by decide +kernel
theorem dL_law_704 : decode cL_law 704 = .ok (.aload_n 2, 1) := by decide +kernel
theorem dL_law_705 : decode cL_law 705 = .ok (.aload_n 0, 1) := by decide +kernel
theorem dL_law_706 : decode cL_law 706 = .ok (.iload_n 3, 1) := by decide +kernel
theorem dL_law_707 : decode cL_law 707 = .ok (.iconst 1, 1) := by decide +kernel
theorem dL_law_708 : decode cL_law 708 = .ok (.iadd, 1) := by decide +kernel
theorem dL_law_709 : decode cL_law 709 = .ok (.iaload, 1) := by decide +kernel
theorem dL_law_710 : decode cL_law 710 = .ok (.aload_n 0, 1) := by decide +kernel
theorem dL_law_711 : decode cL_law 711 = .ok (.iload_n 3, 1) := by decide +kernel
theorem dL_law_712 : decode cL_law 712 = .ok (.iconst 2, 1) := by decide +kernel
theorem dL_law_713 : decode cL_law 713 = .ok (.iadd, 1) := by decide +kernel
theorem dL_law_714 : decode cL_law 714 = .ok (.iaload, 1) := by decide +kernel
theorem dL_law_715 : decode cL_law 715 = .ok (.invokevirtual 85, 3) := by decide +kernel
theorem dL_law_718 : decode cL_law 718 = .ok (.if_icmp .eq 118, 3) := by decide +kernel
theorem dL_law_721 : decode cL_law 721 = .ok (.iconst 0, 1) := by decide +kernel
theorem dL_law_722 : decode cL_law 722 = .ok (.ireturn, 1) := by decide +kernel
theorem dL_law_723 : decode cL_law 723 = .ok (.aload_n 1, 1) := by decide +kernel
theorem dL_law_724 : decode cL_law 724 = .ok (.aload_n 0, 1) := by decide +kernel
theorem dL_law_725 : decode cL_law 725 = .ok (.iload_n 3, 1) := by decide +kernel
theorem dL_law_726 : decode cL_law 726 = .ok (.iconst 1, 1) := by decide +kernel
theorem dL_law_727 : decode cL_law 727 = .ok (.iadd, 1) := by decide +kernel
theorem dL_law_728 : decode cL_law 728 = .ok (.iaload, 1) := by decide +kernel
theorem dL_law_729 : decode cL_law 729 = .ok (.aload_n 0, 1) := by decide +kernel
theorem dL_law_730 : decode cL_law 730 = .ok (.iload_n 3, 1) := by decide +kernel
theorem dL_law_731 : decode cL_law 731 = .ok (.iconst 2, 1) := by decide +kernel
theorem dL_law_732 : decode cL_law 732 = .ok (.iadd, 1) := by decide +kernel
theorem dL_law_733 : decode cL_law 733 = .ok (.iaload, 1) := by decide +kernel
theorem dL_law_734 : decode cL_law 734 = .ok (.aload_n 0, 1) := by decide +kernel
theorem dL_law_735 : decode cL_law 735 = .ok (.iload_n 3, 1) := by decide +kernel
theorem dL_law_736 : decode cL_law 736 = .ok (.iconst 3, 1) := by decide +kernel
theorem dL_law_737 : decode cL_law 737 = .ok (.iadd, 1) := by decide +kernel
theorem dL_law_738 : decode cL_law 738 = .ok (.iaload, 1) := by decide +kernel
theorem dL_law_739 : decode cL_law 739 = .ok (.invokevirtual 86, 3) := by decide +kernel
theorem dL_law_742 : decode cL_law 742 = .ok (.aload_n 2, 1) := by decide +kernel
theorem dL_law_743 : decode cL_law 743 = .ok (.aload_n 0, 1) := by decide +kernel
theorem dL_law_744 : decode cL_law 744 = .ok (.iload_n 3, 1) := by decide +kernel
theorem dL_law_745 : decode cL_law 745 = .ok (.iconst 1, 1) := by decide +kernel
theorem dL_law_746 : decode cL_law 746 = .ok (.iadd, 1) := by decide +kernel
theorem dL_law_747 : decode cL_law 747 = .ok (.iaload, 1) := by decide +kernel
theorem dL_law_748 : decode cL_law 748 = .ok (.aload_n 0, 1) := by decide +kernel
theorem dL_law_749 : decode cL_law 749 = .ok (.iload_n 3, 1) := by decide +kernel
theorem dL_law_750 : decode cL_law 750 = .ok (.iconst 2, 1) := by decide +kernel
theorem dL_law_751 : decode cL_law 751 = .ok (.iadd, 1) := by decide +kernel
theorem dL_law_752 : decode cL_law 752 = .ok (.iaload, 1) := by decide +kernel
theorem dL_law_753 : decode cL_law 753 = .ok (.aload_n 0, 1) := by decide +kernel
theorem dL_law_754 : decode cL_law 754 = .ok (.iload_n 3, 1) := by decide +kernel
theorem dL_law_755 : decode cL_law 755 = .ok (.iconst 3, 1) := by decide +kernel
theorem dL_law_756 : decode cL_law 756 = .ok (.iadd, 1) := by decide +kernel
theorem dL_law_757 : decode cL_law 757 = .ok (.iaload, 1) := by decide +kernel
theorem dL_law_758 : decode cL_law 758 = .ok (.invokevirtual 90, 3) := by decide +kernel
theorem dL_law_761 : decode cL_law 761 = .ok (.lcmp, 1) := by decide +kernel
theorem dL_law_762 : decode cL_law 762 = .ok (.ifCond .eq 74, 3) := by decide +kernel
theorem dL_law_765 : decode cL_law 765 = .ok (.iconst 0, 1) := by decide +kernel
theorem dL_law_766 : decode cL_law 766 = .ok (.ireturn, 1) := by decide +kernel
theorem dL_law_767 : decode cL_law 767 = .ok (.aload_n 1, 1) := by decide +kernel
theorem dL_law_768 : decode cL_law 768 = .ok (.aload_n 0, 1) := by decide +kernel
theorem dL_law_769 : decode cL_law 769 = .ok (.iload_n 3, 1) := by decide +kernel
theorem dL_law_770 : decode cL_law 770 = .ok (.iconst 1, 1) := by decide +kernel
theorem dL_law_771 : decode cL_law 771 = .ok (.iadd, 1) := by decide +kernel
theorem dL_law_772 : decode cL_law 772 = .ok (.iaload, 1) := by decide +kernel
theorem dL_law_773 : decode cL_law 773 = .ok (.invokevirtual 91, 3) := by decide +kernel
theorem dL_law_776 : decode cL_law 776 = .ok (.aload_n 2, 1) := by decide +kernel
theorem dL_law_777 : decode cL_law 777 = .ok (.aload_n 0, 1) := by decide +kernel
theorem dL_law_778 : decode cL_law 778 = .ok (.iload_n 3, 1) := by decide +kernel
theorem dL_law_779 : decode cL_law 779 = .ok (.iconst 1, 1) := by decide +kernel
theorem dL_law_780 : decode cL_law 780 = .ok (.iadd, 1) := by decide +kernel
theorem dL_law_781 : decode cL_law 781 = .ok (.iaload, 1) := by decide +kernel
theorem dL_law_782 : decode cL_law 782 = .ok (.invokevirtual 94, 3) := by decide +kernel
theorem dL_law_785 : decode cL_law 785 = .ok (.if_icmp .eq 51, 3) := by decide +kernel
theorem dL_law_788 : decode cL_law 788 = .ok (.iconst 0, 1) := by decide +kernel
theorem dL_law_789 : decode cL_law 789 = .ok (.ireturn, 1) := by decide +kernel
theorem dL_law_790 : decode cL_law 790 = .ok (.aload_n 1, 1) := by decide +kernel
theorem dL_law_791 : decode cL_law 791 = .ok (.aload_n 0, 1) := by decide +kernel
theorem dL_law_792 : decode cL_law 792 = .ok (.iload_n 3, 1) := by decide +kernel
theorem dL_law_793 : decode cL_law 793 = .ok (.iconst 1, 1) := by decide +kernel
theorem dL_law_794 : decode cL_law 794 = .ok (.iadd, 1) := by decide +kernel
theorem dL_law_795 : decode cL_law 795 = .ok (.iaload, 1) := by decide +kernel
theorem dL_law_796 : decode cL_law 796 = .ok (.invokevirtual 95, 3) := by decide +kernel
theorem dL_law_799 : decode cL_law 799 = .ok (.aload_n 2, 1) := by decide +kernel
theorem dL_law_800 : decode cL_law 800 = .ok (.aload_n 0, 1) := by decide +kernel
theorem dL_law_801 : decode cL_law 801 = .ok (.iload_n 3, 1) := by decide +kernel
theorem dL_law_802 : decode cL_law 802 = .ok (.iconst 1, 1) := by decide +kernel
theorem dL_law_803 : decode cL_law 803 = .ok (.iadd, 1) := by decide +kernel
theorem dL_law_804 : decode cL_law 804 = .ok (.iaload, 1) := by decide +kernel
theorem dL_law_805 : decode cL_law 805 = .ok (.invokevirtual 98, 3) := by decide +kernel
theorem dL_law_808 : decode cL_law 808 = .ok (.if_icmp .eq 28, 3) := by decide +kernel
theorem dL_law_811 : decode cL_law 811 = .ok (.iconst 0, 1) := by decide +kernel
theorem dL_law_812 : decode cL_law 812 = .ok (.ireturn, 1) := by decide +kernel
theorem dL_law_813 : decode cL_law 813 = .ok (.aload_n 1, 1) := by decide +kernel
theorem dL_law_814 : decode cL_law 814 = .ok (.aload_n 0, 1) := by decide +kernel
theorem dL_law_815 : decode cL_law 815 = .ok (.iload_n 3, 1) := by decide +kernel
theorem dL_law_816 : decode cL_law 816 = .ok (.iconst 1, 1) := by decide +kernel
theorem dL_law_817 : decode cL_law 817 = .ok (.iadd, 1) := by decide +kernel
theorem dL_law_818 : decode cL_law 818 = .ok (.iaload, 1) := by decide +kernel
theorem dL_law_819 : decode cL_law 819 = .ok (.invokevirtual 99, 3) := by decide +kernel
theorem dL_law_822 : decode cL_law 822 = .ok (.aload_n 2, 1) := by decide +kernel
theorem dL_law_823 : decode cL_law 823 = .ok (.aload_n 0, 1) := by decide +kernel
theorem dL_law_824 : decode cL_law 824 = .ok (.iload_n 3, 1) := by decide +kernel
theorem dL_law_825 : decode cL_law 825 = .ok (.iconst 1, 1) := by decide +kernel
theorem dL_law_826 : decode cL_law 826 = .ok (.iadd, 1) := by decide +kernel
theorem dL_law_827 : decode cL_law 827 = .ok (.iaload, 1) := by decide +kernel
theorem dL_law_828 : decode cL_law 828 = .ok (.invokevirtual 102, 3) := by decide +kernel
theorem dL_law_831 : decode cL_law 831 = .ok (.if_icmp .eq 5, 3) := by decide +kernel
theorem dL_law_834 : decode cL_law 834 = .ok (.iconst 0, 1) := by decide +kernel
theorem dL_law_835 : decode cL_law 835 = .ok (.ireturn, 1) := by decide +kernel
theorem dL_law_836 : decode cL_law 836 = .ok (.iinc 3 5, 3) := by decide +kernel
theorem dL_law_839 : decode cL_law 839 = .ok (.goto (-821), 3) := by decide +kernel
theorem dL_law_842 : decode cL_law 842 = .ok (.iconst 1, 1) := by decide +kernel
theorem dL_law_843 : decode cL_law 843 = .ok (.ireturn, 1) := by decide +kernel
abbrev vwCl : List vw_C := [(RX0, TX0, 2), (RX1, TX1, 2), (RX2, TX2, 1), (RX3, TX3, 2), (RX4, TX4, 5), (RX5, TX5, 8), (RX6, TX6, 13)]
