theorem dX2_numberAsGiven_37 : decode cX2_numberAsGiven 37 = .ok (.invokevirtual 60, 3) := by decide +kernel
theorem dX2_numberAsGiven_40 : decode cX2_numberAsGiven 40 = .ok (.ior, 1) := by decide +kernel
theorem dX2_numberAsGiven_41 : decode cX2_numberAsGiven 41 = .ok (.istore_n 2, 1) := by decide +kernel
theorem dX2_numberAsGiven_42 : decode cX2_numberAsGiven 42 = .ok (.iinc 4 1, 3) := by decide +kernel
theorem dX2_numberAsGiven_45 : decode cX2_numberAsGiven 45 = .ok (.goto (-28), 3) := by decide +kernel
theorem dX2_numberAsGiven_48 : decode cX2_numberAsGiven 48 = .ok (.iinc 3 1, 3) := by decide +kernel
theorem dX2_numberAsGiven_51 : decode cX2_numberAsGiven 51 = .ok (.goto (-47), 3) := by decide +kernel
theorem dX2_numberAsGiven_54 : decode cX2_numberAsGiven 54 = .ok (.iload_n 2, 1) := by decide +kernel
theorem dX2_numberAsGiven_55 : decode cX2_numberAsGiven 55 = .ok (.ireturn, 1) := by decide +kernel
set_option maxRecDepth 20000 in
theorem ggX2_brings_X2_canGoOn : GoodIn wsX2_brings wsX2_canGoOn := goodIn_r _ [5, 6, 7, 4, 8, 9, 10, 11, 12, 13, 14, 15, 16, 17, 18, 19, 20, 21, 22, 23, 2, 3, 25, 26] (by decide +kernel) (by decide +kernel)
set_option maxRecDepth 20000 in
theorem gX2_brings_X2_canGoOn : GoodIn wsX2_brings (va_wsS RX2 63 yX2_canGoOn wsX2_canGoOn) := goodIn_app (goodIn_of _ (by decide +kernel)) ggX2_brings_X2_canGoOn
theorem dX2_brings_0 : decode cX2_brings 0 = .ok (.aload_n 1, 1) := by decide +kernel
theorem dX2_brings_1 : decode cX2_brings 1 = .ok (.aload_n 2, 1) := by decide +kernel
theorem dX2_brings_2 : decode cX2_brings 2 = .ok (.aload_n 0, 1) := by decide +kernel
theorem dX2_brings_3 : decode cX2_brings 3 = .ok (.getfield 9, 3) := by decide +kernel
theorem dX2_brings_6 : decode cX2_brings 6 = .ok (.iconst 0, 1) := by decide +kernel
theorem dX2_brings_7 : decode cX2_brings 7 = .ok (.iconst 0, 1) := by decide +kernel
theorem dX2_brings_8 : decode cX2_brings 8 = .ok (.invokestatic 63, 3) := by decide +kernel
theorem dX2_brings_11 : decode cX2_brings 11 = .ok (.ireturn, 1) := by decide +kernel
set_option maxRecDepth 20000 in
theorem ggX2_keepersOfClass_X0_leaveAlone : GoodIn wsX2_keepersOfClass wsX0_leaveAlone := goodIn_r _ [5, 6, 7, 8, 9, 3, 10, 11, 12, 13, 14, 15, 51, 52] (by decide +kernel) (by decide +kernel)
set_option maxRecDepth 20000 in
theorem gX2_keepersOfClass_X0_leaveAlone_n25 : GoodIn wsX2_keepersOfClass (wsX0_leaveAlone) := ggX2_keepersOfClass_X0_leaveAlone
set_option maxRecDepth 20000 in
theorem ggX2_keepersOfClass_X0_copySwitched : GoodIn wsX2_keepersOfClass wsX0_copySwitched := goodIn_r _ [18, 11, 6, 19, 20, 21, 22, 7, 8, 9, 3, 10, 12, 13, 14, 15, 51, 52] (by decide +kernel) (by decide +kernel)
set_option maxRecDepth 20000 in
theorem gX2_keepersOfClass_X0_copySwitched_n67 : GoodIn wsX2_keepersOfClass (wsX0_copySwitched) := ggX2_keepersOfClass_X0_copySwitched
set_option maxRecDepth 20000 in
theorem ggX2_keepersOfClass_X2_canGoOn : GoodIn wsX2_keepersOfClass wsX2_canGoOn := goodIn_r _ [26, 27, 28, 25, 29, 30, 3, 31, 32, 6, 33, 34, 35, 36, 37, 38, 39, 40, 41, 42, 23, 24, 51, 52] (by decide +kernel) (by decide +kernel)
set_option maxRecDepth 20000 in
theorem gX2_keepersOfClass_X2_canGoOn : GoodIn wsX2_keepersOfClass (va_wsS RX2 63 yX2_canGoOn wsX2_canGoOn) := goodIn_app (goodIn_of _ (by decide +kernel)) ggX2_keepersOfClass_X2_canGoOn
set_option maxRecDepth 20000 in
theorem ggX2_keepersOfClass_X2_keepersOfNet : GoodIn wsX2_keepersOfClass wsX2_keepersOfNet := goodIn_r _ [46, 1, 47, 48, 49, 25, 50, 27, 28, 29, 30, 3, 31, 32, 6, 33, 34, 35, 36, 37, 38, 39, 40, 41, 42, 23, 24, 26, 53, 51, 52] (by decide +kernel) (by decide +kernel)
set_option maxRecDepth 20000 in
theorem gX2_keepersOfClass_X2_keepersOfNet : GoodIn wsX2_keepersOfClass (wsV RX2 71 RX2 yX2_keepersOfNet wsX2_keepersOfNet) := goodIn_app (goodIn_of _ (by decide +kernel)) ggX2_keepersOfClass_X2_keepersOfNet
theorem dX2_keepersOfClass_0 : decode cX2_keepersOfClass 0 = .ok (.aload_n 1, 1) := by decide +kernel
theorem dX2_keepersOfClass_1 : decode cX2_keepersOfClass 1 = .ok (.iconst 0, 1) := by decide +kernel
theorem dX2_keepersOfClass_2 : decode cX2_keepersOfClass 2 = .ok (.invokevirtual 25, 3) := by decide +kernel
theorem dX2_keepersOfClass_5 : decode cX2_keepersOfClass 5 = .ok (.iconst 0, 1) := by decide +kernel
theorem dX2_keepersOfClass_6 : decode cX2_keepersOfClass 6 = .ok (.istore_n 3, 1) := by decide +kernel
theorem dX2_keepersOfClass_7 : decode cX2_keepersOfClass 7 = .ok (.iconst 0, 1) := by decide +kernel
theorem dX2_keepersOfClass_8 : decode cX2_keepersOfClass 8 = .ok (.istore 4, 2) := by decide +kernel
theorem dX2_keepersOfClass_10 : decode cX2_keepersOfClass 10 = .ok (.iload 4, 2) := by decide +kernel
theorem dX2_keepersOfClass_12 : decode cX2_keepersOfClass 12 = .ok (.aload_n 1, 1) := by decide +kernel
theorem dX2_keepersOfClass_13 : decode cX2_keepersOfClass 13 = .ok (.getfield 15, 3) := by decide +kernel
theorem dX2_keepersOfClass_16 : decode cX2_keepersOfClass 16 = .ok (.if_icmp .ge 49, 3) := by decide +kernel
theorem dX2_keepersOfClass_19 : decode cX2_keepersOfClass 19 = .ok (.aload_n 2, 1) := by decide +kernel
theorem dX2_keepersOfClass_20 : decode cX2_keepersOfClass 20 = .ok (.aload_n 1, 1) := by decide +kernel
theorem dX2_keepersOfClass_21 : decode cX2_keepersOfClass 21 = .ok (.aload_n 1, 1) := by decide +kernel
theorem dX2_keepersOfClass_22 : decode cX2_keepersOfClass 22 = .ok (.getfield 53, 3) := by decide +kernel
theorem dX2_keepersOfClass_25 : decode cX2_keepersOfClass 25 = .ok (.iload 4, 2) := by decide +kernel
theorem dX2_keepersOfClass_27 : decode cX2_keepersOfClass 27 = .ok (.iaload, 1) := by decide +kernel
theorem dX2_keepersOfClass_28 : decode cX2_keepersOfClass 28 = .ok (.invokevirtual 67, 3) := by decide +kernel
theorem dX2_keepersOfClass_31 : decode cX2_keepersOfClass 31 = .ok (.aload_n 0, 1) := by decide +kernel
theorem dX2_keepersOfClass_32 : decode cX2_keepersOfClass 32 = .ok (.getfield 9, 3) := by decide +kernel
theorem dX2_keepersOfClass_35 : decode cX2_keepersOfClass 35 = .ok (.iconst 0, 1) := by decide +kernel
theorem dX2_keepersOfClass_36 : decode cX2_keepersOfClass 36 = .ok (.iload 4, 2) := by decide +kernel
theorem dX2_keepersOfClass_38 : decode cX2_keepersOfClass 38 = .ok (.iastore, 1) := by decide +kernel
theorem dX2_keepersOfClass_39 : decode cX2_keepersOfClass 39 = .ok (.aload_n 1, 1) := by decide +kernel
theorem dX2_keepersOfClass_40 : decode cX2_keepersOfClass 40 = .ok (.aload_n 2, 1) := by decide +kernel
theorem dX2_keepersOfClass_41 : decode cX2_keepersOfClass 41 = .ok (.aload_n 0, 1) := by decide +kernel
theorem dX2_keepersOfClass_42 : decode cX2_keepersOfClass 42 = .ok (.getfield 9, 3) := by decide +kernel
theorem dX2_keepersOfClass_45 : decode cX2_keepersOfClass 45 = .ok (.iconst 1, 1) := by decide +kernel
theorem dX2_keepersOfClass_46 : decode cX2_keepersOfClass 46 = .ok (.iconst 1, 1) := by decide +kernel
theorem dX2_keepersOfClass_47 : decode cX2_keepersOfClass 47 = .ok (.iload 4, 2) := by decide +kernel
theorem dX2_keepersOfClass_49 : decode cX2_keepersOfClass 49 = .ok (.ishl, 1) := by decide +kernel
theorem dX2_keepersOfClass_50 : decode cX2_keepersOfClass 50 = .ok (.invokestatic 63, 3) := by decide +kernel
theorem dX2_keepersOfClass_53 : decode cX2_keepersOfClass 53 = .ok (.ifCond .eq 6, 3) := by decide +kernel
theorem dX2_keepersOfClass_56 : decode cX2_keepersOfClass 56 = .ok (.iinc 3 1, 3) := by decide +kernel
theorem dX2_keepersOfClass_59 : decode cX2_keepersOfClass 59 = .ok (.iinc 4 1, 3) := by decide +kernel
theorem dX2_keepersOfClass_62 : decode cX2_keepersOfClass 62 = .ok (.goto (-52), 3) := by decide +kernel
theorem dX2_keepersOfClass_65 : decode cX2_keepersOfClass 65 = .ok (.iload_n 3, 1) := by decide +kernel
theorem dX2_keepersOfClass_66 : decode cX2_keepersOfClass 66 = .ok (.aload_n 0, 1) := by decide +kernel
theorem dX2_keepersOfClass_67 : decode cX2_keepersOfClass 67 = .ok (.aload_n 1, 1) := by decide +kernel
theorem dX2_keepersOfClass_68 : decode cX2_keepersOfClass 68 = .ok (.iconst 1, 1) := by decide +kernel
theorem dX2_keepersOfClass_69 : decode cX2_keepersOfClass 69 = .ok (.invokevirtual 71, 3) := by decide +kernel
theorem dX2_keepersOfClass_72 : decode cX2_keepersOfClass 72 = .ok (.imul, 1) := by decide +kernel
theorem dX2_keepersOfClass_73 : decode cX2_keepersOfClass 73 = .ok (.ireturn, 1) := by decide +kernel
set_option maxRecDepth 20000 in
theorem ggX2_keepersOfNet_X2_placesOf : GoodIn wsX2_keepersOfNet wsX2_placesOf := goodIn_r _ [6, 1, 7, 8, 5, 9, 10, 11, 12, 13, 14, 15, 16, 17, 18, 19, 20, 21, 22, 23, 24, 25, 26, 27, 29, 30, 28] (by decide +kernel) (by decide +kernel)
set_option maxRecDepth 20000 in
theorem gX2_keepersOfNet_X2_placesOf : GoodIn wsX2_keepersOfNet (wsV RX2 75 RX2 yX2_placesOf wsX2_placesOf) := goodIn_app (goodIn_of _ (by decide +kernel)) ggX2_keepersOfNet_X2_placesOf
theorem dX2_keepersOfNet_0 : decode cX2_keepersOfNet 0 = .ok (.iconst 0, 1) := by decide +kernel
theorem dX2_keepersOfNet_1 : decode cX2_keepersOfNet 1 = .ok (.istore_n 3, 1) := by decide +kernel
theorem dX2_keepersOfNet_2 : decode cX2_keepersOfNet 2 = .ok (.iload_n 3, 1) := by decide +kernel
theorem dX2_keepersOfNet_3 : decode cX2_keepersOfNet 3 = .ok (.iload_n 2, 1) := by decide +kernel
theorem dX2_keepersOfNet_4 : decode cX2_keepersOfNet 4 = .ok (.if_icmp .ge 16, 3) := by decide +kernel
theorem dX2_keepersOfNet_7 : decode cX2_keepersOfNet 7 = .ok (.aload_n 0, 1) := by decide +kernel
theorem dX2_keepersOfNet_8 : decode cX2_keepersOfNet 8 = .ok (.getfield 9, 3) := by decide +kernel
theorem dX2_keepersOfNet_11 : decode cX2_keepersOfNet 11 = .ok (.iload_n 3, 1) := by decide +kernel
theorem dX2_keepersOfNet_12 : decode cX2_keepersOfNet 12 = .ok (.iload_n 3, 1) := by decide +kernel
theorem dX2_keepersOfNet_13 : decode cX2_keepersOfNet 13 = .ok (.iastore, 1) := by decide +kernel
theorem dX2_keepersOfNet_14 : decode cX2_keepersOfNet 14 = .ok (.iinc 3 1, 3) := by decide +kernel
theorem dX2_keepersOfNet_17 : decode cX2_keepersOfNet 17 = .ok (.goto (-15), 3) := by decide +kernel
theorem dX2_keepersOfNet_20 : decode cX2_keepersOfNet 20 = .ok (.iconst 1, 1) := by decide +kernel
theorem dX2_keepersOfNet_21 : decode cX2_keepersOfNet 21 = .ok (.istore_n 3, 1) := by decide +kernel
theorem dX2_keepersOfNet_22 : decode cX2_keepersOfNet 22 = .ok (.iload_n 2, 1) := by decide +kernel
theorem dX2_keepersOfNet_23 : decode cX2_keepersOfNet 23 = .ok (.istore 4, 2) := by decide +kernel
theorem dX2_keepersOfNet_25 : decode cX2_keepersOfNet 25 = .ok (.iload 4, 2) := by decide +kernel
theorem dX2_keepersOfNet_27 : decode cX2_keepersOfNet 27 = .ok (.aload_n 1, 1) := by decide +kernel
theorem dX2_keepersOfNet_28 : decode cX2_keepersOfNet 28 = .ok (.getfield 15, 3) := by decide +kernel
theorem dX2_keepersOfNet_31 : decode cX2_keepersOfNet 31 = .ok (.if_icmp .ge 28, 3) := by decide +kernel
theorem dX2_keepersOfNet_34 : decode cX2_keepersOfNet 34 = .ok (.iload_n 3, 1) := by decide +kernel
theorem dX2_keepersOfNet_35 : decode cX2_keepersOfNet 35 = .ok (.aload_n 0, 1) := by decide +kernel
theorem dX2_keepersOfNet_36 : decode cX2_keepersOfNet 36 = .ok (.aload_n 1, 1) := by decide +kernel
theorem dX2_keepersOfNet_37 : decode cX2_keepersOfNet 37 = .ok (.iload 4, 2) := by decide +kernel
theorem dX2_keepersOfNet_39 : decode cX2_keepersOfNet 39 = .ok (.invokevirtual 75, 3) := by decide +kernel
theorem dX2_keepersOfNet_42 : decode cX2_keepersOfNet 42 = .ok (.imul, 1) := by decide +kernel
theorem dX2_keepersOfNet_43 : decode cX2_keepersOfNet 43 = .ok (.istore_n 3, 1) := by decide +kernel
theorem dX2_keepersOfNet_44 : decode cX2_keepersOfNet 44 = .ok (.aload_n 0, 1) := by decide +kernel
theorem dX2_keepersOfNet_45 : decode cX2_keepersOfNet 45 = .ok (.getfield 9, 3) := by decide +kernel
theorem dX2_keepersOfNet_48 : decode cX2_keepersOfNet 48 = .ok (.iload 4, 2) := by decide +kernel
theorem dX2_keepersOfNet_50 : decode cX2_keepersOfNet 50 = .ok (.iload 4, 2) := by decide +kernel
theorem dX2_keepersOfNet_52 : decode cX2_keepersOfNet 52 = .ok (.iastore, 1) := by decide +kernel
theorem dX2_keepersOfNet_53 : decode cX2_keepersOfNet 53 = .ok (.iinc 4 1, 3) := by decide +kernel
theorem dX2_keepersOfNet_56 : decode cX2_keepersOfNet 56 = .ok (.goto (-31), 3) := by decide +kernel
theorem dX2_keepersOfNet_59 : decode cX2_keepersOfNet 59 = .ok (.iload_n 3, 1) := by decide +kernel
theorem dX2_keepersOfNet_60 : decode cX2_keepersOfNet 60 = .ok (.ireturn, 1) := by decide +kernel
set_option maxRecDepth 20000 in
theorem ggX2_placesOf_X2_goesTo : GoodIn wsX2_placesOf wsX2_goesTo := goodIn_r _ [5, 6, 7, 8, 9, 10, 11, 12, 13, 14, 15, 16, 17, 18, 19, 20, 24, 25] (by decide +kernel) (by decide +kernel)
set_option maxRecDepth 20000 in
theorem gX2_placesOf_X2_goesTo : GoodIn wsX2_placesOf (va_wsS RX2 78 yX2_goesTo wsX2_goesTo) := goodIn_app (goodIn_of _ (by decide +kernel)) ggX2_placesOf_X2_goesTo
set_option maxRecDepth 20000 in
theorem ggX2_placesOf_X2_canGoOn : GoodIn wsX2_placesOf wsX2_canGoOn := goodIn_r _ [23, 2, 3, 4, 5, 6, 7, 8, 9, 10, 11, 12, 13, 14, 15, 16, 17, 18, 19, 20, 21, 22, 24, 25] (by decide +kernel) (by decide +kernel)
set_option maxRecDepth 20000 in
theorem gX2_placesOf_X2_canGoOn : GoodIn wsX2_placesOf (va_wsS RX2 63 yX2_canGoOn wsX2_canGoOn) := goodIn_app (goodIn_of _ (by decide +kernel)) ggX2_placesOf_X2_canGoOn
theorem dX2_placesOf_0 : decode cX2_placesOf 0 = .ok (.iconst 1, 1) := by decide +kernel
theorem dX2_placesOf_1 : decode cX2_placesOf 1 = .ok (.iload_n 2, 1) := by decide +kernel
theorem dX2_placesOf_2 : decode cX2_placesOf 2 = .ok (.ishl, 1) := by decide +kernel
theorem dX2_placesOf_3 : decode cX2_placesOf 3 = .ok (.iconst 1, 1) := by decide +kernel
theorem dX2_placesOf_4 : decode cX2_placesOf 4 = .ok (.isub, 1) := by decide +kernel
theorem dX2_placesOf_5 : decode cX2_placesOf 5 = .ok (.istore_n 3, 1) := by decide +kernel
theorem dX2_placesOf_6 : decode cX2_placesOf 6 = .ok (.iconst 0, 1) := by decide +kernel
theorem dX2_placesOf_7 : decode cX2_placesOf 7 = .ok (.istore 4, 2) := by decide +kernel
theorem dX2_placesOf_9 : decode cX2_placesOf 9 = .ok (.iload_n 2, 1) := by decide +kernel
theorem dX2_placesOf_10 : decode cX2_placesOf 10 = .ok (.istore 5, 2) := by decide +kernel
theorem dX2_placesOf_12 : decode cX2_placesOf 12 = .ok (.iload 5, 2) := by decide +kernel
theorem dX2_placesOf_14 : decode cX2_placesOf 14 = .ok (.aload_n 1, 1) := by decide +kernel
theorem dX2_placesOf_15 : decode cX2_placesOf 15 = .ok (.getfield 15, 3) := by decide +kernel
theorem dX2_placesOf_18 : decode cX2_placesOf 18 = .ok (.if_icmp .ge 56, 3) := by decide +kernel
theorem dX2_placesOf_21 : decode cX2_placesOf 21 = .ok (.aload_n 1, 1) := by decide +kernel
theorem dX2_placesOf_22 : decode cX2_placesOf 22 = .ok (.aload_n 1, 1) := by decide +kernel
theorem dX2_placesOf_23 : decode cX2_placesOf 23 = .ok (.aload_n 0, 1) := by decide +kernel
theorem dX2_placesOf_24 : decode cX2_placesOf 24 = .ok (.getfield 9, 3) := by decide +kernel
theorem dX2_placesOf_27 : decode cX2_placesOf 27 = .ok (.iload_n 2, 1) := by decide +kernel
theorem dX2_placesOf_28 : decode cX2_placesOf 28 = .ok (.iload 5, 2) := by decide +kernel
theorem dX2_placesOf_30 : decode cX2_placesOf 30 = .ok (.invokestatic 78, 3) := by decide +kernel
theorem dX2_placesOf_33 : decode cX2_placesOf 33 = .ok (.ifCond .eq 35, 3) := by decide +kernel
theorem dX2_placesOf_36 : decode cX2_placesOf 36 = .ok (.aload_n 0, 1) := by decide +kernel
theorem dX2_placesOf_37 : decode cX2_placesOf 37 = .ok (.getfield 9, 3) := by decide +kernel
theorem dX2_placesOf_40 : decode cX2_placesOf 40 = .ok (.iload_n 2, 1) := by decide +kernel
theorem dX2_placesOf_41 : decode cX2_placesOf 41 = .ok (.iload 5, 2) := by decide +kernel
theorem dX2_placesOf_43 : decode cX2_placesOf 43 = .ok (.iastore, 1) := by decide +kernel
theorem dX2_placesOf_44 : decode cX2_placesOf 44 = .ok (.aload_n 1, 1) := by decide +kernel
theorem dX2_placesOf_45 : decode cX2_placesOf 45 = .ok (.aload_n 1, 1) := by decide +kernel
theorem dX2_placesOf_46 : decode cX2_placesOf 46 = .ok (.aload_n 0, 1) := by decide +kernel
theorem dX2_placesOf_47 : decode cX2_placesOf 47 = .ok (.getfield 9, 3) := by decide +kernel
theorem dX2_placesOf_50 : decode cX2_placesOf 50 = .ok (.iload_n 2, 1) := by decide +kernel
theorem dX2_placesOf_51 : decode cX2_placesOf 51 = .ok (.iconst 1, 1) := by decide +kernel
theorem dX2_placesOf_52 : decode cX2_placesOf 52 = .ok (.iadd, 1) := by decide +kernel
theorem dX2_placesOf_53 : decode cX2_placesOf 53 = .ok (.iload_n 3, 1) := by decide +kernel
theorem dX2_placesOf_54 : decode cX2_placesOf 54 = .ok (.iconst 1, 1) := by decide +kernel
theorem dX2_placesOf_55 : decode cX2_placesOf 55 = .ok (.iload 5, 2) := by decide +kernel
theorem dX2_placesOf_57 : decode cX2_placesOf 57 = .ok (.ishl, 1) := by decide +kernel
theorem dX2_placesOf_58 : decode cX2_placesOf 58 = .ok (.ior, 1) := by decide +kernel
theorem dX2_placesOf_59 : decode cX2_placesOf 59 = .ok (.invokestatic 63, 3) := by decide +kernel
theorem dX2_placesOf_62 : decode cX2_placesOf 62 = .ok (.ifCond .eq 6, 3) := by decide +kernel
theorem dX2_placesOf_65 : decode cX2_placesOf 65 = .ok (.iinc 4 1, 3) := by decide +kernel
theorem dX2_placesOf_68 : decode cX2_placesOf 68 = .ok (.iinc 5 1, 3) := by decide +kernel
theorem dX2_placesOf_71 : decode cX2_placesOf 71 = .ok (.goto (-59), 3) := by decide +kernel
theorem dX2_placesOf_74 : decode cX2_placesOf 74 = .ok (.iload 4, 2) := by decide +kernel
theorem dX2_placesOf_76 : decode cX2_placesOf 76 = .ok (.ireturn, 1) := by decide +kernel
set_option maxRecDepth 20000 in
theorem ggX2_canGoOn_X2_goesTo : GoodIn wsX2_canGoOn wsX2_goesTo := goodIn_r _ [4, 5, 6, 7, 8, 9, 10, 11, 12, 13, 14, 15, 16, 17, 18, 19, 22, 23] (by decide +kernel) (by decide +kernel)
set_option maxRecDepth 20000 in
theorem gX2_canGoOn_X2_goesTo : GoodIn wsX2_canGoOn (va_wsS RX2 78 yX2_goesTo wsX2_goesTo) := goodIn_app (goodIn_of _ (by decide +kernel)) ggX2_canGoOn_X2_goesTo
set_option maxRecDepth 20000 in
theorem ggX2_canGoOn_X2_canGoOn : GoodIn wsX2_canGoOn wsX2_canGoOn := goodIn_r _ [0, 1, 2, 3, 4, 5, 6, 7, 8, 9, 10, 11, 12, 13, 14, 15, 16, 17, 18, 19, 20, 21, 22, 23] (by decide +kernel) (by decide +kernel)
set_option maxRecDepth 20000 in
theorem gX2_canGoOn_X2_canGoOn : GoodIn wsX2_canGoOn (va_wsS RX2 63 yX2_canGoOn wsX2_canGoOn) := goodIn_app (goodIn_of _ (by decide +kernel)) ggX2_canGoOn_X2_canGoOn
theorem dX2_canGoOn_0 : decode cX2_canGoOn 0 = .ok (.iload_n 3, 1) := by decide +kernel
theorem dX2_canGoOn_1 : decode cX2_canGoOn 1 = .ok (.aload_n 0, 1) := by decide +kernel
theorem dX2_canGoOn_2 : decode cX2_canGoOn 2 = .ok (.getfield 15, 3) := by decide +kernel
theorem dX2_canGoOn_5 : decode cX2_canGoOn 5 = .ok (.if_icmp .lt 5, 3) := by decide +kernel
theorem dX2_canGoOn_8 : decode cX2_canGoOn 8 = .ok (.iconst 1, 1) := by decide +kernel
theorem dX2_canGoOn_9 : decode cX2_canGoOn 9 = .ok (.ireturn, 1) := by decide +kernel
theorem dX2_canGoOn_10 : decode cX2_canGoOn 10 = .ok (.iconst 0, 1) := by decide +kernel
theorem dX2_canGoOn_11 : decode cX2_canGoOn 11 = .ok (.istore 5, 2) := by decide +kernel
theorem dX2_canGoOn_13 : decode cX2_canGoOn 13 = .ok (.iload 5, 2) := by decide +kernel
theorem dX2_canGoOn_15 : decode cX2_canGoOn 15 = .ok (.aload_n 1, 1) := by decide +kernel
theorem dX2_canGoOn_16 : decode cX2_canGoOn 16 = .ok (.getfield 15, 3) := by decide +kernel
theorem dX2_canGoOn_19 : decode cX2_canGoOn 19 = .ok (.if_icmp .ge 57, 3) := by decide +kernel
theorem dX2_canGoOn_22 : decode cX2_canGoOn 22 = .ok (.iload 4, 2) := by decide +kernel
theorem dX2_canGoOn_24 : decode cX2_canGoOn 24 = .ok (.iload 5, 2) := by decide +kernel
theorem dX2_canGoOn_26 : decode cX2_canGoOn 26 = .ok (.ishr, 1) := by decide +kernel
theorem dX2_canGoOn_27 : decode cX2_canGoOn 27 = .ok (.iconst 1, 1) := by decide +kernel
theorem dX2_canGoOn_28 : decode cX2_canGoOn 28 = .ok (.iand, 1) := by decide +kernel
theorem dX2_canGoOn_29 : decode cX2_canGoOn 29 = .ok (.ifCond .ne 41, 3) := by decide +kernel
theorem dX2_canGoOn_32 : decode cX2_canGoOn 32 = .ok (.aload_n 0, 1) := by decide +kernel
theorem dX2_canGoOn_33 : decode cX2_canGoOn 33 = .ok (.aload_n 1, 1) := by decide +kernel
theorem dX2_canGoOn_34 : decode cX2_canGoOn 34 = .ok (.aload_n 2, 1) := by decide +kernel
theorem dX2_canGoOn_35 : decode cX2_canGoOn 35 = .ok (.iload_n 3, 1) := by decide +kernel
theorem dX2_canGoOn_36 : decode cX2_canGoOn 36 = .ok (.iload 5, 2) := by decide +kernel
theorem dX2_canGoOn_38 : decode cX2_canGoOn 38 = .ok (.invokestatic 78, 3) := by decide +kernel
theorem dX2_canGoOn_41 : decode cX2_canGoOn 41 = .ok (.ifCond .eq 29, 3) := by decide +kernel
theorem dX2_canGoOn_44 : decode cX2_canGoOn 44 = .ok (.aload_n 2, 1) := by decide +kernel
theorem dX2_canGoOn_45 : decode cX2_canGoOn 45 = .ok (.iload_n 3, 1) := by decide +kernel
theorem dX2_canGoOn_46 : decode cX2_canGoOn 46 = .ok (.iload 5, 2) := by decide +kernel
theorem dX2_canGoOn_48 : decode cX2_canGoOn 48 = .ok (.iastore, 1) := by decide +kernel
theorem dX2_canGoOn_49 : decode cX2_canGoOn 49 = .ok (.aload_n 0, 1) := by decide +kernel
theorem dX2_canGoOn_50 : decode cX2_canGoOn 50 = .ok (.aload_n 1, 1) := by decide +kernel
theorem dX2_canGoOn_51 : decode cX2_canGoOn 51 = .ok (.aload_n 2, 1) := by decide +kernel
theorem dX2_canGoOn_52 : decode cX2_canGoOn 52 = .ok (.iload_n 3, 1) := by decide +kernel
theorem dX2_canGoOn_53 : decode cX2_canGoOn 53 = .ok (.iconst 1, 1) := by decide +kernel
theorem dX2_canGoOn_54 : decode cX2_canGoOn 54 = .ok (.iadd, 1) := by decide +kernel
theorem dX2_canGoOn_55 : decode cX2_canGoOn 55 = .ok (.iload 4, 2) := by decide +kernel
theorem dX2_canGoOn_57 : decode cX2_canGoOn 57 = .ok (.iconst 1, 1) := by decide +kernel
theorem dX2_canGoOn_58 : decode cX2_canGoOn 58 = .ok (.iload 5, 2) := by decide +kernel
theorem dX2_canGoOn_60 : decode cX2_canGoOn 60 = .ok (.ishl, 1) := by decide +kernel
theorem dX2_canGoOn_61 : decode cX2_canGoOn 61 = .ok (.ior, 1) := by decide +kernel
theorem dX2_canGoOn_62 : decode cX2_canGoOn 62 = .ok (.invokestatic 63, 3) := by decide +kernel
theorem dX2_canGoOn_65 : decode cX2_canGoOn 65 = .ok (.ifCond .eq 5, 3) := by decide +kernel
theorem dX2_canGoOn_68 : decode cX2_canGoOn 68 = .ok (.iconst 1, 1) := by decide +kernel
theorem dX2_canGoOn_69 : decode cX2_canGoOn 69 = .ok (.ireturn, 1) := by decide +kernel
theorem dX2_canGoOn_70 : decode cX2_canGoOn 70 = .ok (.iinc 5 1, 3) := by decide +kernel
theorem dX2_canGoOn_73 : decode cX2_canGoOn 73 = .ok (.goto (-60), 3) := by decide +kernel
theorem dX2_canGoOn_76 : decode cX2_canGoOn 76 = .ok (.iconst 0, 1) := by decide +kernel
theorem dX2_canGoOn_77 : decode cX2_canGoOn 77 = .ok (.ireturn, 1) := by decide +kernel
set_option maxRecDepth 20000 in
theorem ggX2_goesTo_X0_degree : GoodIn wsX2_goesTo wsX0_degree := goodIn_r _ [4, 5, 6, 7, 8, 9, 10, 11, 12, 16, 17] (by decide +kernel) (by decide +kernel)
set_option maxRecDepth 20000 in
theorem gX2_goesTo_X0_degree_n81 : GoodIn wsX2_goesTo (wsX0_degree) := ggX2_goesTo_X0_degree
set_option maxRecDepth 20000 in
theorem ggX2_goesTo_X0_joined : GoodIn wsX2_goesTo wsX0_joined := goodIn_r _ [15, 5, 16, 17] (by decide +kernel) (by decide +kernel)
set_option maxRecDepth 20000 in
theorem gX2_goesTo_X0_joined_n60 : GoodIn wsX2_goesTo (wsX0_joined) := ggX2_goesTo_X0_joined
theorem dX2_goesTo_0 : decode cX2_goesTo 0 = .ok (.aload_n 0, 1) := by decide +kernel
theorem dX2_goesTo_1 : decode cX2_goesTo 1 = .ok (.iload_n 3, 1) := by decide +kernel
theorem dX2_goesTo_2 : decode cX2_goesTo 2 = .ok (.invokevirtual 81, 3) := by decide +kernel
theorem dX2_goesTo_5 : decode cX2_goesTo 5 = .ok (.aload_n 1, 1) := by decide +kernel
theorem dX2_goesTo_6 : decode cX2_goesTo 6 = .ok (.iload 4, 2) := by decide +kernel
theorem dX2_goesTo_8 : decode cX2_goesTo 8 = .ok (.invokevirtual 81, 3) := by decide +kernel
theorem dX2_goesTo_11 : decode cX2_goesTo 11 = .ok (.if_icmp .eq 5, 3) := by decide +kernel
theorem dX2_goesTo_14 : decode cX2_goesTo 14 = .ok (.iconst 0, 1) := by decide +kernel
theorem dX2_goesTo_15 : decode cX2_goesTo 15 = .ok (.ireturn, 1) := by decide +kernel
theorem dX2_goesTo_16 : decode cX2_goesTo 16 = .ok (.iconst 0, 1) := by decide +kernel
theorem dX2_goesTo_17 : decode cX2_goesTo 17 = .ok (.istore 5, 2) := by decide +kernel
theorem dX2_goesTo_19 : decode cX2_goesTo 19 = .ok (.iload 5, 2) := by decide +kernel
theorem dX2_goesTo_21 : decode cX2_goesTo 21 = .ok (.iload_n 3, 1) := by decide +kernel
theorem dX2_goesTo_22 : decode cX2_goesTo 22 = .ok (.if_icmp .ge 31, 3) := by decide +kernel
theorem dX2_goesTo_25 : decode cX2_goesTo 25 = .ok (.aload_n 0, 1) := by decide +kernel
theorem dX2_goesTo_26 : decode cX2_goesTo 26 = .ok (.iload 5, 2) := by decide +kernel
theorem dX2_goesTo_28 : decode cX2_goesTo 28 = .ok (.iload_n 3, 1) := by decide +kernel
theorem dX2_goesTo_29 : decode cX2_goesTo 29 = .ok (.invokevirtual 60, 3) := by decide +kernel
theorem dX2_goesTo_32 : decode cX2_goesTo 32 = .ok (.aload_n 1, 1) := by decide +kernel
theorem dX2_goesTo_33 : decode cX2_goesTo 33 = .ok (.aload_n 2, 1) := by decide +kernel
theorem dX2_goesTo_34 : decode cX2_goesTo 34 = .ok (.iload 5, 2) := by decide +kernel
theorem dX2_goesTo_36 : decode cX2_goesTo 36 = .ok (.iaload, 1) := by decide +kernel
theorem dX2_goesTo_37 : decode cX2_goesTo 37 = .ok (.iload 4, 2) := by decide +kernel
theorem dX2_goesTo_39 : decode cX2_goesTo 39 = .ok (.invokevirtual 60, 3) := by decide +kernel
theorem dX2_goesTo_42 : decode cX2_goesTo 42 = .ok (.if_icmp .eq 5, 3) := by decide +kernel
theorem dX2_goesTo_45 : decode cX2_goesTo 45 = .ok (.iconst 0, 1) := by decide +kernel
theorem dX2_goesTo_46 : decode cX2_goesTo 46 = .ok (.ireturn, 1) := by decide +kernel
theorem dX2_goesTo_47 : decode cX2_goesTo 47 = .ok (.iinc 5 1, 3) := by decide +kernel
theorem dX2_goesTo_50 : decode cX2_goesTo 50 = .ok (.goto (-31), 3) := by decide +kernel
theorem dX2_goesTo_53 : decode cX2_goesTo 53 = .ok (.iconst 1, 1) := by decide +kernel
theorem dX2_goesTo_54 : decode cX2_goesTo 54 = .ok (.ireturn, 1) := by decide +kernel
theorem dX3_init_0 : decode cX3_init 0 = .ok (.aload_n 0, 1) := by decide +kernel
theorem dX3_init_1 : decode cX3_init 1 = .ok (.invokespecial 3, 3) := by decide +kernel
theorem dX3_init_4 : decode cX3_init 4 = .ok (.aload_n 0, 1) := by decide +kernel
theorem dX3_init_5 : decode cX3_init 5 = .ok (.iconst 0, 1) := by decide +kernel
theorem dX3_init_6 : decode cX3_init 6 = .ok (.putfield 9, 3) := by decide +kernel
theorem dX3_init_9 : decode cX3_init 9 = .ok (.aload_n 0, 1) := by decide +kernel
theorem dX3_init_10 : decode cX3_init 10 = .ok (.iconst 3, 1) := by decide +kernel
theorem dX3_init_11 : decode cX3_init 11 = .ok (.newarray .int, 2) := by decide +kernel
theorem dX3_init_13 : decode cX3_init 13 = .ok (.putfield 15, 3) := by decide +kernel
theorem dX3_init_16 : decode cX3_init 16 = .ok (.return_, 1) := by decide +kernel
set_option maxRecDepth 20000 in
theorem ggX3_clear_J7_fill_53178 : GoodIn wsX3_clear wsJ7_fill_53178 := goodIn_r _ [6] (by decide +kernel) (by decide +kernel)
set_option maxRecDepth 20000 in
theorem gX3_clear_J7_fill_53178 : GoodIn wsX3_clear (va_wsS RX3 19 yJ7_fill_53178 wsJ7_fill_53178) := goodIn_app (goodIn_of _ (by decide +kernel)) ggX3_clear_J7_fill_53178
theorem dX3_clear_0 : decode cX3_clear 0 = .ok (.aload_n 0, 1) := by decide +kernel
theorem dX3_clear_1 : decode cX3_clear 1 = .ok (.iload_n 1, 1) := by decide +kernel
theorem dX3_clear_2 : decode cX3_clear 2 = .ok (.putfield 9, 3) := by decide +kernel
theorem dX3_clear_5 : decode cX3_clear 5 = .ok (.aload_n 0, 1) := by decide +kernel
theorem dX3_clear_6 : decode cX3_clear 6 = .ok (.getfield 15, 3) := by decide +kernel
theorem dX3_clear_9 : decode cX3_clear 9 = .ok (.iconst 0, 1) := by decide +kernel
theorem dX3_clear_10 : decode cX3_clear 10 = .ok (.invokestatic 19, 3) := by decide +kernel
theorem dX3_clear_13 : decode cX3_clear 13 = .ok (.return_, 1) := by decide +kernel
theorem dX3_copy_0 : decode cX3_copy 0 = .ok (.aload_n 0, 1) := by decide +kernel
theorem dX3_copy_1 : decode cX3_copy 1 = .ok (.aload_n 1, 1) := by decide +kernel
theorem dX3_copy_2 : decode cX3_copy 2 = .ok (.getfield 9, 3) := by decide +kernel
theorem dX3_copy_5 : decode cX3_copy 5 = .ok (.putfield 9, 3) := by decide +kernel
theorem dX3_copy_8 : decode cX3_copy 8 = .ok (.aload_n 1, 1) := by decide +kernel
theorem dX3_copy_9 : decode cX3_copy 9 = .ok (.getfield 15, 3) := by decide +kernel
theorem dX3_copy_12 : decode cX3_copy 12 = .ok (.iconst 0, 1) := by decide +kernel
theorem dX3_copy_13 : decode cX3_copy 13 = .ok (.aload_n 0, 1) := by decide +kernel
theorem dX3_copy_14 : decode cX3_copy 14 = .ok (.getfield 15, 3) := by decide +kernel
theorem dX3_copy_17 : decode cX3_copy 17 = .ok (.iconst 0, 1) := by decide +kernel
theorem dX3_copy_18 : decode cX3_copy 18 = .ok (.iconst 3, 1) := by decide +kernel
theorem dX3_copy_19 : decode cX3_copy 19 = .ok (.invokestatic 25, 3) := by decide +kernel
theorem dX3_copy_22 : decode cX3_copy 22 = .ok (.return_, 1) := by decide +kernel
theorem dX3_isUnused_0 : decode cX3_isUnused 0 = .ok (.aload_n 0, 1) := by decide +kernel
theorem dX3_isUnused_1 : decode cX3_isUnused 1 = .ok (.getfield 9, 3) := by decide +kernel
theorem dX3_isUnused_4 : decode cX3_isUnused 4 = .ok (.ifCond .ne 7, 3) := by decide +kernel
theorem dX3_isUnused_7 : decode cX3_isUnused 7 = .ok (.iconst 1, 1) := by decide +kernel
theorem dX3_isUnused_8 : decode cX3_isUnused 8 = .ok (.goto 4, 3) := by decide +kernel
theorem dX3_isUnused_11 : decode cX3_isUnused 11 = .ok (.iconst 0, 1) := by decide +kernel
theorem dX3_isUnused_12 : decode cX3_isUnused 12 = .ok (.ireturn, 1) := by decide +kernel
theorem dX4_init_0 : decode cX4_init 0 = .ok (.aload_n 0, 1) := by decide +kernel
theorem dX4_init_1 : decode cX4_init 1 = .ok (.invokespecial 3, 3) := by decide +kernel
theorem dX4_init_4 : decode cX4_init 4 = .ok (.aload_n 0, 1) := by decide +kernel
theorem dX4_init_5 : decode cX4_init 5 = .ok (.iconst 0, 1) := by decide +kernel
theorem dX4_init_6 : decode cX4_init 6 = .ok (.putfield 9, 3) := by decide +kernel
theorem dX4_init_9 : decode cX4_init 9 = .ok (.aload_n 0, 1) := by decide +kernel
theorem dX4_init_10 : decode cX4_init 10 = .ok (.iconst 0, 1) := by decide +kernel
theorem dX4_init_11 : decode cX4_init 11 = .ok (.putfield 15, 3) := by decide +kernel
theorem dX4_init_14 : decode cX4_init 14 = .ok (.aload_n 0, 1) := by decide +kernel
theorem dX4_init_15 : decode cX4_init 15 = .ok (.iconst 1, 1) := by decide +kernel
theorem dX4_init_16 : decode cX4_init 16 = .ok (.putfield 18, 3) := by decide +kernel
theorem dX4_init_19 : decode cX4_init 19 = .ok (.aload_n 0, 1) := by decide +kernel
theorem dX4_init_20 : decode cX4_init 20 = .ok (.lconst 1, 1) := by decide +kernel
theorem dX4_init_21 : decode cX4_init 21 = .ok (.putfield 21, 3) := by decide +kernel
theorem dX4_init_24 : decode cX4_init 24 = .ok (.aload_n 0, 1) := by decide +kernel
theorem dX4_init_25 : decode cX4_init 25 = .ok (.bipush 7, 2) := by decide +kernel
theorem dX4_init_27 : decode cX4_init 27 = .ok (.bipush 7, 2) := by decide +kernel
theorem dX4_init_29 : decode cX4_init 29 = .ok (.multianewarray 25 2, 4) := by decide +kernel
theorem dX4_init_33 : decode cX4_init 33 = .ok (.putfield 27, 3) := by decide +kernel
theorem dX4_init_36 : decode cX4_init 36 = .ok (.return_, 1) := by decide +kernel
set_option maxRecDepth 20000 in
theorem ggX4_fill_X0_joined : GoodIn wsX4_fill wsX0_joined := goodIn_r _ [6, 7, 8, 9] (by decide +kernel) (by decide +kernel)
set_option maxRecDepth 20000 in
theorem gX4_fill_X0_joined_n33 : GoodIn wsX4_fill (wsX0_joined) := ggX4_fill_X0_joined
theorem dX4_fill_0 : decode cX4_fill 0 = .ok (.aload_n 0, 1) := by decide +kernel
theorem dX4_fill_1 : decode cX4_fill 1 = .ok (.aload_n 1, 1) := by decide +kernel
theorem dX4_fill_2 : decode cX4_fill 2 = .ok (.getfield 30, 3) := by decide +kernel
theorem dX4_fill_5 : decode cX4_fill 5 = .ok (.putfield 9, 3) := by decide +kernel
theorem dX4_fill_8 : decode cX4_fill 8 = .ok (.iconst 0, 1) := by decide +kernel
theorem dX4_fill_9 : decode cX4_fill 9 = .ok (.istore_n 3, 1) := by decide +kernel
theorem dX4_fill_10 : decode cX4_fill 10 = .ok (.iload_n 3, 1) := by decide +kernel
theorem dX4_fill_11 : decode cX4_fill 11 = .ok (.aload_n 0, 1) := by decide +kernel
theorem dX4_fill_12 : decode cX4_fill 12 = .ok (.getfield 9, 3) := by decide +kernel
theorem dX4_fill_15 : decode cX4_fill 15 = .ok (.if_icmp .ge 60, 3) := by decide +kernel
theorem dX4_fill_18 : decode cX4_fill 18 = .ok (.iconst 0, 1) := by decide +kernel
theorem dX4_fill_19 : decode cX4_fill 19 = .ok (.istore 4, 2) := by decide +kernel
theorem dX4_fill_21 : decode cX4_fill 21 = .ok (.iload 4, 2) := by decide +kernel
theorem dX4_fill_23 : decode cX4_fill 23 = .ok (.aload_n 0, 1) := by decide +kernel
theorem dX4_fill_24 : decode cX4_fill 24 = .ok (.getfield 9, 3) := by decide +kernel
theorem dX4_fill_27 : decode cX4_fill 27 = .ok (.if_icmp .ge 42, 3) := by decide +kernel
theorem dX4_fill_30 : decode cX4_fill 30 = .ok (.aload_n 0, 1) := by decide +kernel
theorem dX4_fill_31 : decode cX4_fill 31 = .ok (.getfield 27, 3) := by decide +kernel
theorem dX4_fill_34 : decode cX4_fill 34 = .ok (.iload_n 3, 1) := by decide +kernel
theorem dX4_fill_35 : decode cX4_fill 35 = .ok (.aaload, 1) := by decide +kernel
theorem dX4_fill_36 : decode cX4_fill 36 = .ok (.iload 4, 2) := by decide +kernel
theorem dX4_fill_38 : decode cX4_fill 38 = .ok (.iload_n 3, 1) := by decide +kernel
theorem dX4_fill_39 : decode cX4_fill 39 = .ok (.iload 4, 2) := by decide +kernel
theorem dX4_fill_41 : decode cX4_fill 41 = .ok (.if_icmp .ne 9, 3) := by decide +kernel
theorem dX4_fill_44 : decode cX4_fill 44 = .ok (.iload_n 2, 1) := by decide +kernel
theorem dX4_fill_45 : decode cX4_fill 45 = .ok (.ineg, 1) := by decide +kernel
theorem dX4_fill_46 : decode cX4_fill 46 = .ok (.i2l, 1) := by decide +kernel
theorem dX4_fill_47 : decode cX4_fill 47 = .ok (.goto 15, 3) := by decide +kernel
theorem dX4_fill_50 : decode cX4_fill 50 = .ok (.iconst 1, 1) := by decide +kernel
theorem dX4_fill_51 : decode cX4_fill 51 = .ok (.iconst 2, 1) := by decide +kernel
theorem dX4_fill_52 : decode cX4_fill 52 = .ok (.aload_n 1, 1) := by decide +kernel
theorem dX4_fill_53 : decode cX4_fill 53 = .ok (.iload_n 3, 1) := by decide +kernel
theorem dX4_fill_54 : decode cX4_fill 54 = .ok (.iload 4, 2) := by decide +kernel
theorem dX4_fill_56 : decode cX4_fill 56 = .ok (.invokevirtual 33, 3) := by decide +kernel
theorem dX4_fill_59 : decode cX4_fill 59 = .ok (.imul, 1) := by decide +kernel
theorem dX4_fill_60 : decode cX4_fill 60 = .ok (.isub, 1) := by decide +kernel
theorem dX4_fill_61 : decode cX4_fill 61 = .ok (.i2l, 1) := by decide +kernel
theorem dX4_fill_62 : decode cX4_fill 62 = .ok (.lastore, 1) := by decide +kernel
theorem dX4_fill_63 : decode cX4_fill 63 = .ok (.iinc 4 1, 3) := by decide +kernel
theorem dX4_fill_66 : decode cX4_fill 66 = .ok (.goto (-45), 3) := by decide +kernel
theorem dX4_fill_69 : decode cX4_fill 69 = .ok (.iinc 3 1, 3) := by decide +kernel
theorem dX4_fill_72 : decode cX4_fill 72 = .ok (.goto (-62), 3) := by decide +kernel
theorem dX4_fill_75 : decode cX4_fill 75 = .ok (.return_, 1) := by decide +kernel
set_option maxRecDepth 20000 in
theorem ggX4_eliminate_X4_pivotRow : GoodIn wsX4_eliminate wsX4_pivotRow := goodIn_r _ [10, 1, 4, 5, 19, 20, 21, 22, 23] (by decide +kernel) (by decide +kernel)
set_option maxRecDepth 20000 in
theorem gX4_eliminate_X4_pivotRow : GoodIn wsX4_eliminate (wsV RX4 37 RX4 yX4_pivotRow wsX4_pivotRow) := goodIn_app (goodIn_of _ (by decide +kernel)) ggX4_eliminate_X4_pivotRow
set_option maxRecDepth 20000 in
theorem ggX4_eliminate_X4_bringUp : GoodIn wsX4_eliminate wsX4_bringUp := goodIn_r _ [14, 1, 4, 5, 2, 19, 20, 21, 22, 23] (by decide +kernel) (by decide +kernel)
set_option maxRecDepth 20000 in
theorem gX4_eliminate_X4_bringUp : GoodIn wsX4_eliminate (wsV RX4 41 RX4 yX4_bringUp wsX4_bringUp) := goodIn_app (goodIn_of _ (by decide +kernel)) ggX4_eliminate_X4_bringUp
set_option maxRecDepth 20000 in
theorem ggX4_eliminate_X4_clearBelow : GoodIn wsX4_eliminate wsX4_clearBelow := goodIn_r _ [18, 3, 5, 1, 4, 19, 20, 21, 22, 23] (by decide +kernel) (by decide +kernel)
set_option maxRecDepth 20000 in
theorem gX4_eliminate_X4_clearBelow : GoodIn wsX4_eliminate (wsV RX4 45 RX4 yX4_clearBelow wsX4_clearBelow) := goodIn_app (goodIn_of _ (by decide +kernel)) ggX4_eliminate_X4_clearBelow
theorem dX4_eliminate_0 : decode cX4_eliminate 0 = .ok (.aload_n 0, 1) := by decide +kernel
theorem dX4_eliminate_1 : decode cX4_eliminate 1 = .ok (.iconst 0, 1) := by decide +kernel
theorem dX4_eliminate_2 : decode cX4_eliminate 2 = .ok (.putfield 15, 3) := by decide +kernel
theorem dX4_eliminate_5 : decode cX4_eliminate 5 = .ok (.aload_n 0, 1) := by decide +kernel
theorem dX4_eliminate_6 : decode cX4_eliminate 6 = .ok (.iconst 1, 1) := by decide +kernel
theorem dX4_eliminate_7 : decode cX4_eliminate 7 = .ok (.putfield 18, 3) := by decide +kernel
theorem dX4_eliminate_10 : decode cX4_eliminate 10 = .ok (.aload_n 0, 1) := by decide +kernel
theorem dX4_eliminate_11 : decode cX4_eliminate 11 = .ok (.lconst 1, 1) := by decide +kernel
theorem dX4_eliminate_12 : decode cX4_eliminate 12 = .ok (.putfield 21, 3) := by decide +kernel
theorem dX4_eliminate_15 : decode cX4_eliminate 15 = .ok (.iconst 0, 1) := by decide +kernel
theorem dX4_eliminate_16 : decode cX4_eliminate 16 = .ok (.istore_n 1, 1) := by decide +kernel
theorem dX4_eliminate_17 : decode cX4_eliminate 17 = .ok (.iload_n 1, 1) := by decide +kernel
theorem dX4_eliminate_18 : decode cX4_eliminate 18 = .ok (.aload_n 0, 1) := by decide +kernel
theorem dX4_eliminate_19 : decode cX4_eliminate 19 = .ok (.getfield 9, 3) := by decide +kernel
theorem dX4_eliminate_22 : decode cX4_eliminate 22 = .ok (.if_icmp .ge 58, 3) := by decide +kernel
theorem dX4_eliminate_25 : decode cX4_eliminate 25 = .ok (.aload_n 0, 1) := by decide +kernel
theorem dX4_eliminate_26 : decode cX4_eliminate 26 = .ok (.iload_n 1, 1) := by decide +kernel
theorem dX4_eliminate_27 : decode cX4_eliminate 27 = .ok (.invokevirtual 37, 3) := by decide +kernel
theorem dX4_eliminate_30 : decode cX4_eliminate 30 = .ok (.istore_n 2, 1) := by decide +kernel
theorem dX4_eliminate_31 : decode cX4_eliminate 31 = .ok (.iload_n 2, 1) := by decide +kernel
theorem dX4_eliminate_32 : decode cX4_eliminate 32 = .ok (.aload_n 0, 1) := by decide +kernel
theorem dX4_eliminate_33 : decode cX4_eliminate 33 = .ok (.getfield 9, 3) := by decide +kernel
theorem dX4_eliminate_36 : decode cX4_eliminate 36 = .ok (.if_icmp .ge 38, 3) := by decide +kernel
theorem dX4_eliminate_39 : decode cX4_eliminate 39 = .ok (.aload_n 0, 1) := by decide +kernel
theorem dX4_eliminate_40 : decode cX4_eliminate 40 = .ok (.iload_n 2, 1) := by decide +kernel
theorem dX4_eliminate_41 : decode cX4_eliminate 41 = .ok (.invokevirtual 41, 3) := by decide +kernel
theorem dX4_eliminate_44 : decode cX4_eliminate 44 = .ok (.aload_n 0, 1) := by decide +kernel
theorem dX4_eliminate_45 : decode cX4_eliminate 45 = .ok (.iload_n 1, 1) := by decide +kernel
theorem dX4_eliminate_46 : decode cX4_eliminate 46 = .ok (.invokevirtual 45, 3) := by decide +kernel
theorem dX4_eliminate_49 : decode cX4_eliminate 49 = .ok (.aload_n 0, 1) := by decide +kernel
theorem dX4_eliminate_50 : decode cX4_eliminate 50 = .ok (.aload_n 0, 1) := by decide +kernel
theorem dX4_eliminate_51 : decode cX4_eliminate 51 = .ok (.getfield 27, 3) := by decide +kernel
theorem dX4_eliminate_54 : decode cX4_eliminate 54 = .ok (.aload_n 0, 1) := by decide +kernel
theorem dX4_eliminate_55 : decode cX4_eliminate 55 = .ok (.getfield 15, 3) := by decide +kernel
theorem dX4_eliminate_58 : decode cX4_eliminate 58 = .ok (.aaload, 1) := by decide +kernel
theorem dX4_eliminate_59 : decode cX4_eliminate 59 = .ok (.iload_n 1, 1) := by decide +kernel
theorem dX4_eliminate_60 : decode cX4_eliminate 60 = .ok (.laload, 1) := by decide +kernel
theorem dX4_eliminate_61 : decode cX4_eliminate 61 = .ok (.putfield 21, 3) := by decide +kernel
theorem dX4_eliminate_64 : decode cX4_eliminate 64 = .ok (.aload_n 0, 1) := by decide +kernel
theorem dX4_eliminate_65 : decode cX4_eliminate 65 = .ok (.dup, 1) := by decide +kernel
theorem dX4_eliminate_66 : decode cX4_eliminate 66 = .ok (.getfield 15, 3) := by decide +kernel
theorem dX4_eliminate_69 : decode cX4_eliminate 69 = .ok (.iconst 1, 1) := by decide +kernel
theorem dX4_eliminate_70 : decode cX4_eliminate 70 = .ok (.iadd, 1) := by decide +kernel
theorem dX4_eliminate_71 : decode cX4_eliminate 71 = .ok (.putfield 15, 3) := by decide +kernel
theorem dX4_eliminate_74 : decode cX4_eliminate 74 = .ok (.iinc 1 1, 3) := by decide +kernel
theorem dX4_eliminate_77 : decode cX4_eliminate 77 = .ok (.goto (-60), 3) := by decide +kernel
theorem dX4_eliminate_80 : decode cX4_eliminate 80 = .ok (.return_, 1) := by decide +kernel
theorem dX4_pivotRow_0 : decode cX4_pivotRow 0 = .ok (.aload_n 0, 1) := by decide +kernel
theorem dX4_pivotRow_1 : decode cX4_pivotRow 1 = .ok (.getfield 15, 3) := by decide +kernel
theorem dX4_pivotRow_4 : decode cX4_pivotRow 4 = .ok (.istore_n 2, 1) := by decide +kernel
theorem dX4_pivotRow_5 : decode cX4_pivotRow 5 = .ok (.iload_n 2, 1) := by decide +kernel
theorem dX4_pivotRow_6 : decode cX4_pivotRow 6 = .ok (.aload_n 0, 1) := by decide +kernel
theorem dX4_pivotRow_7 : decode cX4_pivotRow 7 = .ok (.getfield 9, 3) := by decide +kernel
theorem dX4_pivotRow_10 : decode cX4_pivotRow 10 = .ok (.if_icmp .ge 22, 3) := by decide +kernel
theorem dX4_pivotRow_13 : decode cX4_pivotRow 13 = .ok (.aload_n 0, 1) := by decide +kernel
theorem dX4_pivotRow_14 : decode cX4_pivotRow 14 = .ok (.getfield 27, 3) := by decide +kernel
theorem dX4_pivotRow_17 : decode cX4_pivotRow 17 = .ok (.iload_n 2, 1) := by decide +kernel
theorem dX4_pivotRow_18 : decode cX4_pivotRow 18 = .ok (.aaload, 1) := by decide +kernel
theorem dX4_pivotRow_19 : decode cX4_pivotRow 19 = .ok (.iload_n 1, 1) := by decide +kernel
theorem dX4_pivotRow_20 : decode cX4_pivotRow 20 = .ok (.laload, 1) := by decide +kernel
theorem dX4_pivotRow_21 : decode cX4_pivotRow 21 = .ok (.lconst 0, 1) := by decide +kernel
theorem dX4_pivotRow_22 : decode cX4_pivotRow 22 = .ok (.lcmp, 1) := by decide +kernel
theorem dX4_pivotRow_23 : decode cX4_pivotRow 23 = .ok (.ifCond .ne 9, 3) := by decide +kernel
theorem dX4_pivotRow_26 : decode cX4_pivotRow 26 = .ok (.iinc 2 1, 3) := by decide +kernel
theorem dX4_pivotRow_29 : decode cX4_pivotRow 29 = .ok (.goto (-24), 3) := by decide +kernel
theorem dX4_pivotRow_32 : decode cX4_pivotRow 32 = .ok (.iload_n 2, 1) := by decide +kernel
theorem dX4_pivotRow_33 : decode cX4_pivotRow 33 = .ok (.ireturn, 1) := by decide +kernel
theorem dX4_bringUp_0 : decode cX4_bringUp 0 = .ok (.iload_n 1, 1) := by decide +kernel
theorem dX4_bringUp_1 : decode cX4_bringUp 1 = .ok (.aload_n 0, 1) := by decide +kernel
theorem dX4_bringUp_2 : decode cX4_bringUp 2 = .ok (.getfield 15, 3) := by decide +kernel
theorem dX4_bringUp_5 : decode cX4_bringUp 5 = .ok (.if_icmp .ne 4, 3) := by decide +kernel
theorem dX4_bringUp_8 : decode cX4_bringUp 8 = .ok (.return_, 1) := by decide +kernel
theorem dX4_bringUp_9 : decode cX4_bringUp 9 = .ok (.iconst 0, 1) := by decide +kernel
theorem dX4_bringUp_10 : decode cX4_bringUp 10 = .ok (.istore_n 2, 1) := by decide +kernel
theorem dX4_bringUp_11 : decode cX4_bringUp 11 = .ok (.iload_n 2, 1) := by decide +kernel
theorem dX4_bringUp_12 : decode cX4_bringUp 12 = .ok (.aload_n 0, 1) := by decide +kernel
theorem dX4_bringUp_13 : decode cX4_bringUp 13 = .ok (.getfield 9, 3) := by decide +kernel
theorem dX4_bringUp_16 : decode cX4_bringUp 16 = .ok (.if_icmp .ge 49, 3) := by decide +kernel
theorem dX4_bringUp_19 : decode cX4_bringUp 19 = .ok (.aload_n 0, 1) := by decide +kernel
theorem dX4_bringUp_20 : decode cX4_bringUp 20 = .ok (.getfield 27, 3) := by decide +kernel
theorem dX4_bringUp_23 : decode cX4_bringUp 23 = .ok (.aload_n 0, 1) := by decide +kernel
theorem dX4_bringUp_24 : decode cX4_bringUp 24 = .ok (.getfield 15, 3) := by decide +kernel
theorem dX4_bringUp_27 : decode cX4_bringUp 27 = .ok (.aaload, 1) := by decide +kernel
theorem dX4_bringUp_28 : decode cX4_bringUp 28 = .ok (.iload_n 2, 1) := by decide +kernel
theorem dX4_bringUp_29 : decode cX4_bringUp 29 = .ok (.laload, 1) := by decide +kernel
theorem dX4_bringUp_30 : decode cX4_bringUp 30 = .ok (.lstore_n 3, 1) := by decide +kernel
theorem dX4_bringUp_31 : decode cX4_bringUp 31 = .ok (.aload_n 0, 1) := by decide +kernel
theorem dX4_bringUp_32 : decode cX4_bringUp 32 = .ok (.getfield 27, 3) := by decide +kernel
theorem dX4_bringUp_35 : decode cX4_bringUp 35 = .ok (.aload_n 0, 1) := by decide +kernel
theorem dX4_bringUp_36 : decode cX4_bringUp 36 = .ok (.getfield 15, 3) := by decide +kernel
theorem dX4_bringUp_39 : decode cX4_bringUp 39 = .ok (.aaload, 1) := by decide +kernel
theorem dX4_bringUp_40 : decode cX4_bringUp 40 = .ok (.iload_n 2, 1) := by decide +kernel
theorem dX4_bringUp_41 : decode cX4_bringUp 41 = .ok (.aload_n 0, 1) := by decide +kernel
theorem dX4_bringUp_42 : decode cX4_bringUp 42 = .ok (.getfield 27, 3) := by decide +kernel
theorem dX4_bringUp_45 : decode cX4_bringUp 45 = .ok (.iload_n 1, 1) := by decide +kernel
theorem dX4_bringUp_46 : decode cX4_bringUp 46 = .ok (.aaload, 1) := by decide +kernel
theorem dX4_bringUp_47 : decode cX4_bringUp 47 = .ok (.iload_n 2, 1) := by decide +kernel
theorem dX4_bringUp_48 : decode cX4_bringUp 48 = .ok (.laload, 1) := by decide +kernel
theorem dX4_bringUp_49 : decode cX4_bringUp 49 = .ok (.lastore, 1) := by decide +kernel
theorem dX4_bringUp_50 : decode cX4_bringUp 50 = .ok (.aload_n 0, 1) := by decide +kernel
theorem dX4_bringUp_51 : decode cX4_bringUp 51 = .ok (.getfield 27, 3) := by decide +kernel
theorem dX4_bringUp_54 : decode cX4_bringUp 54 = .ok (.iload_n 1, 1) := by decide +kernel
theorem dX4_bringUp_55 : decode cX4_bringUp 55 = .ok (.aaload, 1) := by decide +kernel
theorem dX4_bringUp_56 : decode cX4_bringUp 56 = .ok (.iload_n 2, 1) := by decide +kernel
theorem dX4_bringUp_57 : decode cX4_bringUp 57 = .ok (.lload_n 3, 1) := by decide +kernel
theorem dX4_bringUp_58 : decode cX4_bringUp 58 = .ok (.lastore, 1) := by decide +kernel
theorem dX4_bringUp_59 : decode cX4_bringUp 59 = .ok (.iinc 2 1, 3) := by decide +kernel
theorem dX4_bringUp_62 : decode cX4_bringUp 62 = .ok (.goto (-51), 3) := by decide +kernel
theorem dX4_bringUp_65 : decode cX4_bringUp 65 = .ok (.aload_n 0, 1) := by decide +kernel
theorem dX4_bringUp_66 : decode cX4_bringUp 66 = .ok (.aload_n 0, 1) := by decide +kernel
theorem dX4_bringUp_67 : decode cX4_bringUp 67 = .ok (.getfield 18, 3) := by decide +kernel
theorem dX4_bringUp_70 : decode cX4_bringUp 70 = .ok (.ineg, 1) := by decide +kernel
theorem dX4_bringUp_71 : decode cX4_bringUp 71 = .ok (.putfield 18, 3) := by decide +kernel
theorem dX4_bringUp_74 : decode cX4_bringUp 74 = .ok (.return_, 1) := by decide +kernel
theorem dX4_clearBelow_0 : decode cX4_clearBelow 0 = .ok (.aload_n 0, 1) := by decide +kernel
theorem dX4_clearBelow_1 : decode cX4_clearBelow 1 = .ok (.getfield 21, 3) := by decide +kernel
theorem dX4_clearBelow_4 : decode cX4_clearBelow 4 = .ok (.lconst 0, 1) := by decide +kernel
theorem dX4_clearBelow_5 : decode cX4_clearBelow 5 = .ok (.lcmp, 1) := by decide +kernel
theorem dX4_clearBelow_6 : decode cX4_clearBelow 6 = .ok (.ifCond .ne 4, 3) := by decide +kernel
theorem dX4_clearBelow_9 : decode cX4_clearBelow 9 = .ok (.return_, 1) := by decide +kernel
theorem dX4_clearBelow_10 : decode cX4_clearBelow 10 = .ok (.aload_n 0, 1) := by decide +kernel
theorem dX4_clearBelow_11 : decode cX4_clearBelow 11 = .ok (.getfield 27, 3) := by decide +kernel
theorem dX4_clearBelow_14 : decode cX4_clearBelow 14 = .ok (.aload_n 0, 1) := by decide +kernel
theorem dX4_clearBelow_15 : decode cX4_clearBelow 15 = .ok (.getfield 15, 3) := by decide +kernel
theorem dX4_clearBelow_18 : decode cX4_clearBelow 18 = .ok (.aaload, 1) := by decide +kernel
theorem dX4_clearBelow_19 : decode cX4_clearBelow 19 = .ok (.iload_n 1, 1) := by decide +kernel
theorem dX4_clearBelow_20 : decode cX4_clearBelow 20 = .ok (.laload, 1) := by decide +kernel
theorem dX4_clearBelow_21 : decode cX4_clearBelow 21 = .ok (.lstore_n 2, 1) := by decide +kernel
theorem dX4_clearBelow_22 : decode cX4_clearBelow 22 = .ok (.aload_n 0, 1) := by decide +kernel
theorem dX4_clearBelow_23 : decode cX4_clearBelow 23 = .ok (.getfield 15, 3) := by decide +kernel
theorem dX4_clearBelow_26 : decode cX4_clearBelow 26 = .ok (.iconst 1, 1) := by decide +kernel
theorem dX4_clearBelow_27 : decode cX4_clearBelow 27 = .ok (.iadd, 1) := by decide +kernel
theorem dX4_clearBelow_28 : decode cX4_clearBelow 28 = .ok (.istore 4, 2) := by decide +kernel
theorem dX4_clearBelow_30 : decode cX4_clearBelow 30 = .ok (.iload 4, 2) := by decide +kernel
theorem dX4_clearBelow_32 : decode cX4_clearBelow 32 = .ok (.aload_n 0, 1) := by decide +kernel
theorem dX4_clearBelow_33 : decode cX4_clearBelow 33 = .ok (.getfield 9, 3) := by decide +kernel
theorem dX4_clearBelow_36 : decode cX4_clearBelow 36 = .ok (.if_icmp .ge 81, 3) := by decide +kernel
theorem dX4_clearBelow_39 : decode cX4_clearBelow 39 = .ok (.aload_n 0, 1) := by decide +kernel
theorem dX4_clearBelow_40 : decode cX4_clearBelow 40 = .ok (.getfield 27, 3) := by decide +kernel
theorem dX4_clearBelow_43 : decode cX4_clearBelow 43 = .ok (.iload 4, 2) := by decide +kernel
theorem dX4_clearBelow_45 : decode cX4_clearBelow 45 = .ok (.aaload, 1) := by decide +kernel
theorem dX4_clearBelow_46 : decode cX4_clearBelow 46 = .ok (.iload_n 1, 1) := by decide +kernel
theorem dX4_clearBelow_47 : decode cX4_clearBelow 47 = .ok (.laload, 1) := by decide +kernel
theorem dX4_clearBelow_48 : decode cX4_clearBelow 48 = .ok (.lstore 5, 2) := by decide +kernel
theorem dX4_clearBelow_50 : decode cX4_clearBelow 50 = .ok (.iload_n 1, 1) := by decide +kernel
theorem dX4_clearBelow_51 : decode cX4_clearBelow 51 = .ok (.istore 7, 2) := by decide +kernel
theorem dX4_clearBelow_53 : decode cX4_clearBelow 53 = .ok (.iload 7, 2) := by decide +kernel
theorem dX4_clearBelow_55 : decode cX4_clearBelow 55 = .ok (.aload_n 0, 1) := by decide +kernel
theorem dX4_clearBelow_56 : decode cX4_clearBelow 56 = .ok (.getfield 9, 3) := by decide +kernel
theorem dX4_clearBelow_59 : decode cX4_clearBelow 59 = .ok (.if_icmp .ge 52, 3) := by decide +kernel
theorem dX4_clearBelow_62 : decode cX4_clearBelow 62 = .ok (.aload_n 0, 1) := by decide +kernel
theorem dX4_clearBelow_63 : decode cX4_clearBelow 63 = .ok (.getfield 27, 3) := by decide +kernel
theorem dX4_clearBelow_66 : decode cX4_clearBelow 66 = .ok (.iload 4, 2) := by decide +kernel
theorem dX4_clearBelow_68 : decode cX4_clearBelow 68 = .ok (.aaload, 1) := by decide +kernel
theorem dX4_clearBelow_69 : decode cX4_clearBelow 69 = .ok (.iload 7, 2) := by decide +kernel
theorem dX4_clearBelow_71 : decode cX4_clearBelow 71 = .ok (.lload_n 2, 1) := by decide +kernel
theorem dX4_clearBelow_72 : decode cX4_clearBelow 72 = .ok (.aload_n 0, 1) := by decide +kernel
theorem dX4_clearBelow_73 : decode cX4_clearBelow 73 = .ok (.getfield 27, 3) := by decide +kernel
theorem dX4_clearBelow_76 : decode cX4_clearBelow 76 = .ok (.iload 4, 2) := by decide +kernel
theorem dX4_clearBelow_78 : decode cX4_clearBelow 78 = .ok (.aaload, 1) := by decide +kernel
theorem dX4_clearBelow_79 : decode cX4_clearBelow 79 = .ok (.iload 7, 2) := by decide +kernel
theorem dX4_clearBelow_81 : decode cX4_clearBelow 81 = .ok (.laload, 1) := by decide +kernel
theorem dX4_clearBelow_82 : decode cX4_clearBelow 82 = .ok (.lmul, 1) := by decide +kernel
theorem dX4_clearBelow_83 : decode cX4_clearBelow 83 = .ok (.lload 5, 2) := by decide +kernel
theorem dX4_clearBelow_85 : decode cX4_clearBelow 85 = .ok (.aload_n 0, 1) := by decide +kernel
theorem dX4_clearBelow_86 : decode cX4_clearBelow 86 = .ok (.getfield 27, 3) := by decide +kernel
theorem dX4_clearBelow_89 : decode cX4_clearBelow 89 = .ok (.aload_n 0, 1) := by decide +kernel
theorem dX4_clearBelow_90 : decode cX4_clearBelow 90 = .ok (.getfield 15, 3) := by decide +kernel
theorem dX4_clearBelow_93 : decode cX4_clearBelow 93 = .ok (.aaload, 1) := by decide +kernel
theorem dX4_clearBelow_94 : decode cX4_clearBelow 94 = .ok (.iload 7, 2) := by decide +kernel
theorem dX4_clearBelow_96 : decode cX4_clearBelow 96 = .ok (.laload, 1) := by decide +kernel
theorem dX4_clearBelow_97 : decode cX4_clearBelow 97 = .ok (.lmul, 1) := by decide +kernel
theorem dX4_clearBelow_98 : decode cX4_clearBelow 98 = .ok (.lsub, 1) := by decide +kernel
theorem dX4_clearBelow_99 : decode cX4_clearBelow 99 = .ok (.aload_n 0, 1) := by decide +kernel
theorem dX4_clearBelow_100 : decode cX4_clearBelow 100 = .ok (.getfield 21, 3) := by decide +kernel
theorem dX4_clearBelow_103 : decode cX4_clearBelow 103 = .ok (.ldiv, 1) := by decide +kernel
theorem dX4_clearBelow_104 : decode cX4_clearBelow 104 = .ok (.lastore, 1) := by decide +kernel
theorem dX4_clearBelow_105 : decode cX4_clearBelow 105 = .ok (.iinc 7 1, 3) := by decide +kernel
theorem dX4_clearBelow_108 : decode cX4_clearBelow 108 = .ok (.goto (-55), 3) := by decide +kernel
theorem dX4_clearBelow_111 : decode cX4_clearBelow 111 = .ok (.iinc 4 1, 3) := by decide +kernel
theorem dX4_clearBelow_114 : decode cX4_clearBelow 114 = .ok (.goto (-84), 3) := by decide +kernel
theorem dX4_clearBelow_117 : decode cX4_clearBelow 117 = .ok (.return_, 1) := by decide +kernel
theorem dX4_determinant_0 : decode cX4_determinant 0 = .ok (.aload_n 0, 1) := by decide +kernel
theorem dX4_determinant_1 : decode cX4_determinant 1 = .ok (.getfield 15, 3) := by decide +kernel
theorem dX4_determinant_4 : decode cX4_determinant 4 = .ok (.aload_n 0, 1) := by decide +kernel
theorem dX4_determinant_5 : decode cX4_determinant 5 = .ok (.getfield 9, 3) := by decide +kernel
theorem dX4_determinant_8 : decode cX4_determinant 8 = .ok (.if_icmp .ne 16, 3) := by decide +kernel
theorem dX4_determinant_11 : decode cX4_determinant 11 = .ok (.aload_n 0, 1) := by decide +kernel
theorem dX4_determinant_12 : decode cX4_determinant 12 = .ok (.getfield 18, 3) := by decide +kernel
theorem dX4_determinant_15 : decode cX4_determinant 15 = .ok (.i2l, 1) := by decide +kernel
theorem dX4_determinant_16 : decode cX4_determinant 16 = .ok (.aload_n 0, 1) := by decide +kernel
theorem dX4_determinant_17 : decode cX4_determinant 17 = .ok (.getfield 21, 3) := by decide +kernel
theorem dX4_determinant_20 : decode cX4_determinant 20 = .ok (.lmul, 1) := by decide +kernel
theorem dX4_determinant_21 : decode cX4_determinant 21 = .ok (.goto 4, 3) := by decide +kernel
theorem dX4_determinant_24 : decode cX4_determinant 24 = .ok (.lconst 0, 1) := by decide +kernel
theorem dX4_determinant_25 : decode cX4_determinant 25 = .ok (.lreturn, 1) := by decide +kernel
set_option maxRecDepth 20000 in
theorem ggX5_init_X3_init : GoodIn wsX5_init wsX3_init := goodIn_r _ [29, 30, 2, 3, 31, 26, 32, 64, 65] (by decide +kernel) (by decide +kernel)
set_option maxRecDepth 20000 in
theorem gX5_init_X3_init_n9 : GoodIn wsX5_init (wsX3_init) := ggX5_init_X3_init
set_option maxRecDepth 20000 in
theorem ggX5_init_X1_init : GoodIn wsX5_init wsX1_init := goodIn_r _ [34, 35, 2, 3, 36, 26, 37, 74, 75] (by decide +kernel) (by decide +kernel)
set_option maxRecDepth 20000 in
theorem gX5_init_X1_init_n22 : GoodIn wsX5_init (wsX1_init) := ggX5_init_X1_init
set_option maxRecDepth 20000 in
theorem ggX5_init_X0_init : GoodIn wsX5_init wsX0_init := goodIn_r _ [39, 40, 2, 3, 41, 26, 42, 76, 77] (by decide +kernel) (by decide +kernel)
set_option maxRecDepth 20000 in
theorem gX5_init_X0_init_n29 : GoodIn wsX5_init (wsX0_init) := ggX5_init_X0_init
set_option maxRecDepth 20000 in
theorem ggX5_init_X2_init : GoodIn wsX5_init wsX2_init := goodIn_r _ [44, 45, 2, 3, 26, 46, 78] (by decide +kernel) (by decide +kernel)
set_option maxRecDepth 20000 in
theorem gX5_init_X2_init_n39 : GoodIn wsX5_init (wsX2_init) := ggX5_init_X2_init
set_option maxRecDepth 20000 in
theorem ggX5_init_X4_init : GoodIn wsX5_init wsX4_init := goodIn_r _ [48, 49, 2, 3, 50, 51, 52, 53, 54, 55, 56, 79, 80, 81, 82, 83] (by decide +kernel) (by decide +kernel)
set_option maxRecDepth 20000 in
theorem gX5_init_X4_init_n46 : GoodIn wsX5_init (wsX4_init) := ggX5_init_X4_init
set_option maxRecDepth 20000 in
theorem ggX5_init_X3_clear : GoodIn wsX5_init wsX3_clear := goodIn_r _ [59, 31, 32, 60, 61, 62, 63, 64, 65] (by decide +kernel) (by decide +kernel)
set_option maxRecDepth 20000 in
theorem gX5_init_X3_clear_n55 : GoodIn wsX5_init (wsX3_clear) := ggX5_init_X3_clear
theorem dX5_init_0 : decode cX5_init 0 = .ok (.aload_n 0, 1) := by decide +kernel
theorem dX5_init_1 : decode cX5_init 1 = .ok (.invokespecial 1, 3) := by decide +kernel
theorem dX5_init_4 : decode cX5_init 4 = .ok (.aload_n 0, 1) := by decide +kernel
theorem dX5_init_5 : decode cX5_init 5 = .ok (.new 7, 3) := by decide +kernel
theorem dX5_init_8 : decode cX5_init 8 = .ok (.dup, 1) := by decide +kernel
theorem dX5_init_9 : decode cX5_init 9 = .ok (.invokespecial 9, 3) := by decide +kernel
theorem dX5_init_12 : decode cX5_init 12 = .ok (.putfield 10, 3) := by decide +kernel
theorem dX5_init_15 : decode cX5_init 15 = .ok (.aload_n 0, 1) := by decide +kernel
theorem dX5_init_16 : decode cX5_init 16 = .ok (.iconst 2, 1) := by decide +kernel
theorem dX5_init_17 : decode cX5_init 17 = .ok (.anewarray 7, 3) := by decide +kernel
theorem dX5_init_20 : decode cX5_init 20 = .ok (.putfield 16, 3) := by decide +kernel
theorem dX5_init_23 : decode cX5_init 23 = .ok (.aload_n 0, 1) := by decide +kernel
theorem dX5_init_24 : decode cX5_init 24 = .ok (.new 20, 3) := by decide +kernel
theorem dX5_init_27 : decode cX5_init 27 = .ok (.dup, 1) := by decide +kernel
theorem dX5_init_28 : decode cX5_init 28 = .ok (.invokespecial 22, 3) := by decide +kernel
theorem dX5_init_31 : decode cX5_init 31 = .ok (.putfield 23, 3) := by decide +kernel
theorem dX5_init_34 : decode cX5_init 34 = .ok (.aload_n 0, 1) := by decide +kernel
theorem dX5_init_35 : decode cX5_init 35 = .ok (.new 27, 3) := by decide +kernel
theorem dX5_init_38 : decode cX5_init 38 = .ok (.dup, 1) := by decide +kernel
theorem dX5_init_39 : decode cX5_init 39 = .ok (.invokespecial 29, 3) := by decide +kernel
theorem dX5_init_42 : decode cX5_init 42 = .ok (.putfield 30, 3) := by decide +kernel
theorem dX5_init_45 : decode cX5_init 45 = .ok (.aload_n 0, 1) := by decide +kernel
theorem dX5_init_46 : decode cX5_init 46 = .ok (.new 27, 3) := by decide +kernel
theorem dX5_init_49 : decode cX5_init 49 = .ok (.dup, 1) := by decide +kernel
theorem dX5_init_50 : decode cX5_init 50 = .ok (.invokespecial 29, 3) := by decide +kernel
theorem dX5_init_53 : decode cX5_init 53 = .ok (.putfield 34, 3) := by decide +kernel
theorem dX5_init_56 : decode cX5_init 56 = .ok (.aload_n 0, 1) := by decide +kernel
theorem dX5_init_57 : decode cX5_init 57 = .ok (.new 37, 3) := by decide +kernel
theorem dX5_init_60 : decode cX5_init 60 = .ok (.dup, 1) := by decide +kernel
theorem dX5_init_61 : decode cX5_init 61 = .ok (.invokespecial 39, 3) := by decide +kernel
theorem dX5_init_64 : decode cX5_init 64 = .ok (.putfield 40, 3) := by decide +kernel
theorem dX5_init_67 : decode cX5_init 67 = .ok (.aload_n 0, 1) := by decide +kernel
theorem dX5_init_68 : decode cX5_init 68 = .ok (.new 44, 3) := by decide +kernel
theorem dX5_init_71 : decode cX5_init 71 = .ok (.dup, 1) := by decide +kernel
theorem dX5_init_72 : decode cX5_init 72 = .ok (.invokespecial 46, 3) := by decide +kernel
theorem dX5_init_75 : decode cX5_init 75 = .ok (.putfield 47, 3) := by decide +kernel
theorem dX5_init_78 : decode cX5_init 78 = .ok (.aload_n 0, 1) := by decide +kernel
theorem dX5_init_79 : decode cX5_init 79 = .ok (.iconst 3, 1) := by decide +kernel
theorem dX5_init_80 : decode cX5_init 80 = .ok (.newarray .int, 2) := by decide +kernel
theorem dX5_init_82 : decode cX5_init 82 = .ok (.putfield 51, 3) := by decide +kernel
theorem dX5_init_85 : decode cX5_init 85 = .ok (.iconst 0, 1) := by decide +kernel
theorem dX5_init_86 : decode cX5_init 86 = .ok (.istore_n 1, 1) := by decide +kernel
theorem dX5_init_87 : decode cX5_init 87 = .ok (.iload_n 1, 1) := by decide +kernel
theorem dX5_init_88 : decode cX5_init 88 = .ok (.iconst 2, 1) := by decide +kernel
theorem dX5_init_89 : decode cX5_init 89 = .ok (.if_icmp .ge 22, 3) := by decide +kernel
theorem dX5_init_92 : decode cX5_init 92 = .ok (.aload_n 0, 1) := by decide +kernel
theorem dX5_init_93 : decode cX5_init 93 = .ok (.getfield 16, 3) := by decide +kernel
theorem dX5_init_96 : decode cX5_init 96 = .ok (.iload_n 1, 1) := by decide +kernel
theorem dX5_init_97 : decode cX5_init 97 = .ok (.new 7, 3) := by decide +kernel
theorem dX5_init_100 : decode cX5_init 100 = .ok (.dup, 1) := by decide +kernel
theorem dX5_init_101 : decode cX5_init 101 = .ok (.invokespecial 9, 3) := by decide +kernel
theorem dX5_init_104 : decode cX5_init 104 = .ok (.aastore, 1) := by decide +kernel
theorem dX5_init_105 : decode cX5_init 105 = .ok (.iinc 1 1, 3) := by decide +kernel
theorem dX5_init_108 : decode cX5_init 108 = .ok (.goto (-21), 3) := by decide +kernel
theorem dX5_init_111 : decode cX5_init 111 = .ok (.aload_n 0, 1) := by decide +kernel
theorem dX5_init_112 : decode cX5_init 112 = .ok (.getfield 10, 3) := by decide +kernel
theorem dX5_init_115 : decode cX5_init 115 = .ok (.iconst 5, 1) := by decide +kernel
theorem dX5_init_116 : decode cX5_init 116 = .ok (.invokevirtual 55, 3) := by decide +kernel
theorem dX5_init_119 : decode cX5_init 119 = .ok (.return_, 1) := by decide +kernel
set_option maxRecDepth 20000 in
theorem ggX5_nodes_X5_within : GoodIn wsX5_nodes wsX5_within := goodIn_r _ [5] (by decide +kernel) (by decide +kernel)
set_option maxRecDepth 20000 in
theorem gX5_nodes_X5_within : GoodIn wsX5_nodes (va_wsS RX5 59 yX5_within wsX5_within) := goodIn_app (goodIn_of _ (by decide +kernel)) ggX5_nodes_X5_within
set_option maxRecDepth 20000 in
theorem ggX5_nodes_X3_clear : GoodIn wsX5_nodes wsX3_clear := goodIn_r _ [9, 10, 11, 12, 13, 14, 15, 24, 25] (by decide +kernel) (by decide +kernel)
set_option maxRecDepth 20000 in
theorem gX5_nodes_X3_clear_n55 : GoodIn wsX5_nodes (wsX3_clear) := ggX5_nodes_X3_clear
theorem dX5_nodes_0 : decode cX5_nodes 0 = .ok (.iload_n 1, 1) := by decide +kernel
theorem dX5_nodes_1 : decode cX5_nodes 1 = .ok (.iconst 3, 1) := by decide +kernel
theorem dX5_nodes_2 : decode cX5_nodes 2 = .ok (.bipush 7, 2) := by decide +kernel
theorem dX5_nodes_4 : decode cX5_nodes 4 = .ok (.invokestatic 59, 3) := by decide +kernel
theorem dX5_nodes_7 : decode cX5_nodes 7 = .ok (.ifCond .ne 6, 3) := by decide +kernel
theorem dX5_nodes_10 : decode cX5_nodes 10 = .ok (.bipush (-2), 2) := by decide +kernel
theorem dX5_nodes_12 : decode cX5_nodes 12 = .ok (.ireturn, 1) := by decide +kernel
theorem dX5_nodes_13 : decode cX5_nodes 13 = .ok (.aload_n 0, 1) := by decide +kernel
theorem dX5_nodes_14 : decode cX5_nodes 14 = .ok (.getfield 10, 3) := by decide +kernel
theorem dX5_nodes_17 : decode cX5_nodes 17 = .ok (.getfield 63, 3) := by decide +kernel
theorem dX5_nodes_20 : decode cX5_nodes 20 = .ok (.istore_n 2, 1) := by decide +kernel
theorem dX5_nodes_21 : decode cX5_nodes 21 = .ok (.aload_n 0, 1) := by decide +kernel
theorem dX5_nodes_22 : decode cX5_nodes 22 = .ok (.getfield 10, 3) := by decide +kernel
theorem dX5_nodes_25 : decode cX5_nodes 25 = .ok (.iload_n 1, 1) := by decide +kernel
theorem dX5_nodes_26 : decode cX5_nodes 26 = .ok (.invokevirtual 55, 3) := by decide +kernel
theorem dX5_nodes_29 : decode cX5_nodes 29 = .ok (.iload_n 2, 1) := by decide +kernel
theorem dX5_nodes_30 : decode cX5_nodes 30 = .ok (.ireturn, 1) := by decide +kernel
set_option maxRecDepth 20000 in
theorem ggX5_join_X5_isSlot : GoodIn wsX5_join wsX5_isSlot := goodIn_r _ [6, 7, 8, 5, 9] (by decide +kernel) (by decide +kernel)
set_option maxRecDepth 20000 in
theorem gX5_join_X5_isSlot : GoodIn wsX5_join (va_wsS RX5 67 yX5_isSlot wsX5_isSlot) := goodIn_app (goodIn_of _ (by decide +kernel)) ggX5_join_X5_isSlot
set_option maxRecDepth 20000 in
theorem ggX5_join_X5_isNode : GoodIn wsX5_join wsX5_isNode := goodIn_r _ [13, 2, 7, 8, 5, 9, 58, 59, 60, 61, 62, 63, 64, 65, 66, 67] (by decide +kernel) (by decide +kernel)
set_option maxRecDepth 20000 in
theorem gX5_join_X5_isNode : GoodIn wsX5_join (wsV RX5 71 RX5 yX5_isNode wsX5_isNode) := goodIn_app (goodIn_of _ (by decide +kernel)) ggX5_join_X5_isNode
set_option maxRecDepth 20000 in
theorem ggX5_join_X5_within : GoodIn wsX5_join wsX5_within := goodIn_r _ [9] (by decide +kernel) (by decide +kernel)
set_option maxRecDepth 20000 in
theorem gX5_join_X5_within : GoodIn wsX5_join (va_wsS RX5 59 yX5_within wsX5_within) := goodIn_app (goodIn_of _ (by decide +kernel)) ggX5_join_X5_within
set_option maxRecDepth 20000 in
theorem ggX5_join_X5_load : GoodIn wsX5_join wsX5_load := goodIn_r _ [17, 2, 18, 19, 20, 21, 22, 23, 24, 25, 26, 27, 28, 29, 30, 31, 5, 32, 33, 34, 35, 36, 58, 59, 60, 61, 62, 63, 64, 65, 66, 67, 68, 69] (by decide +kernel) (by decide +kernel)
set_option maxRecDepth 20000 in
theorem gX5_join_X5_load : GoodIn wsX5_join (wsV RX5 74 RX5 yX5_load wsX5_load) := goodIn_app (goodIn_of _ (by decide +kernel)) ggX5_join_X5_load
set_option maxRecDepth 20000 in
theorem ggX5_join_X0_connect : GoodIn wsX5_join wsX0_connect := goodIn_r _ [36, 23, 68, 69] (by decide +kernel) (by decide +kernel)
set_option maxRecDepth 20000 in
theorem gX5_join_X0_connect_n78 : GoodIn wsX5_join (wsX0_connect) := ggX5_join_X0_connect
set_option maxRecDepth 20000 in
theorem ggX5_join_X0_number : GoodIn wsX5_join wsX0_number := goodIn_r _ [39, 22, 40, 41, 42, 19, 43, 23, 68, 69] (by decide +kernel) (by decide +kernel)
set_option maxRecDepth 20000 in
theorem gX5_join_X0_number_n85 : GoodIn wsX5_join (wsX0_number) := ggX5_join_X0_number
set_option maxRecDepth 20000 in
theorem ggX5_join_X0_joinedPairs : GoodIn wsX5_join wsX0_joinedPairs := goodIn_r _ [46, 22, 47, 48, 49, 19, 50, 23, 51, 52, 53, 54, 55, 56, 57, 68, 69] (by decide +kernel) (by decide +kernel)
set_option maxRecDepth 20000 in
theorem gX5_join_X0_joinedPairs_n89 : GoodIn wsX5_join (wsX0_joinedPairs) := ggX5_join_X0_joinedPairs
theorem dX5_join_0 : decode cX5_join 0 = .ok (.iload_n 1, 1) := by decide +kernel
theorem dX5_join_1 : decode cX5_join 1 = .ok (.invokestatic 67, 3) := by decide +kernel
theorem dX5_join_4 : decode cX5_join 4 = .ok (.ifCond .eq 19, 3) := by decide +kernel
theorem dX5_join_7 : decode cX5_join 7 = .ok (.aload_n 0, 1) := by decide +kernel
theorem dX5_join_8 : decode cX5_join 8 = .ok (.iload_n 2, 1) := by decide +kernel
theorem dX5_join_9 : decode cX5_join 9 = .ok (.invokevirtual 71, 3) := by decide +kernel
theorem dX5_join_12 : decode cX5_join 12 = .ok (.ifCond .eq 11, 3) := by decide +kernel
theorem dX5_join_15 : decode cX5_join 15 = .ok (.aload_n 0, 1) := by decide +kernel
theorem dX5_join_16 : decode cX5_join 16 = .ok (.iload_n 3, 1) := by decide +kernel
theorem dX5_join_17 : decode cX5_join 17 = .ok (.invokevirtual 71, 3) := by decide +kernel
theorem dX5_join_20 : decode cX5_join 20 = .ok (.ifCond .ne 5, 3) := by decide +kernel
theorem dX5_join_23 : decode cX5_join 23 = .ok (.iconst (-1), 1) := by decide +kernel
theorem dX5_join_24 : decode cX5_join 24 = .ok (.ireturn, 1) := by decide +kernel
theorem dX5_join_25 : decode cX5_join 25 = .ok (.iload_n 2, 1) := by decide +kernel
theorem dX5_join_26 : decode cX5_join 26 = .ok (.iload_n 3, 1) := by decide +kernel
theorem dX5_join_27 : decode cX5_join 27 = .ok (.if_icmp .eq 13, 3) := by decide +kernel
theorem dX5_join_30 : decode cX5_join 30 = .ok (.iload 4, 2) := by decide +kernel
theorem dX5_join_32 : decode cX5_join 32 = .ok (.iconst 0, 1) := by decide +kernel
theorem dX5_join_33 : decode cX5_join 33 = .ok (.iconst 1, 1) := by decide +kernel
theorem dX5_join_34 : decode cX5_join 34 = .ok (.invokestatic 59, 3) := by decide +kernel
theorem dX5_join_37 : decode cX5_join 37 = .ok (.ifCond .ne 6, 3) := by decide +kernel
theorem dX5_join_40 : decode cX5_join 40 = .ok (.bipush (-2), 2) := by decide +kernel
theorem dX5_join_42 : decode cX5_join 42 = .ok (.ireturn, 1) := by decide +kernel
theorem dX5_join_43 : decode cX5_join 43 = .ok (.aload_n 0, 1) := by decide +kernel
theorem dX5_join_44 : decode cX5_join 44 = .ok (.aload_n 0, 1) := by decide +kernel
theorem dX5_join_45 : decode cX5_join 45 = .ok (.getfield 30, 3) := by decide +kernel
theorem dX5_join_48 : decode cX5_join 48 = .ok (.iload_n 1, 1) := by decide +kernel
theorem dX5_join_49 : decode cX5_join 49 = .ok (.invokevirtual 74, 3) := by decide +kernel
theorem dX5_join_52 : decode cX5_join 52 = .ok (.aload_n 0, 1) := by decide +kernel
theorem dX5_join_53 : decode cX5_join 53 = .ok (.getfield 30, 3) := by decide +kernel
theorem dX5_join_56 : decode cX5_join 56 = .ok (.iload_n 2, 1) := by decide +kernel
theorem dX5_join_57 : decode cX5_join 57 = .ok (.iload_n 3, 1) := by decide +kernel
theorem dX5_join_58 : decode cX5_join 58 = .ok (.iload 4, 2) := by decide +kernel
theorem dX5_join_60 : decode cX5_join 60 = .ok (.iconst 1, 1) := by decide +kernel
theorem dX5_join_61 : decode cX5_join 61 = .ok (.if_icmp .ne 7, 3) := by decide +kernel
theorem dX5_join_64 : decode cX5_join 64 = .ok (.iconst 1, 1) := by decide +kernel
theorem dX5_join_65 : decode cX5_join 65 = .ok (.goto 4, 3) := by decide +kernel
theorem dX5_join_68 : decode cX5_join 68 = .ok (.iconst 0, 1) := by decide +kernel
theorem dX5_join_69 : decode cX5_join 69 = .ok (.invokevirtual 78, 3) := by decide +kernel
theorem dX5_join_72 : decode cX5_join 72 = .ok (.aload_n 0, 1) := by decide +kernel
theorem dX5_join_73 : decode cX5_join 73 = .ok (.getfield 10, 3) := by decide +kernel
theorem dX5_join_76 : decode cX5_join 76 = .ok (.getfield 82, 3) := by decide +kernel
theorem dX5_join_79 : decode cX5_join 79 = .ok (.iload_n 1, 1) := by decide +kernel
theorem dX5_join_80 : decode cX5_join 80 = .ok (.aload_n 0, 1) := by decide +kernel
theorem dX5_join_81 : decode cX5_join 81 = .ok (.getfield 30, 3) := by decide +kernel
theorem dX5_join_84 : decode cX5_join 84 = .ok (.invokevirtual 85, 3) := by decide +kernel
theorem dX5_join_87 : decode cX5_join 87 = .ok (.iastore, 1) := by decide +kernel
theorem dX5_join_88 : decode cX5_join 88 = .ok (.aload_n 0, 1) := by decide +kernel
theorem dX5_join_89 : decode cX5_join 89 = .ok (.getfield 30, 3) := by decide +kernel
theorem dX5_join_92 : decode cX5_join 92 = .ok (.invokevirtual 89, 3) := by decide +kernel
theorem dX5_join_95 : decode cX5_join 95 = .ok (.ireturn, 1) := by decide +kernel
set_option maxRecDepth 20000 in
theorem ggX5_set_X5_isSlot : GoodIn wsX5_set wsX5_isSlot := goodIn_r _ [5, 6, 7, 4, 8] (by decide +kernel) (by decide +kernel)
set_option maxRecDepth 20000 in
theorem gX5_set_X5_isSlot : GoodIn wsX5_set (va_wsS RX5 67 yX5_isSlot wsX5_isSlot) := goodIn_app (goodIn_of _ (by decide +kernel)) ggX5_set_X5_isSlot
set_option maxRecDepth 20000 in
theorem ggX5_set_X5_pairsOf : GoodIn wsX5_set wsX5_pairsOf := goodIn_r _ [11] (by decide +kernel) (by decide +kernel)
set_option maxRecDepth 20000 in
theorem gX5_set_X5_pairsOf : GoodIn wsX5_set (va_wsS RX5 92 yX5_pairsOf wsX5_pairsOf) := goodIn_app (goodIn_of _ (by decide +kernel)) ggX5_set_X5_pairsOf
set_option maxRecDepth 20000 in
theorem ggX5_set_X5_within : GoodIn wsX5_set wsX5_within := goodIn_r _ [8] (by decide +kernel) (by decide +kernel)
set_option maxRecDepth 20000 in
theorem gX5_set_X5_within : GoodIn wsX5_set (va_wsS RX5 59 yX5_within wsX5_within) := goodIn_app (goodIn_of _ (by decide +kernel)) ggX5_set_X5_within
theorem dX5_set_0 : decode cX5_set 0 = .ok (.iload_n 1, 1) := by decide +kernel
theorem dX5_set_1 : decode cX5_set 1 = .ok (.invokestatic 67, 3) := by decide +kernel
theorem dX5_set_4 : decode cX5_set 4 = .ok (.ifCond .ne 5, 3) := by decide +kernel
theorem dX5_set_7 : decode cX5_set 7 = .ok (.iconst (-1), 1) := by decide +kernel
theorem dX5_set_8 : decode cX5_set 8 = .ok (.ireturn, 1) := by decide +kernel
theorem dX5_set_9 : decode cX5_set 9 = .ok (.iload_n 2, 1) := by decide +kernel
theorem dX5_set_10 : decode cX5_set 10 = .ok (.iconst 0, 1) := by decide +kernel
theorem dX5_set_11 : decode cX5_set 11 = .ok (.iconst 1, 1) := by decide +kernel
theorem dX5_set_12 : decode cX5_set 12 = .ok (.aload_n 0, 1) := by decide +kernel
theorem dX5_set_13 : decode cX5_set 13 = .ok (.getfield 10, 3) := by decide +kernel
theorem dX5_set_16 : decode cX5_set 16 = .ok (.getfield 63, 3) := by decide +kernel
theorem dX5_set_19 : decode cX5_set 19 = .ok (.invokestatic 92, 3) := by decide +kernel
theorem dX5_set_22 : decode cX5_set 22 = .ok (.ishl, 1) := by decide +kernel
theorem dX5_set_23 : decode cX5_set 23 = .ok (.iconst 1, 1) := by decide +kernel
theorem dX5_set_24 : decode cX5_set 24 = .ok (.isub, 1) := by decide +kernel
theorem dX5_set_25 : decode cX5_set 25 = .ok (.invokestatic 59, 3) := by decide +kernel
theorem dX5_set_28 : decode cX5_set 28 = .ok (.ifCond .ne 6, 3) := by decide +kernel
theorem dX5_set_31 : decode cX5_set 31 = .ok (.bipush (-2), 2) := by decide +kernel
theorem dX5_set_33 : decode cX5_set 33 = .ok (.ireturn, 1) := by decide +kernel
theorem dX5_set_34 : decode cX5_set 34 = .ok (.aload_n 0, 1) := by decide +kernel
theorem dX5_set_35 : decode cX5_set 35 = .ok (.getfield 10, 3) := by decide +kernel
theorem dX5_set_38 : decode cX5_set 38 = .ok (.getfield 82, 3) := by decide +kernel
theorem dX5_set_41 : decode cX5_set 41 = .ok (.iload_n 1, 1) := by decide +kernel
theorem dX5_set_42 : decode cX5_set 42 = .ok (.iaload, 1) := by decide +kernel
theorem dX5_set_43 : decode cX5_set 43 = .ok (.istore_n 3, 1) := by decide +kernel
theorem dX5_set_44 : decode cX5_set 44 = .ok (.aload_n 0, 1) := by decide +kernel
theorem dX5_set_45 : decode cX5_set 45 = .ok (.getfield 10, 3) := by decide +kernel
theorem dX5_set_48 : decode cX5_set 48 = .ok (.getfield 82, 3) := by decide +kernel
theorem dX5_set_51 : decode cX5_set 51 = .ok (.iload_n 1, 1) := by decide +kernel
theorem dX5_set_52 : decode cX5_set 52 = .ok (.iload_n 2, 1) := by decide +kernel
theorem dX5_set_53 : decode cX5_set 53 = .ok (.iastore, 1) := by decide +kernel
theorem dX5_set_54 : decode cX5_set 54 = .ok (.iload_n 3, 1) := by decide +kernel
theorem dX5_set_55 : decode cX5_set 55 = .ok (.ireturn, 1) := by decide +kernel
set_option maxRecDepth 20000 in
theorem ggX5_say_X5_within : GoodIn wsX5_say wsX5_within := goodIn_r _ [5] (by decide +kernel) (by decide +kernel)
set_option maxRecDepth 20000 in
theorem gX5_say_X5_within : GoodIn wsX5_say (va_wsS RX5 59 yX5_within wsX5_within) := goodIn_app (goodIn_of _ (by decide +kernel)) ggX5_say_X5_within
set_option maxRecDepth 20000 in
theorem ggX5_say_X1_put : GoodIn wsX5_say wsX1_put := goodIn_r _ [9, 10, 11, 20, 21] (by decide +kernel) (by decide +kernel)
set_option maxRecDepth 20000 in
theorem gX5_say_X1_put_n99 : GoodIn wsX5_say (wsX1_put) := ggX5_say_X1_put
theorem dX5_say_0 : decode cX5_say 0 = .ok (.iload_n 1, 1) := by decide +kernel
theorem dX5_say_1 : decode cX5_say 1 = .ok (.bipush 33, 2) := by decide +kernel
theorem dX5_say_3 : decode cX5_say 3 = .ok (.bipush 126, 2) := by decide +kernel
theorem dX5_say_5 : decode cX5_say 5 = .ok (.invokestatic 59, 3) := by decide +kernel
theorem dX5_say_8 : decode cX5_say 8 = .ok (.ifCond .ne 6, 3) := by decide +kernel
theorem dX5_say_11 : decode cX5_say 11 = .ok (.bipush (-2), 2) := by decide +kernel
theorem dX5_say_13 : decode cX5_say 13 = .ok (.ireturn, 1) := by decide +kernel
theorem dX5_say_14 : decode cX5_say 14 = .ok (.aload_n 0, 1) := by decide +kernel
theorem dX5_say_15 : decode cX5_say 15 = .ok (.getfield 23, 3) := by decide +kernel
theorem dX5_say_18 : decode cX5_say 18 = .ok (.getfield 96, 3) := by decide +kernel
theorem dX5_say_21 : decode cX5_say 21 = .ok (.bipush 35, 2) := by decide +kernel
theorem dX5_say_23 : decode cX5_say 23 = .ok (.if_icmp .lt 6, 3) := by decide +kernel
theorem dX5_say_26 : decode cX5_say 26 = .ok (.bipush (-4), 2) := by decide +kernel
theorem dX5_say_28 : decode cX5_say 28 = .ok (.ireturn, 1) := by decide +kernel
theorem dX5_say_29 : decode cX5_say 29 = .ok (.aload_n 0, 1) := by decide +kernel
theorem dX5_say_30 : decode cX5_say 30 = .ok (.getfield 23, 3) := by decide +kernel
theorem dX5_say_33 : decode cX5_say 33 = .ok (.iload_n 1, 1) := by decide +kernel
theorem dX5_say_34 : decode cX5_say 34 = .ok (.invokevirtual 99, 3) := by decide +kernel
theorem dX5_say_37 : decode cX5_say 37 = .ok (.aload_n 0, 1) := by decide +kernel
theorem dX5_say_38 : decode cX5_say 38 = .ok (.getfield 23, 3) := by decide +kernel
theorem dX5_say_41 : decode cX5_say 41 = .ok (.getfield 96, 3) := by decide +kernel
theorem dX5_say_44 : decode cX5_say 44 = .ok (.ireturn, 1) := by decide +kernel
theorem dX5_wipe_0 : decode cX5_wipe 0 = .ok (.aload_n 0, 1) := by decide +kernel
theorem dX5_wipe_1 : decode cX5_wipe 1 = .ok (.getfield 23, 3) := by decide +kernel
theorem dX5_wipe_4 : decode cX5_wipe 4 = .ok (.getfield 96, 3) := by decide +kernel
theorem dX5_wipe_7 : decode cX5_wipe 7 = .ok (.istore_n 1, 1) := by decide +kernel
theorem dX5_wipe_8 : decode cX5_wipe 8 = .ok (.aload_n 0, 1) := by decide +kernel
theorem dX5_wipe_9 : decode cX5_wipe 9 = .ok (.getfield 23, 3) := by decide +kernel
theorem dX5_wipe_12 : decode cX5_wipe 12 = .ok (.iconst 0, 1) := by decide +kernel
theorem dX5_wipe_13 : decode cX5_wipe 13 = .ok (.putfield 96, 3) := by decide +kernel
theorem dX5_wipe_16 : decode cX5_wipe 16 = .ok (.iload_n 1, 1) := by decide +kernel
theorem dX5_wipe_17 : decode cX5_wipe 17 = .ok (.ireturn, 1) := by decide +kernel
set_option maxRecDepth 20000 in
theorem ggX5_fault_X5_within : GoodIn wsX5_fault wsX5_within := goodIn_r _ [5] (by decide +kernel) (by decide +kernel)
set_option maxRecDepth 20000 in
theorem gX5_fault_X5_within : GoodIn wsX5_fault (va_wsS RX5 59 yX5_within wsX5_within) := goodIn_app (goodIn_of _ (by decide +kernel)) ggX5_fault_X5_within
set_option maxRecDepth 20000 in
theorem ggX5_fault_X5_signsFor : GoodIn wsX5_fault wsX5_signsFor := goodIn_r _ [9, 10, 11, 12, 4, 13, 14, 15, 16, 23, 24, 25, 26, 27, 28, 29, 30, 31, 32] (by decide +kernel) (by decide +kernel)
set_option maxRecDepth 20000 in
theorem gX5_fault_X5_signsFor : GoodIn wsX5_fault (wsV RX5 102 RX5 yX5_signsFor wsX5_signsFor) := goodIn_app (goodIn_of _ (by decide +kernel)) ggX5_fault_X5_signsFor
set_option maxRecDepth 20000 in
theorem ggX5_fault_X1_faultFor : GoodIn wsX5_fault wsX1_faultFor := goodIn_r _ [20, 21, 22, 33, 34] (by decide +kernel) (by decide +kernel)
set_option maxRecDepth 20000 in
theorem gX5_fault_X1_faultFor_n105 : GoodIn wsX5_fault (wsX1_faultFor) := ggX5_fault_X1_faultFor
theorem dX5_fault_0 : decode cX5_fault 0 = .ok (.iload_n 1, 1) := by decide +kernel
theorem dX5_fault_1 : decode cX5_fault 1 = .ok (.iconst 0, 1) := by decide +kernel
theorem dX5_fault_2 : decode cX5_fault 2 = .ok (.iconst 1, 1) := by decide +kernel
theorem dX5_fault_3 : decode cX5_fault 3 = .ok (.invokestatic 59, 3) := by decide +kernel
theorem dX5_fault_6 : decode cX5_fault 6 = .ok (.ifCond .ne 6, 3) := by decide +kernel
theorem dX5_fault_9 : decode cX5_fault 9 = .ok (.bipush (-2), 2) := by decide +kernel
theorem dX5_fault_11 : decode cX5_fault 11 = .ok (.ireturn, 1) := by decide +kernel
theorem dX5_fault_12 : decode cX5_fault 12 = .ok (.aload_n 0, 1) := by decide +kernel
theorem dX5_fault_13 : decode cX5_fault 13 = .ok (.getfield 23, 3) := by decide +kernel
theorem dX5_fault_16 : decode cX5_fault 16 = .ok (.aload_n 0, 1) := by decide +kernel
theorem dX5_fault_17 : decode cX5_fault 17 = .ok (.iload_n 1, 1) := by decide +kernel
theorem dX5_fault_18 : decode cX5_fault 18 = .ok (.invokevirtual 102, 3) := by decide +kernel
theorem dX5_fault_21 : decode cX5_fault 21 = .ok (.invokevirtual 105, 3) := by decide +kernel
theorem dX5_fault_24 : decode cX5_fault 24 = .ok (.ireturn, 1) := by decide +kernel
set_option maxRecDepth 20000 in
theorem ggX5_read_X5_isSlot : GoodIn wsX5_read wsX5_isSlot := goodIn_r _ [7, 8, 9, 6, 10] (by decide +kernel) (by decide +kernel)
set_option maxRecDepth 20000 in
theorem gX5_read_X5_isSlot : GoodIn wsX5_read (va_wsS RX5 67 yX5_isSlot wsX5_isSlot) := goodIn_app (goodIn_of _ (by decide +kernel)) ggX5_read_X5_isSlot
set_option maxRecDepth 20000 in
theorem ggX5_read_X5_within : GoodIn wsX5_read wsX5_within := goodIn_r _ [10] (by decide +kernel) (by decide +kernel)
set_option maxRecDepth 20000 in
theorem gX5_read_X5_within : GoodIn wsX5_read (va_wsS RX5 59 yX5_within wsX5_within) := goodIn_app (goodIn_of _ (by decide +kernel)) ggX5_read_X5_within
set_option maxRecDepth 20000 in
theorem ggX5_read_X5_signsFor : GoodIn wsX5_read wsX5_signsFor := goodIn_r _ [14, 3, 15, 16, 6, 17, 18, 19, 20, 61, 62, 63, 64, 65, 66, 67, 68, 69, 70] (by decide +kernel) (by decide +kernel)
set_option maxRecDepth 20000 in
theorem gX5_read_X5_signsFor : GoodIn wsX5_read (wsV RX5 102 RX5 yX5_signsFor wsX5_signsFor) := goodIn_app (goodIn_of _ (by decide +kernel)) ggX5_read_X5_signsFor
set_option maxRecDepth 20000 in
theorem ggX5_read_X1_faultFor : GoodIn wsX5_read wsX1_faultFor := goodIn_r _ [24, 25, 26, 71, 72] (by decide +kernel) (by decide +kernel)
set_option maxRecDepth 20000 in
theorem gX5_read_X1_faultFor_n105 : GoodIn wsX5_read (wsX1_faultFor) := ggX5_read_X1_faultFor
set_option maxRecDepth 20000 in
theorem ggX5_read_X0_clear : GoodIn wsX5_read wsX0_clear := goodIn_r _ [30, 31, 32, 33, 34, 35, 36, 73, 74] (by decide +kernel) (by decide +kernel)
set_option maxRecDepth 20000 in
theorem gX5_read_X0_clear_n108 : GoodIn wsX5_read (wsX0_clear) := ggX5_read_X0_clear
set_option maxRecDepth 20000 in
theorem ggX5_read_X0_takePairs : GoodIn wsX5_read wsX0_takePairs := goodIn_r _ [39, 31, 40, 22, 41, 42, 25, 26, 43, 44, 45, 28, 46, 32, 73, 74, 71, 72] (by decide +kernel) (by decide +kernel)
set_option maxRecDepth 20000 in
theorem gX5_read_X0_takePairs_n109 : GoodIn wsX5_read (wsX0_takePairs) := ggX5_read_X0_takePairs
set_option maxRecDepth 20000 in
theorem ggX5_read_X0_takeTriples : GoodIn wsX5_read wsX0_takeTriples := goodIn_r _ [49, 31, 40, 22, 41, 42, 25, 26, 43, 44, 45, 28, 46, 32, 50, 51, 52, 53, 54, 55, 56, 57, 73, 74, 71, 72] (by decide +kernel) (by decide +kernel)
set_option maxRecDepth 20000 in
theorem gX5_read_X0_takeTriples_n113 : GoodIn wsX5_read (wsX0_takeTriples) := ggX5_read_X0_takeTriples
set_option maxRecDepth 20000 in
theorem ggX5_read_X0_number : GoodIn wsX5_read wsX0_number := goodIn_r _ [60, 31, 54, 55, 56, 28, 57, 32, 73, 74] (by decide +kernel) (by decide +kernel)
set_option maxRecDepth 20000 in
theorem gX5_read_X0_number_n85 : GoodIn wsX5_read (wsX0_number) := ggX5_read_X0_number
theorem dX5_read_0 : decode cX5_read 0 = .ok (.iload_n 1, 1) := by decide +kernel
theorem dX5_read_1 : decode cX5_read 1 = .ok (.invokestatic 67, 3) := by decide +kernel
theorem dX5_read_4 : decode cX5_read 4 = .ok (.ifCond .ne 5, 3) := by decide +kernel
theorem dX5_read_7 : decode cX5_read 7 = .ok (.iconst (-1), 1) := by decide +kernel
theorem dX5_read_8 : decode cX5_read 8 = .ok (.ireturn, 1) := by decide +kernel
theorem dX5_read_9 : decode cX5_read 9 = .ok (.iload_n 2, 1) := by decide +kernel
theorem dX5_read_10 : decode cX5_read 10 = .ok (.iconst 0, 1) := by decide +kernel
theorem dX5_read_11 : decode cX5_read 11 = .ok (.iconst 1, 1) := by decide +kernel
theorem dX5_read_12 : decode cX5_read 12 = .ok (.invokestatic 59, 3) := by decide +kernel
theorem dX5_read_15 : decode cX5_read 15 = .ok (.ifCond .ne 6, 3) := by decide +kernel
theorem dX5_read_18 : decode cX5_read 18 = .ok (.bipush (-2), 2) := by decide +kernel
theorem dX5_read_20 : decode cX5_read 20 = .ok (.ireturn, 1) := by decide +kernel
theorem dX5_read_21 : decode cX5_read 21 = .ok (.aload_n 0, 1) := by decide +kernel
theorem dX5_read_22 : decode cX5_read 22 = .ok (.getfield 23, 3) := by decide +kernel
theorem dX5_read_25 : decode cX5_read 25 = .ok (.aload_n 0, 1) := by decide +kernel
theorem dX5_read_26 : decode cX5_read 26 = .ok (.iload_n 2, 1) := by decide +kernel
theorem dX5_read_27 : decode cX5_read 27 = .ok (.invokevirtual 102, 3) := by decide +kernel
theorem dX5_read_30 : decode cX5_read 30 = .ok (.invokevirtual 105, 3) := by decide +kernel
theorem dX5_read_33 : decode cX5_read 33 = .ok (.bipush (-6), 2) := by decide +kernel
theorem dX5_read_35 : decode cX5_read 35 = .ok (.if_icmp .eq 6, 3) := by decide +kernel
theorem dX5_read_38 : decode cX5_read 38 = .ok (.bipush (-7), 2) := by decide +kernel
theorem dX5_read_40 : decode cX5_read 40 = .ok (.ireturn, 1) := by decide +kernel
theorem dX5_read_41 : decode cX5_read 41 = .ok (.aload_n 0, 1) := by decide +kernel
theorem dX5_read_42 : decode cX5_read 42 = .ok (.getfield 30, 3) := by decide +kernel
theorem dX5_read_45 : decode cX5_read 45 = .ok (.aload_n 0, 1) := by decide +kernel
theorem dX5_read_46 : decode cX5_read 46 = .ok (.getfield 10, 3) := by decide +kernel
theorem dX5_read_49 : decode cX5_read 49 = .ok (.getfield 63, 3) := by decide +kernel
theorem dX5_read_52 : decode cX5_read 52 = .ok (.invokevirtual 108, 3) := by decide +kernel
theorem dX5_read_55 : decode cX5_read 55 = .ok (.iload_n 2, 1) := by decide +kernel
theorem dX5_read_56 : decode cX5_read 56 = .ok (.ifCond .ne 17, 3) := by decide +kernel
theorem dX5_read_59 : decode cX5_read 59 = .ok (.aload_n 0, 1) := by decide +kernel
theorem dX5_read_60 : decode cX5_read 60 = .ok (.getfield 30, 3) := by decide +kernel
theorem dX5_read_63 : decode cX5_read 63 = .ok (.aload_n 0, 1) := by decide +kernel
theorem dX5_read_64 : decode cX5_read 64 = .ok (.getfield 23, 3) := by decide +kernel
theorem dX5_read_67 : decode cX5_read 67 = .ok (.invokevirtual 109, 3) := by decide +kernel
theorem dX5_read_70 : decode cX5_read 70 = .ok (.goto 20, 3) := by decide +kernel
theorem dX5_read_73 : decode cX5_read 73 = .ok (.aload_n 0, 1) := by decide +kernel
theorem dX5_read_74 : decode cX5_read 74 = .ok (.getfield 30, 3) := by decide +kernel
theorem dX5_read_77 : decode cX5_read 77 = .ok (.aload_n 0, 1) := by decide +kernel
theorem dX5_read_78 : decode cX5_read 78 = .ok (.getfield 23, 3) := by decide +kernel
theorem dX5_read_81 : decode cX5_read 81 = .ok (.invokevirtual 113, 3) := by decide +kernel
theorem dX5_read_84 : decode cX5_read 84 = .ok (.ifCond .ne 6, 3) := by decide +kernel
theorem dX5_read_87 : decode cX5_read 87 = .ok (.bipush (-3), 2) := by decide +kernel
theorem dX5_read_89 : decode cX5_read 89 = .ok (.ireturn, 1) := by decide +kernel
theorem dX5_read_90 : decode cX5_read 90 = .ok (.aload_n 0, 1) := by decide +kernel
theorem dX5_read_91 : decode cX5_read 91 = .ok (.getfield 23, 3) := by decide +kernel
theorem dX5_read_94 : decode cX5_read 94 = .ok (.iconst 0, 1) := by decide +kernel
theorem dX5_read_95 : decode cX5_read 95 = .ok (.putfield 96, 3) := by decide +kernel
theorem dX5_read_98 : decode cX5_read 98 = .ok (.aload_n 0, 1) := by decide +kernel
theorem dX5_read_99 : decode cX5_read 99 = .ok (.getfield 10, 3) := by decide +kernel
theorem dX5_read_102 : decode cX5_read 102 = .ok (.getfield 82, 3) := by decide +kernel
theorem dX5_read_105 : decode cX5_read 105 = .ok (.iload_n 1, 1) := by decide +kernel
theorem dX5_read_106 : decode cX5_read 106 = .ok (.aload_n 0, 1) := by decide +kernel
theorem dX5_read_107 : decode cX5_read 107 = .ok (.getfield 30, 3) := by decide +kernel
theorem dX5_read_110 : decode cX5_read 110 = .ok (.invokevirtual 85, 3) := by decide +kernel
theorem dX5_read_113 : decode cX5_read 113 = .ok (.iastore, 1) := by decide +kernel
theorem dX5_read_114 : decode cX5_read 114 = .ok (.aload_n 0, 1) := by decide +kernel
theorem dX5_read_115 : decode cX5_read 115 = .ok (.getfield 10, 3) := by decide +kernel
theorem dX5_read_118 : decode cX5_read 118 = .ok (.getfield 82, 3) := by decide +kernel
theorem dX5_read_121 : decode cX5_read 121 = .ok (.iload_n 1, 1) := by decide +kernel
theorem dX5_read_122 : decode cX5_read 122 = .ok (.iaload, 1) := by decide +kernel
theorem dX5_read_123 : decode cX5_read 123 = .ok (.ireturn, 1) := by decide +kernel
set_option maxRecDepth 20000 in
theorem ggX5_turn_X5_isSlot : GoodIn wsX5_turn wsX5_isSlot := goodIn_r _ [6, 7, 8, 5, 9] (by decide +kernel) (by decide +kernel)
set_option maxRecDepth 20000 in
theorem gX5_turn_X5_isSlot : GoodIn wsX5_turn (va_wsS RX5 67 yX5_isSlot wsX5_isSlot) := goodIn_app (goodIn_of _ (by decide +kernel)) ggX5_turn_X5_isSlot
set_option maxRecDepth 20000 in
theorem ggX5_turn_X5_within : GoodIn wsX5_turn wsX5_within := goodIn_r _ [9] (by decide +kernel) (by decide +kernel)
set_option maxRecDepth 20000 in
theorem gX5_turn_X5_within : GoodIn wsX5_turn (va_wsS RX5 59 yX5_within wsX5_within) := goodIn_app (goodIn_of _ (by decide +kernel)) ggX5_turn_X5_within
set_option maxRecDepth 20000 in
theorem ggX5_turn_X5_load : GoodIn wsX5_turn wsX5_load := goodIn_r _ [13, 1, 14, 15, 16, 17, 18, 19, 20, 21, 22, 23, 24, 25, 26, 27, 5, 28, 29, 30, 31, 32, 47, 48, 49, 50, 51, 52, 53, 54, 55, 56, 57, 58] (by decide +kernel) (by decide +kernel)
set_option maxRecDepth 20000 in
theorem gX5_turn_X5_load : GoodIn wsX5_turn (wsV RX5 74 RX5 yX5_load wsX5_load) := goodIn_app (goodIn_of _ (by decide +kernel)) ggX5_turn_X5_load
set_option maxRecDepth 20000 in
theorem ggX5_turn_X0_switchBy : GoodIn wsX5_turn wsX0_switchBy := goodIn_r _ [35, 18, 19, 36, 37, 38, 15, 39, 57, 58] (by decide +kernel) (by decide +kernel)
set_option maxRecDepth 20000 in
theorem gX5_turn_X0_switchBy_n117 : GoodIn wsX5_turn (wsX0_switchBy) := ggX5_turn_X0_switchBy
set_option maxRecDepth 20000 in
theorem ggX5_turn_X0_number : GoodIn wsX5_turn wsX0_number := goodIn_r _ [42, 18, 43, 44, 45, 15, 46, 19, 57, 58] (by decide +kernel) (by decide +kernel)
set_option maxRecDepth 20000 in
theorem gX5_turn_X0_number_n85 : GoodIn wsX5_turn (wsX0_number) := ggX5_turn_X0_number
theorem dX5_turn_0 : decode cX5_turn 0 = .ok (.iload_n 1, 1) := by decide +kernel
theorem dX5_turn_1 : decode cX5_turn 1 = .ok (.invokestatic 67, 3) := by decide +kernel
theorem dX5_turn_4 : decode cX5_turn 4 = .ok (.ifCond .eq 10, 3) := by decide +kernel
theorem dX5_turn_7 : decode cX5_turn 7 = .ok (.iload_n 2, 1) := by decide +kernel
theorem dX5_turn_8 : decode cX5_turn 8 = .ok (.invokestatic 67, 3) := by decide +kernel
theorem dX5_turn_11 : decode cX5_turn 11 = .ok (.ifCond .ne 5, 3) := by decide +kernel
theorem dX5_turn_14 : decode cX5_turn 14 = .ok (.iconst (-1), 1) := by decide +kernel
theorem dX5_turn_15 : decode cX5_turn 15 = .ok (.ireturn, 1) := by decide +kernel
theorem dX5_turn_16 : decode cX5_turn 16 = .ok (.iload_n 3, 1) := by decide +kernel
theorem dX5_turn_17 : decode cX5_turn 17 = .ok (.iconst 0, 1) := by decide +kernel
theorem dX5_turn_18 : decode cX5_turn 18 = .ok (.iconst 1, 1) := by decide +kernel
theorem dX5_turn_19 : decode cX5_turn 19 = .ok (.aload_n 0, 1) := by decide +kernel
theorem dX5_turn_20 : decode cX5_turn 20 = .ok (.getfield 10, 3) := by decide +kernel
theorem dX5_turn_23 : decode cX5_turn 23 = .ok (.getfield 63, 3) := by decide +kernel
theorem dX5_turn_26 : decode cX5_turn 26 = .ok (.ishl, 1) := by decide +kernel
theorem dX5_turn_27 : decode cX5_turn 27 = .ok (.iconst 1, 1) := by decide +kernel
theorem dX5_turn_28 : decode cX5_turn 28 = .ok (.isub, 1) := by decide +kernel
theorem dX5_turn_29 : decode cX5_turn 29 = .ok (.invokestatic 59, 3) := by decide +kernel
theorem dX5_turn_32 : decode cX5_turn 32 = .ok (.ifCond .ne 6, 3) := by decide +kernel
theorem dX5_turn_35 : decode cX5_turn 35 = .ok (.bipush (-2), 2) := by decide +kernel
theorem dX5_turn_37 : decode cX5_turn 37 = .ok (.ireturn, 1) := by decide +kernel
theorem dX5_turn_38 : decode cX5_turn 38 = .ok (.aload_n 0, 1) := by decide +kernel
theorem dX5_turn_39 : decode cX5_turn 39 = .ok (.aload_n 0, 1) := by decide +kernel
theorem dX5_turn_40 : decode cX5_turn 40 = .ok (.getfield 30, 3) := by decide +kernel
theorem dX5_turn_43 : decode cX5_turn 43 = .ok (.iload_n 2, 1) := by decide +kernel
theorem dX5_turn_44 : decode cX5_turn 44 = .ok (.invokevirtual 74, 3) := by decide +kernel
theorem dX5_turn_47 : decode cX5_turn 47 = .ok (.aload_n 0, 1) := by decide +kernel
theorem dX5_turn_48 : decode cX5_turn 48 = .ok (.getfield 30, 3) := by decide +kernel
theorem dX5_turn_51 : decode cX5_turn 51 = .ok (.iload_n 3, 1) := by decide +kernel
theorem dX5_turn_52 : decode cX5_turn 52 = .ok (.invokevirtual 117, 3) := by decide +kernel
theorem dX5_turn_55 : decode cX5_turn 55 = .ok (.aload_n 0, 1) := by decide +kernel
theorem dX5_turn_56 : decode cX5_turn 56 = .ok (.getfield 10, 3) := by decide +kernel
theorem dX5_turn_59 : decode cX5_turn 59 = .ok (.getfield 82, 3) := by decide +kernel
theorem dX5_turn_62 : decode cX5_turn 62 = .ok (.iload_n 1, 1) := by decide +kernel
theorem dX5_turn_63 : decode cX5_turn 63 = .ok (.aload_n 0, 1) := by decide +kernel
theorem dX5_turn_64 : decode cX5_turn 64 = .ok (.getfield 30, 3) := by decide +kernel
theorem dX5_turn_67 : decode cX5_turn 67 = .ok (.invokevirtual 85, 3) := by decide +kernel
theorem dX5_turn_70 : decode cX5_turn 70 = .ok (.iastore, 1) := by decide +kernel
theorem dX5_turn_71 : decode cX5_turn 71 = .ok (.aload_n 0, 1) := by decide +kernel
theorem dX5_turn_72 : decode cX5_turn 72 = .ok (.getfield 10, 3) := by decide +kernel
theorem dX5_turn_75 : decode cX5_turn 75 = .ok (.getfield 82, 3) := by decide +kernel
theorem dX5_turn_78 : decode cX5_turn 78 = .ok (.iload_n 1, 1) := by decide +kernel
theorem dX5_turn_79 : decode cX5_turn 79 = .ok (.iaload, 1) := by decide +kernel
theorem dX5_turn_80 : decode cX5_turn 80 = .ok (.ireturn, 1) := by decide +kernel
set_option maxRecDepth 20000 in
theorem ggX5_of_X5_isSlot : GoodIn wsX5_of wsX5_isSlot := goodIn_r _ [6, 7, 8, 5, 9] (by decide +kernel) (by decide +kernel)
set_option maxRecDepth 20000 in
theorem gX5_of_X5_isSlot : GoodIn wsX5_of (va_wsS RX5 67 yX5_isSlot wsX5_isSlot) := goodIn_app (goodIn_of _ (by decide +kernel)) ggX5_of_X5_isSlot
set_option maxRecDepth 20000 in
theorem ggX5_of_X5_load : GoodIn wsX5_of wsX5_load := goodIn_r _ [13, 2, 14, 15, 16, 17, 18, 19, 20, 21, 22, 23, 24, 25, 26, 27, 5, 28, 29, 30, 31, 32, 72, 73, 74, 75, 76, 77, 78, 79, 80, 81, 82, 83] (by decide +kernel) (by decide +kernel)
set_option maxRecDepth 20000 in
theorem gX5_of_X5_load : GoodIn wsX5_of (wsV RX5 74 RX5 yX5_load wsX5_load) := goodIn_app (goodIn_of _ (by decide +kernel)) ggX5_of_X5_load
set_option maxRecDepth 20000 in
theorem ggX5_of_X0_joinedPairs : GoodIn wsX5_of wsX0_joinedPairs := goodIn_r _ [35, 18, 36, 37, 38, 15, 39, 19, 40, 41, 42, 43, 44, 45, 46, 82, 83] (by decide +kernel) (by decide +kernel)
set_option maxRecDepth 20000 in
theorem gX5_of_X0_joinedPairs_n89 : GoodIn wsX5_of (wsX0_joinedPairs) := ggX5_of_X0_joinedPairs
set_option maxRecDepth 20000 in
theorem ggX5_of_X0_oddTriples : GoodIn wsX5_of wsX0_oddTriples := goodIn_r _ [49, 18, 50, 51, 52, 15, 53, 54, 55, 56, 57, 19, 58, 59, 60, 61, 62, 63, 64, 65, 40, 41, 42, 43, 44, 45, 46, 82, 83] (by decide +kernel) (by decide +kernel)
set_option maxRecDepth 20000 in
theorem gX5_of_X0_oddTriples_n120 : GoodIn wsX5_of (wsX0_oddTriples) := ggX5_of_X0_oddTriples
set_option maxRecDepth 20000 in
theorem ggX5_of_X0_oddTriplesOfEachPair : GoodIn wsX5_of wsX0_oddTriplesOfEachPair := goodIn_r _ [68, 18, 54, 55, 56, 15, 57, 19, 58, 59, 60, 61, 62, 63, 64, 65, 40, 41, 42, 43, 44, 45, 46, 82, 83] (by decide +kernel) (by decide +kernel)
set_option maxRecDepth 20000 in
theorem gX5_of_X0_oddTriplesOfEachPair_n123 : GoodIn wsX5_of (wsX0_oddTriplesOfEachPair) := ggX5_of_X0_oddTriplesOfEachPair
set_option maxRecDepth 20000 in
theorem ggX5_of_X0_oddDegrees : GoodIn wsX5_of wsX0_oddDegrees := goodIn_r _ [71, 18, 36, 37, 38, 15, 39, 19, 40, 41, 42, 43, 44, 45, 46, 82, 83] (by decide +kernel) (by decide +kernel)
set_option maxRecDepth 20000 in
theorem gX5_of_X0_oddDegrees_n126 : GoodIn wsX5_of (wsX0_oddDegrees) := ggX5_of_X0_oddDegrees
theorem dX5_of_0 : decode cX5_of 0 = .ok (.iload_n 1, 1) := by decide +kernel
theorem dX5_of_1 : decode cX5_of 1 = .ok (.invokestatic 67, 3) := by decide +kernel
theorem dX5_of_4 : decode cX5_of 4 = .ok (.ifCond .ne 5, 3) := by decide +kernel
theorem dX5_of_7 : decode cX5_of 7 = .ok (.iconst (-1), 1) := by decide +kernel
theorem dX5_of_8 : decode cX5_of 8 = .ok (.ireturn, 1) := by decide +kernel
theorem dX5_of_9 : decode cX5_of 9 = .ok (.aload_n 0, 1) := by decide +kernel
theorem dX5_of_10 : decode cX5_of 10 = .ok (.aload_n 0, 1) := by decide +kernel
theorem dX5_of_11 : decode cX5_of 11 = .ok (.getfield 30, 3) := by decide +kernel
theorem dX5_of_14 : decode cX5_of 14 = .ok (.iload_n 1, 1) := by decide +kernel
theorem dX5_of_15 : decode cX5_of 15 = .ok (.invokevirtual 74, 3) := by decide +kernel
theorem dX5_of_18 : decode cX5_of 18 = .ok (.iload_n 2, 1) := by decide +kernel
theorem dX5_of_19 : decode cX5_of 19 = .ok (.tableswitch 75 0 4 #[33, 43, 51, 59, 67], 33) := by decide +kernel
theorem dX5_of_52 : decode cX5_of 52 = .ok (.aload_n 0, 1) := by decide +kernel
theorem dX5_of_53 : decode cX5_of 53 = .ok (.getfield 10, 3) := by decide +kernel
theorem dX5_of_56 : decode cX5_of 56 = .ok (.getfield 82, 3) := by decide +kernel
theorem dX5_of_59 : decode cX5_of 59 = .ok (.iload_n 1, 1) := by decide +kernel
theorem dX5_of_60 : decode cX5_of 60 = .ok (.iaload, 1) := by decide +kernel
theorem dX5_of_61 : decode cX5_of 61 = .ok (.ireturn, 1) := by decide +kernel
theorem dX5_of_62 : decode cX5_of 62 = .ok (.aload_n 0, 1) := by decide +kernel
theorem dX5_of_63 : decode cX5_of 63 = .ok (.getfield 30, 3) := by decide +kernel
theorem dX5_of_66 : decode cX5_of 66 = .ok (.invokevirtual 89, 3) := by decide +kernel
theorem dX5_of_69 : decode cX5_of 69 = .ok (.ireturn, 1) := by decide +kernel
theorem dX5_of_70 : decode cX5_of 70 = .ok (.aload_n 0, 1) := by decide +kernel
theorem dX5_of_71 : decode cX5_of 71 = .ok (.getfield 30, 3) := by decide +kernel
theorem dX5_of_74 : decode cX5_of 74 = .ok (.invokevirtual 120, 3) := by decide +kernel
theorem dX5_of_77 : decode cX5_of 77 = .ok (.ireturn, 1) := by decide +kernel
theorem dX5_of_78 : decode cX5_of 78 = .ok (.aload_n 0, 1) := by decide +kernel
theorem dX5_of_79 : decode cX5_of 79 = .ok (.getfield 30, 3) := by decide +kernel
theorem dX5_of_82 : decode cX5_of 82 = .ok (.invokevirtual 123, 3) := by decide +kernel
theorem dX5_of_85 : decode cX5_of 85 = .ok (.ireturn, 1) := by decide +kernel
theorem dX5_of_86 : decode cX5_of 86 = .ok (.aload_n 0, 1) := by decide +kernel
theorem dX5_of_87 : decode cX5_of 87 = .ok (.getfield 30, 3) := by decide +kernel
theorem dX5_of_90 : decode cX5_of 90 = .ok (.invokevirtual 126, 3) := by decide +kernel
theorem dX5_of_93 : decode cX5_of 93 = .ok (.ireturn, 1) := by decide +kernel
theorem dX5_of_94 : decode cX5_of 94 = .ok (.bipush (-2), 2) := by decide +kernel
theorem dX5_of_96 : decode cX5_of 96 = .ok (.ireturn, 1) := by decide +kernel
set_option maxRecDepth 20000 in
theorem ggX5_node_X5_isSlot : GoodIn wsX5_node wsX5_isSlot := goodIn_r _ [5, 6, 7, 4, 8] (by decide +kernel) (by decide +kernel)
set_option maxRecDepth 20000 in
theorem gX5_node_X5_isSlot : GoodIn wsX5_node (va_wsS RX5 67 yX5_isSlot wsX5_isSlot) := goodIn_app (goodIn_of _ (by decide +kernel)) ggX5_node_X5_isSlot
set_option maxRecDepth 20000 in
theorem ggX5_node_X5_isNode : GoodIn wsX5_node wsX5_isNode := goodIn_r _ [12, 13, 6, 7, 4, 8, 75, 76, 77, 78, 79, 80, 81, 82, 83, 84] (by decide +kernel) (by decide +kernel)
set_option maxRecDepth 20000 in
theorem gX5_node_X5_isNode : GoodIn wsX5_node (wsV RX5 71 RX5 yX5_isNode wsX5_isNode) := goodIn_app (goodIn_of _ (by decide +kernel)) ggX5_node_X5_isNode
set_option maxRecDepth 20000 in
theorem ggX5_node_X5_load : GoodIn wsX5_node wsX5_load := goodIn_r _ [17, 13, 18, 19, 20, 21, 22, 23, 24, 25, 26, 27, 28, 29, 30, 31, 4, 32, 33, 34, 35, 36, 75, 76, 77, 78, 79, 80, 81, 82, 83, 84, 85, 86] (by decide +kernel) (by decide +kernel)
set_option maxRecDepth 20000 in
theorem gX5_node_X5_load : GoodIn wsX5_node (wsV RX5 74 RX5 yX5_load wsX5_load) := goodIn_app (goodIn_of _ (by decide +kernel)) ggX5_node_X5_load
set_option maxRecDepth 20000 in
theorem ggX5_node_X0_degree : GoodIn wsX5_node wsX0_degree := goodIn_r _ [39, 23, 40, 41, 42, 43, 44, 45, 46, 85, 86] (by decide +kernel) (by decide +kernel)
set_option maxRecDepth 20000 in
theorem gX5_node_X0_degree_n129 : GoodIn wsX5_node (wsX0_degree) := ggX5_node_X0_degree
set_option maxRecDepth 20000 in
theorem ggX5_node_X0_oddTriplesAtNode : GoodIn wsX5_node wsX0_oddTriplesAtNode := goodIn_r _ [49, 22, 50, 51, 52, 19, 53, 23, 54, 55, 56, 57, 58, 59, 60, 61, 40, 41, 42, 43, 44, 45, 46, 85, 86] (by decide +kernel) (by decide +kernel)
set_option maxRecDepth 20000 in
theorem gX5_node_X0_oddTriplesAtNode_n132 : GoodIn wsX5_node (wsX0_oddTriplesAtNode) := ggX5_node_X0_oddTriplesAtNode
set_option maxRecDepth 20000 in
theorem ggX5_node_X0_leaveAlone : GoodIn wsX5_node wsX0_leaveAlone := goodIn_r _ [64, 23, 65, 66, 67, 19, 68, 22, 58, 59, 60, 61, 85, 86] (by decide +kernel) (by decide +kernel)
set_option maxRecDepth 20000 in
theorem gX5_node_X0_leaveAlone_n135 : GoodIn wsX5_node (wsX0_leaveAlone) := ggX5_node_X0_leaveAlone
set_option maxRecDepth 20000 in
theorem ggX5_node_X0_number : GoodIn wsX5_node wsX0_number := goodIn_r _ [71, 22, 54, 55, 56, 19, 57, 23, 85, 86] (by decide +kernel) (by decide +kernel)
set_option maxRecDepth 20000 in
theorem gX5_node_X0_number_n85 : GoodIn wsX5_node (wsX0_number) := ggX5_node_X0_number
set_option maxRecDepth 20000 in
theorem ggX5_node_X0_drop : GoodIn wsX5_node wsX0_drop := goodIn_r _ [74, 22, 23, 85, 86] (by decide +kernel) (by decide +kernel)
set_option maxRecDepth 20000 in
theorem gX5_node_X0_drop_n138 : GoodIn wsX5_node (wsX0_drop) := ggX5_node_X0_drop
theorem dX5_node_0 : decode cX5_node 0 = .ok (.iload_n 1, 1) := by decide +kernel
theorem dX5_node_1 : decode cX5_node 1 = .ok (.invokestatic 67, 3) := by decide +kernel
theorem dX5_node_4 : decode cX5_node 4 = .ok (.ifCond .eq 11, 3) := by decide +kernel
theorem dX5_node_7 : decode cX5_node 7 = .ok (.aload_n 0, 1) := by decide +kernel
theorem dX5_node_8 : decode cX5_node 8 = .ok (.iload_n 2, 1) := by decide +kernel
theorem dX5_node_9 : decode cX5_node 9 = .ok (.invokevirtual 71, 3) := by decide +kernel
theorem dX5_node_12 : decode cX5_node 12 = .ok (.ifCond .ne 5, 3) := by decide +kernel
theorem dX5_node_15 : decode cX5_node 15 = .ok (.iconst (-1), 1) := by decide +kernel
theorem dX5_node_16 : decode cX5_node 16 = .ok (.ireturn, 1) := by decide +kernel
theorem dX5_node_17 : decode cX5_node 17 = .ok (.aload_n 0, 1) := by decide +kernel
theorem dX5_node_18 : decode cX5_node 18 = .ok (.aload_n 0, 1) := by decide +kernel
theorem dX5_node_19 : decode cX5_node 19 = .ok (.getfield 30, 3) := by decide +kernel
theorem dX5_node_22 : decode cX5_node 22 = .ok (.iload_n 1, 1) := by decide +kernel
theorem dX5_node_23 : decode cX5_node 23 = .ok (.invokevirtual 74, 3) := by decide +kernel
theorem dX5_node_26 : decode cX5_node 26 = .ok (.iload_n 3, 1) := by decide +kernel
theorem dX5_node_27 : decode cX5_node 27 = .ok (.tableswitch 87 0 3 #[29, 38, 47, 63], 29) := by decide +kernel
theorem dX5_node_56 : decode cX5_node 56 = .ok (.aload_n 0, 1) := by decide +kernel
theorem dX5_node_57 : decode cX5_node 57 = .ok (.getfield 30, 3) := by decide +kernel
theorem dX5_node_60 : decode cX5_node 60 = .ok (.iload_n 2, 1) := by decide +kernel
theorem dX5_node_61 : decode cX5_node 61 = .ok (.invokevirtual 129, 3) := by decide +kernel
theorem dX5_node_64 : decode cX5_node 64 = .ok (.ireturn, 1) := by decide +kernel
theorem dX5_node_65 : decode cX5_node 65 = .ok (.aload_n 0, 1) := by decide +kernel
theorem dX5_node_66 : decode cX5_node 66 = .ok (.getfield 30, 3) := by decide +kernel
theorem dX5_node_69 : decode cX5_node 69 = .ok (.iload_n 2, 1) := by decide +kernel
theorem dX5_node_70 : decode cX5_node 70 = .ok (.invokevirtual 132, 3) := by decide +kernel
theorem dX5_node_73 : decode cX5_node 73 = .ok (.ireturn, 1) := by decide +kernel
theorem dX5_node_74 : decode cX5_node 74 = .ok (.aload_n 0, 1) := by decide +kernel
theorem dX5_node_75 : decode cX5_node 75 = .ok (.getfield 30, 3) := by decide +kernel
theorem dX5_node_78 : decode cX5_node 78 = .ok (.iload_n 2, 1) := by decide +kernel
theorem dX5_node_79 : decode cX5_node 79 = .ok (.invokevirtual 135, 3) := by decide +kernel
theorem dX5_node_82 : decode cX5_node 82 = .ok (.aload_n 0, 1) := by decide +kernel
theorem dX5_node_83 : decode cX5_node 83 = .ok (.getfield 30, 3) := by decide +kernel
theorem dX5_node_86 : decode cX5_node 86 = .ok (.invokevirtual 85, 3) := by decide +kernel
theorem dX5_node_89 : decode cX5_node 89 = .ok (.ireturn, 1) := by decide +kernel
theorem dX5_node_90 : decode cX5_node 90 = .ok (.aload_n 0, 1) := by decide +kernel
theorem dX5_node_91 : decode cX5_node 91 = .ok (.getfield 30, 3) := by decide +kernel
theorem dX5_node_94 : decode cX5_node 94 = .ok (.iload_n 2, 1) := by decide +kernel
theorem dX5_node_95 : decode cX5_node 95 = .ok (.invokevirtual 135, 3) := by decide +kernel
theorem dX5_node_98 : decode cX5_node 98 = .ok (.aload_n 0, 1) := by decide +kernel
theorem dX5_node_99 : decode cX5_node 99 = .ok (.getfield 30, 3) := by decide +kernel
theorem dX5_node_102 : decode cX5_node 102 = .ok (.iload_n 2, 1) := by decide +kernel
theorem dX5_node_103 : decode cX5_node 103 = .ok (.invokevirtual 138, 3) := by decide +kernel
theorem dX5_node_106 : decode cX5_node 106 = .ok (.aload_n 0, 1) := by decide +kernel
theorem dX5_node_107 : decode cX5_node 107 = .ok (.getfield 30, 3) := by decide +kernel
theorem dX5_node_110 : decode cX5_node 110 = .ok (.invokevirtual 85, 3) := by decide +kernel
theorem dX5_node_113 : decode cX5_node 113 = .ok (.ireturn, 1) := by decide +kernel
theorem dX5_node_114 : decode cX5_node 114 = .ok (.bipush (-2), 2) := by decide +kernel
theorem dX5_node_116 : decode cX5_node 116 = .ok (.ireturn, 1) := by decide +kernel
set_option maxRecDepth 20000 in
theorem ggX5_pair_X5_isSlot : GoodIn wsX5_pair wsX5_isSlot := goodIn_r _ [5, 6, 7, 4, 8] (by decide +kernel) (by decide +kernel)
set_option maxRecDepth 20000 in
theorem gX5_pair_X5_isSlot : GoodIn wsX5_pair (va_wsS RX5 67 yX5_isSlot wsX5_isSlot) := goodIn_app (goodIn_of _ (by decide +kernel)) ggX5_pair_X5_isSlot
set_option maxRecDepth 20000 in
theorem ggX5_pair_X5_isNode : GoodIn wsX5_pair wsX5_isNode := goodIn_r _ [12, 13, 6, 7, 4, 8, 58, 59, 60, 61, 62, 63, 64, 65, 66, 67] (by decide +kernel) (by decide +kernel)
set_option maxRecDepth 20000 in
theorem gX5_pair_X5_isNode : GoodIn wsX5_pair (wsV RX5 71 RX5 yX5_isNode wsX5_isNode) := goodIn_app (goodIn_of _ (by decide +kernel)) ggX5_pair_X5_isNode
set_option maxRecDepth 20000 in
theorem ggX5_pair_X5_load : GoodIn wsX5_pair wsX5_load := goodIn_r _ [17, 13, 18, 19, 20, 21, 22, 23, 24, 25, 26, 27, 28, 29, 30, 31, 4, 32, 33, 34, 35, 36, 58, 59, 60, 61, 62, 63, 64, 65, 66, 67, 68, 69] (by decide +kernel) (by decide +kernel)
set_option maxRecDepth 20000 in
theorem gX5_pair_X5_load : GoodIn wsX5_pair (wsV RX5 74 RX5 yX5_load wsX5_load) := goodIn_app (goodIn_of _ (by decide +kernel)) ggX5_pair_X5_load
set_option maxRecDepth 20000 in
theorem ggX5_pair_X0_joined : GoodIn wsX5_pair wsX0_joined := goodIn_r _ [39, 23, 68, 69] (by decide +kernel) (by decide +kernel)
set_option maxRecDepth 20000 in
theorem gX5_pair_X0_joined_n141 : GoodIn wsX5_pair (wsX0_joined) := ggX5_pair_X0_joined
set_option maxRecDepth 20000 in
theorem ggX5_pair_X0_oddTriplesAtPair : GoodIn wsX5_pair wsX0_oddTriplesAtPair := goodIn_r _ [42, 23, 43, 37, 38, 19, 39, 44, 45, 46, 47, 22, 48, 49, 50, 51, 52, 53, 54, 68, 69] (by decide +kernel) (by decide +kernel)
set_option maxRecDepth 20000 in
theorem gX5_pair_X0_oddTriplesAtPair_n145 : GoodIn wsX5_pair (wsX0_oddTriplesAtPair) := ggX5_pair_X0_oddTriplesAtPair
set_option maxRecDepth 20000 in
theorem ggX5_pair_X0_shared : GoodIn wsX5_pair wsX0_shared := goodIn_r _ [57, 23, 48, 49, 50, 51, 52, 53, 54, 68, 69] (by decide +kernel) (by decide +kernel)
set_option maxRecDepth 20000 in
theorem gX5_pair_X0_shared_n148 : GoodIn wsX5_pair (wsX0_shared) := ggX5_pair_X0_shared
theorem dX5_pair_0 : decode cX5_pair 0 = .ok (.iload_n 1, 1) := by decide +kernel
theorem dX5_pair_1 : decode cX5_pair 1 = .ok (.invokestatic 67, 3) := by decide +kernel
theorem dX5_pair_4 : decode cX5_pair 4 = .ok (.ifCond .eq 19, 3) := by decide +kernel
theorem dX5_pair_7 : decode cX5_pair 7 = .ok (.aload_n 0, 1) := by decide +kernel
theorem dX5_pair_8 : decode cX5_pair 8 = .ok (.iload_n 2, 1) := by decide +kernel
theorem dX5_pair_9 : decode cX5_pair 9 = .ok (.invokevirtual 71, 3) := by decide +kernel
theorem dX5_pair_12 : decode cX5_pair 12 = .ok (.ifCond .eq 11, 3) := by decide +kernel
theorem dX5_pair_15 : decode cX5_pair 15 = .ok (.aload_n 0, 1) := by decide +kernel
theorem dX5_pair_16 : decode cX5_pair 16 = .ok (.iload_n 3, 1) := by decide +kernel
theorem dX5_pair_17 : decode cX5_pair 17 = .ok (.invokevirtual 71, 3) := by decide +kernel
theorem dX5_pair_20 : decode cX5_pair 20 = .ok (.ifCond .ne 5, 3) := by decide +kernel
theorem dX5_pair_23 : decode cX5_pair 23 = .ok (.iconst (-1), 1) := by decide +kernel
theorem dX5_pair_24 : decode cX5_pair 24 = .ok (.ireturn, 1) := by decide +kernel
theorem dX5_pair_25 : decode cX5_pair 25 = .ok (.iload_n 2, 1) := by decide +kernel
theorem dX5_pair_26 : decode cX5_pair 26 = .ok (.iload_n 3, 1) := by decide +kernel
theorem dX5_pair_27 : decode cX5_pair 27 = .ok (.if_icmp .ne 6, 3) := by decide +kernel
theorem dX5_pair_30 : decode cX5_pair 30 = .ok (.bipush (-2), 2) := by decide +kernel
theorem dX5_pair_32 : decode cX5_pair 32 = .ok (.ireturn, 1) := by decide +kernel
theorem dX5_pair_33 : decode cX5_pair 33 = .ok (.aload_n 0, 1) := by decide +kernel
theorem dX5_pair_34 : decode cX5_pair 34 = .ok (.aload_n 0, 1) := by decide +kernel
theorem dX5_pair_35 : decode cX5_pair 35 = .ok (.getfield 30, 3) := by decide +kernel
theorem dX5_pair_38 : decode cX5_pair 38 = .ok (.iload_n 1, 1) := by decide +kernel
theorem dX5_pair_39 : decode cX5_pair 39 = .ok (.invokevirtual 74, 3) := by decide +kernel
theorem dX5_pair_42 : decode cX5_pair 42 = .ok (.iload 4, 2) := by decide +kernel
theorem dX5_pair_44 : decode cX5_pair 44 = .ok (.tableswitch 58 0 2 #[28, 38, 48], 28) := by decide +kernel
theorem dX5_pair_72 : decode cX5_pair 72 = .ok (.aload_n 0, 1) := by decide +kernel
theorem dX5_pair_73 : decode cX5_pair 73 = .ok (.getfield 30, 3) := by decide +kernel
theorem dX5_pair_76 : decode cX5_pair 76 = .ok (.iload_n 2, 1) := by decide +kernel
theorem dX5_pair_77 : decode cX5_pair 77 = .ok (.iload_n 3, 1) := by decide +kernel
theorem dX5_pair_78 : decode cX5_pair 78 = .ok (.invokevirtual 141, 3) := by decide +kernel
theorem dX5_pair_81 : decode cX5_pair 81 = .ok (.ireturn, 1) := by decide +kernel
theorem dX5_pair_82 : decode cX5_pair 82 = .ok (.aload_n 0, 1) := by decide +kernel
theorem dX5_pair_83 : decode cX5_pair 83 = .ok (.getfield 30, 3) := by decide +kernel
theorem dX5_pair_86 : decode cX5_pair 86 = .ok (.iload_n 2, 1) := by decide +kernel
theorem dX5_pair_87 : decode cX5_pair 87 = .ok (.iload_n 3, 1) := by decide +kernel
theorem dX5_pair_88 : decode cX5_pair 88 = .ok (.invokevirtual 145, 3) := by decide +kernel
theorem dX5_pair_91 : decode cX5_pair 91 = .ok (.ireturn, 1) := by decide +kernel
theorem dX5_pair_92 : decode cX5_pair 92 = .ok (.aload_n 0, 1) := by decide +kernel
theorem dX5_pair_93 : decode cX5_pair 93 = .ok (.getfield 30, 3) := by decide +kernel
theorem dX5_pair_96 : decode cX5_pair 96 = .ok (.iload_n 2, 1) := by decide +kernel
theorem dX5_pair_97 : decode cX5_pair 97 = .ok (.iload_n 3, 1) := by decide +kernel
theorem dX5_pair_98 : decode cX5_pair 98 = .ok (.invokevirtual 148, 3) := by decide +kernel
theorem dX5_pair_101 : decode cX5_pair 101 = .ok (.ireturn, 1) := by decide +kernel
theorem dX5_pair_102 : decode cX5_pair 102 = .ok (.bipush (-2), 2) := by decide +kernel
theorem dX5_pair_104 : decode cX5_pair 104 = .ok (.ireturn, 1) := by decide +kernel
set_option maxRecDepth 20000 in
theorem ggX5_fewest_X5_isSlot : GoodIn wsX5_fewest wsX5_isSlot := goodIn_r _ [7, 8, 9, 6, 10] (by decide +kernel) (by decide +kernel)
set_option maxRecDepth 20000 in
theorem gX5_fewest_X5_isSlot : GoodIn wsX5_fewest (va_wsS RX5 67 yX5_isSlot wsX5_isSlot) := goodIn_app (goodIn_of _ (by decide +kernel)) ggX5_fewest_X5_isSlot
set_option maxRecDepth 20000 in
theorem ggX5_fewest_X5_within : GoodIn wsX5_fewest wsX5_within := goodIn_r _ [10] (by decide +kernel) (by decide +kernel)
set_option maxRecDepth 20000 in
theorem gX5_fewest_X5_within : GoodIn wsX5_fewest (va_wsS RX5 59 yX5_within wsX5_within) := goodIn_app (goodIn_of _ (by decide +kernel)) ggX5_fewest_X5_within
set_option maxRecDepth 20000 in
theorem ggX5_fewest_X5_load : GoodIn wsX5_fewest wsX5_load := goodIn_r _ [14, 2, 15, 16, 17, 18, 19, 20, 21, 22, 23, 24, 25, 26, 27, 28, 6, 29, 30, 31, 32, 33, 64, 65, 66, 67, 68, 69, 70, 71, 72, 73, 74, 75] (by decide +kernel) (by decide +kernel)
set_option maxRecDepth 20000 in
theorem gX5_fewest_X5_load : GoodIn wsX5_fewest (wsV RX5 74 RX5 yX5_load wsX5_load) := goodIn_app (goodIn_of _ (by decide +kernel)) ggX5_fewest_X5_load
set_option maxRecDepth 20000 in
theorem ggX5_fewest_X5_pairsOf : GoodIn wsX5_fewest wsX5_pairsOf := goodIn_r _ [29] (by decide +kernel) (by decide +kernel)
set_option maxRecDepth 20000 in
theorem gX5_fewest_X5_pairsOf : GoodIn wsX5_fewest (va_wsS RX5 92 yX5_pairsOf wsX5_pairsOf) := goodIn_app (goodIn_of _ (by decide +kernel)) ggX5_fewest_X5_pairsOf
set_option maxRecDepth 20000 in
theorem ggX5_fewest_X0_copySwitched : GoodIn wsX5_fewest wsX0_copySwitched := goodIn_r _ [37, 19, 20, 38, 39, 40, 41, 42, 43, 44, 16, 45, 46, 47, 48, 49, 74, 75] (by decide +kernel) (by decide +kernel)
set_option maxRecDepth 20000 in
theorem gX5_fewest_X0_copySwitched_n151 : GoodIn wsX5_fewest (wsX0_copySwitched) := ggX5_fewest_X0_copySwitched
set_option maxRecDepth 20000 in
theorem ggX5_fewest_X0_joinedPairs : GoodIn wsX5_fewest wsX0_joinedPairs := goodIn_r _ [52, 19, 53, 54, 55, 16, 56, 20, 57, 58, 59, 60, 61, 62, 63, 74, 75] (by decide +kernel) (by decide +kernel)
set_option maxRecDepth 20000 in
theorem gX5_fewest_X0_joinedPairs_n89 : GoodIn wsX5_fewest (wsX0_joinedPairs) := ggX5_fewest_X0_joinedPairs
theorem dX5_fewest_0 : decode cX5_fewest 0 = .ok (.iload_n 1, 1) := by decide +kernel
theorem dX5_fewest_1 : decode cX5_fewest 1 = .ok (.invokestatic 67, 3) := by decide +kernel
theorem dX5_fewest_4 : decode cX5_fewest 4 = .ok (.ifCond .ne 5, 3) := by decide +kernel
theorem dX5_fewest_7 : decode cX5_fewest 7 = .ok (.iconst (-1), 1) := by decide +kernel
theorem dX5_fewest_8 : decode cX5_fewest 8 = .ok (.ireturn, 1) := by decide +kernel
theorem dX5_fewest_9 : decode cX5_fewest 9 = .ok (.iload_n 2, 1) := by decide +kernel
theorem dX5_fewest_10 : decode cX5_fewest 10 = .ok (.iconst 0, 1) := by decide +kernel
theorem dX5_fewest_11 : decode cX5_fewest 11 = .ok (.iconst 2, 1) := by decide +kernel
theorem dX5_fewest_12 : decode cX5_fewest 12 = .ok (.invokestatic 59, 3) := by decide +kernel
theorem dX5_fewest_15 : decode cX5_fewest 15 = .ok (.ifCond .ne 6, 3) := by decide +kernel
theorem dX5_fewest_18 : decode cX5_fewest 18 = .ok (.bipush (-2), 2) := by decide +kernel
theorem dX5_fewest_20 : decode cX5_fewest 20 = .ok (.ireturn, 1) := by decide +kernel
theorem dX5_fewest_21 : decode cX5_fewest 21 = .ok (.aload_n 0, 1) := by decide +kernel
theorem dX5_fewest_22 : decode cX5_fewest 22 = .ok (.aload_n 0, 1) := by decide +kernel
theorem dX5_fewest_23 : decode cX5_fewest 23 = .ok (.getfield 30, 3) := by decide +kernel
theorem dX5_fewest_26 : decode cX5_fewest 26 = .ok (.iload_n 1, 1) := by decide +kernel
theorem dX5_fewest_27 : decode cX5_fewest 27 = .ok (.invokevirtual 74, 3) := by decide +kernel
theorem dX5_fewest_30 : decode cX5_fewest 30 = .ok (.aload_n 0, 1) := by decide +kernel
theorem dX5_fewest_31 : decode cX5_fewest 31 = .ok (.getfield 10, 3) := by decide +kernel
theorem dX5_fewest_34 : decode cX5_fewest 34 = .ok (.getfield 63, 3) := by decide +kernel
theorem dX5_fewest_37 : decode cX5_fewest 37 = .ok (.invokestatic 92, 3) := by decide +kernel
theorem dX5_fewest_40 : decode cX5_fewest 40 = .ok (.iconst 1, 1) := by decide +kernel
theorem dX5_fewest_41 : decode cX5_fewest 41 = .ok (.iadd, 1) := by decide +kernel
theorem dX5_fewest_42 : decode cX5_fewest 42 = .ok (.istore_n 3, 1) := by decide +kernel
theorem dX5_fewest_43 : decode cX5_fewest 43 = .ok (.iconst 0, 1) := by decide +kernel
theorem dX5_fewest_44 : decode cX5_fewest 44 = .ok (.istore 4, 2) := by decide +kernel
theorem dX5_fewest_46 : decode cX5_fewest 46 = .ok (.iconst 0, 1) := by decide +kernel
theorem dX5_fewest_47 : decode cX5_fewest 47 = .ok (.istore 5, 2) := by decide +kernel
theorem dX5_fewest_49 : decode cX5_fewest 49 = .ok (.iconst 0, 1) := by decide +kernel
theorem dX5_fewest_50 : decode cX5_fewest 50 = .ok (.istore 6, 2) := by decide +kernel
theorem dX5_fewest_52 : decode cX5_fewest 52 = .ok (.iload 6, 2) := by decide +kernel
theorem dX5_fewest_54 : decode cX5_fewest 54 = .ok (.iconst 1, 1) := by decide +kernel
theorem dX5_fewest_55 : decode cX5_fewest 55 = .ok (.aload_n 0, 1) := by decide +kernel
theorem dX5_fewest_56 : decode cX5_fewest 56 = .ok (.getfield 10, 3) := by decide +kernel
theorem dX5_fewest_59 : decode cX5_fewest 59 = .ok (.getfield 63, 3) := by decide +kernel
theorem dX5_fewest_62 : decode cX5_fewest 62 = .ok (.ishl, 1) := by decide +kernel
theorem dX5_fewest_63 : decode cX5_fewest 63 = .ok (.if_icmp .ge 56, 3) := by decide +kernel
theorem dX5_fewest_66 : decode cX5_fewest 66 = .ok (.aload_n 0, 1) := by decide +kernel
theorem dX5_fewest_67 : decode cX5_fewest 67 = .ok (.getfield 34, 3) := by decide +kernel
theorem dX5_fewest_70 : decode cX5_fewest 70 = .ok (.aload_n 0, 1) := by decide +kernel
theorem dX5_fewest_71 : decode cX5_fewest 71 = .ok (.getfield 30, 3) := by decide +kernel
theorem dX5_fewest_74 : decode cX5_fewest 74 = .ok (.iload 6, 2) := by decide +kernel
theorem dX5_fewest_76 : decode cX5_fewest 76 = .ok (.invokevirtual 151, 3) := by decide +kernel
theorem dX5_fewest_79 : decode cX5_fewest 79 = .ok (.aload_n 0, 1) := by decide +kernel
theorem dX5_fewest_80 : decode cX5_fewest 80 = .ok (.getfield 34, 3) := by decide +kernel
theorem dX5_fewest_83 : decode cX5_fewest 83 = .ok (.invokevirtual 89, 3) := by decide +kernel
theorem dX5_fewest_86 : decode cX5_fewest 86 = .ok (.istore 7, 2) := by decide +kernel
theorem dX5_fewest_88 : decode cX5_fewest 88 = .ok (.iload 7, 2) := by decide +kernel
theorem dX5_fewest_90 : decode cX5_fewest 90 = .ok (.iload_n 3, 1) := by decide +kernel
theorem dX5_fewest_91 : decode cX5_fewest 91 = .ok (.if_icmp .ge 13, 3) := by decide +kernel
theorem dX5_fewest_94 : decode cX5_fewest 94 = .ok (.iload 7, 2) := by decide +kernel
theorem dX5_fewest_96 : decode cX5_fewest 96 = .ok (.istore_n 3, 1) := by decide +kernel
theorem dX5_fewest_97 : decode cX5_fewest 97 = .ok (.iload 6, 2) := by decide +kernel
theorem dX5_fewest_99 : decode cX5_fewest 99 = .ok (.istore 4, 2) := by decide +kernel
theorem dX5_fewest_101 : decode cX5_fewest 101 = .ok (.iconst 0, 1) := by decide +kernel
theorem dX5_fewest_102 : decode cX5_fewest 102 = .ok (.istore 5, 2) := by decide +kernel
theorem dX5_fewest_104 : decode cX5_fewest 104 = .ok (.iload 7, 2) := by decide +kernel
theorem dX5_fewest_106 : decode cX5_fewest 106 = .ok (.iload_n 3, 1) := by decide +kernel
theorem dX5_fewest_107 : decode cX5_fewest 107 = .ok (.if_icmp .ne 6, 3) := by decide +kernel
theorem dX5_fewest_110 : decode cX5_fewest 110 = .ok (.iinc 5 1, 3) := by decide +kernel
theorem dX5_fewest_113 : decode cX5_fewest 113 = .ok (.iinc 6 2, 3) := by decide +kernel
theorem dX5_fewest_116 : decode cX5_fewest 116 = .ok (.goto (-64), 3) := by decide +kernel
theorem dX5_fewest_119 : decode cX5_fewest 119 = .ok (.iload_n 2, 1) := by decide +kernel
theorem dX5_fewest_120 : decode cX5_fewest 120 = .ok (.ifCond .ne 7, 3) := by decide +kernel
theorem dX5_fewest_123 : decode cX5_fewest 123 = .ok (.iload_n 3, 1) := by decide +kernel
theorem dX5_fewest_124 : decode cX5_fewest 124 = .ok (.goto 15, 3) := by decide +kernel
theorem dX5_fewest_127 : decode cX5_fewest 127 = .ok (.iload_n 2, 1) := by decide +kernel
theorem dX5_fewest_128 : decode cX5_fewest 128 = .ok (.iconst 1, 1) := by decide +kernel
theorem dX5_fewest_129 : decode cX5_fewest 129 = .ok (.if_icmp .ne 8, 3) := by decide +kernel
theorem dX5_fewest_132 : decode cX5_fewest 132 = .ok (.iload 4, 2) := by decide +kernel
theorem dX5_fewest_134 : decode cX5_fewest 134 = .ok (.goto 5, 3) := by decide +kernel
theorem dX5_fewest_137 : decode cX5_fewest 137 = .ok (.iload 5, 2) := by decide +kernel
theorem dX5_fewest_139 : decode cX5_fewest 139 = .ok (.ireturn, 1) := by decide +kernel
set_option maxRecDepth 20000 in
theorem ggX5_even_X5_isSlot : GoodIn wsX5_even wsX5_isSlot := goodIn_r _ [5, 6, 7, 4, 8] (by decide +kernel) (by decide +kernel)
set_option maxRecDepth 20000 in
theorem gX5_even_X5_isSlot : GoodIn wsX5_even (va_wsS RX5 67 yX5_isSlot wsX5_isSlot) := goodIn_app (goodIn_of _ (by decide +kernel)) ggX5_even_X5_isSlot
set_option maxRecDepth 20000 in
theorem ggX5_even_X5_within : GoodIn wsX5_even wsX5_within := goodIn_r _ [8] (by decide +kernel) (by decide +kernel)
set_option maxRecDepth 20000 in
theorem gX5_even_X5_within : GoodIn wsX5_even (va_wsS RX5 59 yX5_within wsX5_within) := goodIn_app (goodIn_of _ (by decide +kernel)) ggX5_even_X5_within
set_option maxRecDepth 20000 in
theorem ggX5_even_X5_load : GoodIn wsX5_even wsX5_load := goodIn_r _ [12, 13, 14, 15, 16, 17, 18, 19, 20, 21, 22, 23, 24, 25, 26, 27, 4, 28, 29, 30, 31, 32, 90, 91, 92, 93, 94, 95, 96, 97, 98, 99, 100, 101] (by decide +kernel) (by decide +kernel)
set_option maxRecDepth 20000 in
theorem gX5_even_X5_load : GoodIn wsX5_even (wsV RX5 74 RX5 yX5_load wsX5_load) := goodIn_app (goodIn_of _ (by decide +kernel)) ggX5_even_X5_load
set_option maxRecDepth 20000 in
theorem ggX5_even_X5_howManyBy : GoodIn wsX5_even wsX5_howManyBy := goodIn_r _ [36, 1, 37, 38, 15, 39, 40, 18, 19, 41, 42, 43, 44, 45, 46, 47, 48, 49, 50, 51, 52, 53, 54, 55, 56, 57, 58, 59, 60, 61, 62, 63, 64, 65, 66, 67, 68, 69, 70, 71, 72, 73, 74, 75, 76, 77, 78, 79, 80, 81, 82, 83, 84, 85, 90, 91, 92, 93, 94, 95, 96, 97, 100, 101] (by decide +kernel) (by decide +kernel)
set_option maxRecDepth 20000 in
theorem gX5_even_X5_howManyBy : GoodIn wsX5_even (wsV RX5 154 RX5 yX5_howManyBy wsX5_howManyBy) := goodIn_app (goodIn_of _ (by decide +kernel)) ggX5_even_X5_howManyBy
set_option maxRecDepth 20000 in
theorem ggX5_even_X5_leastSetBy : GoodIn wsX5_even wsX5_leastSetBy := goodIn_r _ [89, 1, 37, 38, 15, 39, 40, 18, 19, 41, 42, 43, 44, 45, 46, 47, 48, 49, 50, 51, 52, 53, 54, 55, 56, 57, 58, 59, 60, 61, 62, 63, 64, 65, 66, 67, 68, 69, 70, 90, 91, 92, 93, 94, 95, 96, 97, 100, 101] (by decide +kernel) (by decide +kernel)
set_option maxRecDepth 20000 in
theorem gX5_even_X5_leastSetBy : GoodIn wsX5_even (wsV RX5 158 RX5 yX5_leastSetBy wsX5_leastSetBy) := goodIn_app (goodIn_of _ (by decide +kernel)) ggX5_even_X5_leastSetBy
theorem dX5_even_0 : decode cX5_even 0 = .ok (.iload_n 1, 1) := by decide +kernel
theorem dX5_even_1 : decode cX5_even 1 = .ok (.invokestatic 67, 3) := by decide +kernel
theorem dX5_even_4 : decode cX5_even 4 = .ok (.ifCond .ne 5, 3) := by decide +kernel
theorem dX5_even_7 : decode cX5_even 7 = .ok (.iconst (-1), 1) := by decide +kernel
theorem dX5_even_8 : decode cX5_even 8 = .ok (.ireturn, 1) := by decide +kernel
theorem dX5_even_9 : decode cX5_even 9 = .ok (.iload_n 2, 1) := by decide +kernel
theorem dX5_even_10 : decode cX5_even 10 = .ok (.iconst 0, 1) := by decide +kernel
theorem dX5_even_11 : decode cX5_even 11 = .ok (.iconst 1, 1) := by decide +kernel
theorem dX5_even_12 : decode cX5_even 12 = .ok (.invokestatic 59, 3) := by decide +kernel
theorem dX5_even_15 : decode cX5_even 15 = .ok (.ifCond .ne 6, 3) := by decide +kernel
theorem dX5_even_18 : decode cX5_even 18 = .ok (.bipush (-2), 2) := by decide +kernel
theorem dX5_even_20 : decode cX5_even 20 = .ok (.ireturn, 1) := by decide +kernel
theorem dX5_even_21 : decode cX5_even 21 = .ok (.aload_n 0, 1) := by decide +kernel
theorem dX5_even_22 : decode cX5_even 22 = .ok (.aload_n 0, 1) := by decide +kernel
theorem dX5_even_23 : decode cX5_even 23 = .ok (.getfield 30, 3) := by decide +kernel
theorem dX5_even_26 : decode cX5_even 26 = .ok (.iload_n 1, 1) := by decide +kernel
theorem dX5_even_27 : decode cX5_even 27 = .ok (.invokevirtual 74, 3) := by decide +kernel
theorem dX5_even_30 : decode cX5_even 30 = .ok (.iload_n 2, 1) := by decide +kernel
theorem dX5_even_31 : decode cX5_even 31 = .ok (.ifCond .ne 12, 3) := by decide +kernel
theorem dX5_even_34 : decode cX5_even 34 = .ok (.aload_n 0, 1) := by decide +kernel
theorem dX5_even_35 : decode cX5_even 35 = .ok (.iconst (-1), 1) := by decide +kernel
theorem dX5_even_36 : decode cX5_even 36 = .ok (.iconst 0, 1) := by decide +kernel
theorem dX5_even_37 : decode cX5_even 37 = .ok (.invokevirtual 154, 3) := by decide +kernel
theorem dX5_even_40 : decode cX5_even 40 = .ok (.goto 8, 3) := by decide +kernel
theorem dX5_even_43 : decode cX5_even 43 = .ok (.aload_n 0, 1) := by decide +kernel
theorem dX5_even_44 : decode cX5_even 44 = .ok (.iconst (-1), 1) := by decide +kernel
theorem dX5_even_45 : decode cX5_even 45 = .ok (.invokevirtual 158, 3) := by decide +kernel
theorem dX5_even_48 : decode cX5_even 48 = .ok (.ireturn, 1) := by decide +kernel
set_option maxRecDepth 20000 in
theorem ggX5_by_X5_isSlot : GoodIn wsX5_by wsX5_isSlot := goodIn_r _ [5, 6, 7, 4, 8] (by decide +kernel) (by decide +kernel)
set_option maxRecDepth 20000 in
theorem gX5_by_X5_isSlot : GoodIn wsX5_by (va_wsS RX5 67 yX5_isSlot wsX5_isSlot) := goodIn_app (goodIn_of _ (by decide +kernel)) ggX5_by_X5_isSlot
set_option maxRecDepth 20000 in
theorem ggX5_by_X5_within : GoodIn wsX5_by wsX5_within := goodIn_r _ [8] (by decide +kernel) (by decide +kernel)
set_option maxRecDepth 20000 in
theorem gX5_by_X5_within : GoodIn wsX5_by (va_wsS RX5 59 yX5_within wsX5_within) := goodIn_app (goodIn_of _ (by decide +kernel)) ggX5_by_X5_within
set_option maxRecDepth 20000 in
theorem ggX5_by_X5_load : GoodIn wsX5_by wsX5_load := goodIn_r _ [12, 13, 14, 15, 16, 17, 18, 19, 20, 21, 22, 23, 24, 25, 26, 27, 4, 28, 29, 30, 31, 32, 90, 91, 92, 93, 94, 95, 96, 97, 98, 99, 100, 101] (by decide +kernel) (by decide +kernel)
set_option maxRecDepth 20000 in
theorem gX5_by_X5_load : GoodIn wsX5_by (wsV RX5 74 RX5 yX5_load wsX5_load) := goodIn_app (goodIn_of _ (by decide +kernel)) ggX5_by_X5_load
set_option maxRecDepth 20000 in
theorem ggX5_by_X5_leastSetBy : GoodIn wsX5_by wsX5_leastSetBy := goodIn_r _ [36, 1, 37, 38, 15, 39, 40, 18, 19, 41, 42, 43, 44, 45, 46, 47, 48, 49, 50, 51, 52, 53, 54, 55, 56, 57, 58, 59, 60, 61, 62, 63, 64, 65, 66, 67, 68, 69, 70, 90, 91, 92, 93, 94, 95, 96, 97, 100, 101] (by decide +kernel) (by decide +kernel)
set_option maxRecDepth 20000 in
theorem gX5_by_X5_leastSetBy : GoodIn wsX5_by (wsV RX5 158 RX5 yX5_leastSetBy wsX5_leastSetBy) := goodIn_app (goodIn_of _ (by decide +kernel)) ggX5_by_X5_leastSetBy
set_option maxRecDepth 20000 in
theorem ggX5_by_X5_howManyBy : GoodIn wsX5_by wsX5_howManyBy := goodIn_r _ [74, 1, 37, 38, 15, 39, 40, 18, 19, 41, 42, 43, 44, 45, 46, 47, 48, 49, 50, 51, 52, 53, 54, 55, 56, 57, 58, 59, 60, 61, 62, 63, 64, 65, 66, 67, 68, 69, 70, 75, 76, 77, 78, 79, 80, 81, 82, 83, 84, 85, 86, 87, 88, 89, 90, 91, 92, 93, 94, 95, 96, 97, 100, 101] (by decide +kernel) (by decide +kernel)
set_option maxRecDepth 20000 in
theorem gX5_by_X5_howManyBy : GoodIn wsX5_by (wsV RX5 154 RX5 yX5_howManyBy wsX5_howManyBy) := goodIn_app (goodIn_of _ (by decide +kernel)) ggX5_by_X5_howManyBy
theorem dX5_by_0 : decode cX5_by 0 = .ok (.iload_n 1, 1) := by decide +kernel
theorem dX5_by_1 : decode cX5_by 1 = .ok (.invokestatic 67, 3) := by decide +kernel
theorem dX5_by_4 : decode cX5_by 4 = .ok (.ifCond .ne 5, 3) := by decide +kernel
theorem dX5_by_7 : decode cX5_by 7 = .ok (.iconst (-1), 1) := by decide +kernel
theorem dX5_by_8 : decode cX5_by 8 = .ok (.ireturn, 1) := by decide +kernel
theorem dX5_by_9 : decode cX5_by 9 = .ok (.iload_n 2, 1) := by decide +kernel
theorem dX5_by_10 : decode cX5_by 10 = .ok (.iconst 0, 1) := by decide +kernel
theorem dX5_by_11 : decode cX5_by 11 = .ok (.bipush 6, 2) := by decide +kernel
theorem dX5_by_13 : decode cX5_by 13 = .ok (.invokestatic 59, 3) := by decide +kernel
theorem dX5_by_16 : decode cX5_by 16 = .ok (.ifCond .eq 12, 3) := by decide +kernel
theorem dX5_by_19 : decode cX5_by 19 = .ok (.iload_n 3, 1) := by decide +kernel
theorem dX5_by_20 : decode cX5_by 20 = .ok (.iconst 0, 1) := by decide +kernel
theorem dX5_by_21 : decode cX5_by 21 = .ok (.iconst 2, 1) := by decide +kernel
theorem dX5_by_22 : decode cX5_by 22 = .ok (.invokestatic 59, 3) := by decide +kernel
theorem dX5_by_25 : decode cX5_by 25 = .ok (.ifCond .ne 6, 3) := by decide +kernel
theorem dX5_by_28 : decode cX5_by 28 = .ok (.bipush (-2), 2) := by decide +kernel
theorem dX5_by_30 : decode cX5_by 30 = .ok (.ireturn, 1) := by decide +kernel
theorem dX5_by_31 : decode cX5_by 31 = .ok (.aload_n 0, 1) := by decide +kernel
theorem dX5_by_32 : decode cX5_by 32 = .ok (.aload_n 0, 1) := by decide +kernel
theorem dX5_by_33 : decode cX5_by 33 = .ok (.getfield 30, 3) := by decide +kernel
theorem dX5_by_36 : decode cX5_by 36 = .ok (.iload_n 1, 1) := by decide +kernel
theorem dX5_by_37 : decode cX5_by 37 = .ok (.invokevirtual 74, 3) := by decide +kernel
theorem dX5_by_40 : decode cX5_by 40 = .ok (.iload_n 3, 1) := by decide +kernel
theorem dX5_by_41 : decode cX5_by 41 = .ok (.iconst 1, 1) := by decide +kernel
theorem dX5_by_42 : decode cX5_by 42 = .ok (.if_icmp .ne 11, 3) := by decide +kernel
theorem dX5_by_45 : decode cX5_by 45 = .ok (.aload_n 0, 1) := by decide +kernel
theorem dX5_by_46 : decode cX5_by 46 = .ok (.iload_n 2, 1) := by decide +kernel
theorem dX5_by_47 : decode cX5_by 47 = .ok (.invokevirtual 158, 3) := by decide +kernel
theorem dX5_by_50 : decode cX5_by 50 = .ok (.goto 18, 3) := by decide +kernel
theorem dX5_by_53 : decode cX5_by 53 = .ok (.aload_n 0, 1) := by decide +kernel
theorem dX5_by_54 : decode cX5_by 54 = .ok (.iload_n 2, 1) := by decide +kernel
theorem dX5_by_55 : decode cX5_by 55 = .ok (.iload_n 3, 1) := by decide +kernel
theorem dX5_by_56 : decode cX5_by 56 = .ok (.iconst 2, 1) := by decide +kernel
theorem dX5_by_57 : decode cX5_by 57 = .ok (.if_icmp .ne 7, 3) := by decide +kernel
theorem dX5_by_60 : decode cX5_by 60 = .ok (.iconst 1, 1) := by decide +kernel
theorem dX5_by_61 : decode cX5_by 61 = .ok (.goto 4, 3) := by decide +kernel
theorem dX5_by_64 : decode cX5_by 64 = .ok (.iconst 0, 1) := by decide +kernel
theorem dX5_by_65 : decode cX5_by 65 = .ok (.invokevirtual 154, 3) := by decide +kernel
theorem dX5_by_68 : decode cX5_by 68 = .ok (.ireturn, 1) := by decide +kernel
set_option maxRecDepth 20000 in
theorem ggX5_compare_X5_isSlot : GoodIn wsX5_compare wsX5_isSlot := goodIn_r _ [7, 8, 9, 6, 10] (by decide +kernel) (by decide +kernel)
set_option maxRecDepth 20000 in
theorem gX5_compare_X5_isSlot : GoodIn wsX5_compare (va_wsS RX5 67 yX5_isSlot wsX5_isSlot) := goodIn_app (goodIn_of _ (by decide +kernel)) ggX5_compare_X5_isSlot
set_option maxRecDepth 20000 in
theorem ggX5_compare_X5_bringingSet : GoodIn wsX5_compare wsX5_bringingSet := goodIn_r _ [14, 1, 2, 15, 16, 17, 6, 18, 19, 20, 21, 22, 23, 24, 25, 26, 27, 28, 29, 30, 31, 32, 33, 34, 35, 36, 37, 38, 39, 40, 41, 42, 43, 44, 45, 46, 47, 48, 49, 50, 51, 52, 107, 108, 109, 110, 111, 112, 113, 114, 115, 116, 117, 118] (by decide +kernel) (by decide +kernel)
set_option maxRecDepth 20000 in
theorem gX5_compare_X5_bringingSet : GoodIn wsX5_compare (wsV RX5 161 RX5 yX5_bringingSet wsX5_bringingSet) := goodIn_app (goodIn_of _ (by decide +kernel)) ggX5_compare_X5_bringingSet
set_option maxRecDepth 20000 in
theorem ggX5_compare_X5_load : GoodIn wsX5_compare wsX5_load := goodIn_r _ [18, 19, 20, 21, 22, 23, 24, 25, 26, 27, 28, 29, 30, 31, 32, 33, 6, 34, 35, 36, 37, 38, 107, 108, 109, 110, 111, 112, 113, 114, 117, 118, 115, 116] (by decide +kernel) (by decide +kernel)
set_option maxRecDepth 20000 in
theorem gX5_compare_X5_load : GoodIn wsX5_compare (wsV RX5 74 RX5 yX5_load wsX5_load) := goodIn_app (goodIn_of _ (by decide +kernel)) ggX5_compare_X5_load
set_option maxRecDepth 20000 in
theorem ggX5_compare_X2_brings : GoodIn wsX5_compare wsX2_brings := goodIn_r _ [56, 57, 58, 59, 54, 60, 61, 62, 63, 64, 21, 65, 66, 25, 67, 68, 69, 70, 71, 72, 73, 50, 51, 52, 119, 115, 116] (by decide +kernel) (by decide +kernel)
set_option maxRecDepth 20000 in
theorem gX5_compare_X2_brings_n164 : GoodIn wsX5_compare (wsX2_brings) := ggX5_compare_X2_brings
set_option maxRecDepth 20000 in
theorem ggX5_compare_X5_kindOfSlot : GoodIn wsX5_compare wsX5_kindOfSlot := goodIn_r _ [77, 1, 3, 15, 16, 17, 6, 18, 19, 20, 21, 22, 23, 24, 25, 26, 27, 28, 29, 30, 31, 32, 33, 34, 35, 36, 37, 38, 78, 54, 79, 80, 57, 81, 82, 83, 84, 85, 86, 87, 88, 39, 40, 41, 42, 43, 44, 45, 89, 90, 91, 92, 93, 94, 50, 51, 52, 95, 96, 97, 98, 99, 100, 101, 102, 103, 104, 105, 106, 107, 108, 109, 110, 111, 112, 113, 114, 117, 118, 115, 116, 119] (by decide +kernel) (by decide +kernel)
set_option maxRecDepth 20000 in
theorem gX5_compare_X5_kindOfSlot : GoodIn wsX5_compare (wsV RX5 168 RX5 yX5_kindOfSlot wsX5_kindOfSlot) := goodIn_app (goodIn_of _ (by decide +kernel)) ggX5_compare_X5_kindOfSlot
theorem dX5_compare_0 : decode cX5_compare 0 = .ok (.iload_n 1, 1) := by decide +kernel
theorem dX5_compare_1 : decode cX5_compare 1 = .ok (.invokestatic 67, 3) := by decide +kernel
theorem dX5_compare_4 : decode cX5_compare 4 = .ok (.ifCond .eq 10, 3) := by decide +kernel
theorem dX5_compare_7 : decode cX5_compare 7 = .ok (.iload_n 2, 1) := by decide +kernel
theorem dX5_compare_8 : decode cX5_compare 8 = .ok (.invokestatic 67, 3) := by decide +kernel
theorem dX5_compare_11 : decode cX5_compare 11 = .ok (.ifCond .ne 5, 3) := by decide +kernel
theorem dX5_compare_14 : decode cX5_compare 14 = .ok (.iconst (-1), 1) := by decide +kernel
theorem dX5_compare_15 : decode cX5_compare 15 = .ok (.ireturn, 1) := by decide +kernel
theorem dX5_compare_16 : decode cX5_compare 16 = .ok (.iload_n 3, 1) := by decide +kernel
theorem dX5_compare_17 : decode cX5_compare 17 = .ok (.tableswitch 116 0 3 #[31, 48, 55, 97], 31) := by decide +kernel
theorem dX5_compare_48 : decode cX5_compare 48 = .ok (.aload_n 0, 1) := by decide +kernel
theorem dX5_compare_49 : decode cX5_compare 49 = .ok (.iload_n 1, 1) := by decide +kernel
theorem dX5_compare_50 : decode cX5_compare 50 = .ok (.iload_n 2, 1) := by decide +kernel
theorem dX5_compare_51 : decode cX5_compare 51 = .ok (.invokevirtual 161, 3) := by decide +kernel
theorem dX5_compare_54 : decode cX5_compare 54 = .ok (.bipush (-6), 2) := by decide +kernel
theorem dX5_compare_56 : decode cX5_compare 56 = .ok (.if_icmp .ne 7, 3) := by decide +kernel
theorem dX5_compare_59 : decode cX5_compare 59 = .ok (.iconst 0, 1) := by decide +kernel
theorem dX5_compare_60 : decode cX5_compare 60 = .ok (.goto 4, 3) := by decide +kernel
theorem dX5_compare_63 : decode cX5_compare 63 = .ok (.iconst 1, 1) := by decide +kernel
theorem dX5_compare_64 : decode cX5_compare 64 = .ok (.ireturn, 1) := by decide +kernel
theorem dX5_compare_65 : decode cX5_compare 65 = .ok (.aload_n 0, 1) := by decide +kernel
theorem dX5_compare_66 : decode cX5_compare 66 = .ok (.iload_n 1, 1) := by decide +kernel
theorem dX5_compare_67 : decode cX5_compare 67 = .ok (.iload_n 2, 1) := by decide +kernel
theorem dX5_compare_68 : decode cX5_compare 68 = .ok (.invokevirtual 161, 3) := by decide +kernel
theorem dX5_compare_71 : decode cX5_compare 71 = .ok (.ireturn, 1) := by decide +kernel
theorem dX5_compare_72 : decode cX5_compare 72 = .ok (.aload_n 0, 1) := by decide +kernel
theorem dX5_compare_73 : decode cX5_compare 73 = .ok (.aload_n 0, 1) := by decide +kernel
theorem dX5_compare_74 : decode cX5_compare 74 = .ok (.getfield 30, 3) := by decide +kernel
theorem dX5_compare_77 : decode cX5_compare 77 = .ok (.iload_n 1, 1) := by decide +kernel
theorem dX5_compare_78 : decode cX5_compare 78 = .ok (.invokevirtual 74, 3) := by decide +kernel
theorem dX5_compare_81 : decode cX5_compare 81 = .ok (.aload_n 0, 1) := by decide +kernel
theorem dX5_compare_82 : decode cX5_compare 82 = .ok (.aload_n 0, 1) := by decide +kernel
theorem dX5_compare_83 : decode cX5_compare 83 = .ok (.getfield 34, 3) := by decide +kernel
theorem dX5_compare_86 : decode cX5_compare 86 = .ok (.iload_n 2, 1) := by decide +kernel
theorem dX5_compare_87 : decode cX5_compare 87 = .ok (.invokevirtual 74, 3) := by decide +kernel
theorem dX5_compare_90 : decode cX5_compare 90 = .ok (.aload_n 0, 1) := by decide +kernel
theorem dX5_compare_91 : decode cX5_compare 91 = .ok (.getfield 40, 3) := by decide +kernel
theorem dX5_compare_94 : decode cX5_compare 94 = .ok (.aload_n 0, 1) := by decide +kernel
theorem dX5_compare_95 : decode cX5_compare 95 = .ok (.getfield 30, 3) := by decide +kernel
theorem dX5_compare_98 : decode cX5_compare 98 = .ok (.aload_n 0, 1) := by decide +kernel
theorem dX5_compare_99 : decode cX5_compare 99 = .ok (.getfield 34, 3) := by decide +kernel
theorem dX5_compare_102 : decode cX5_compare 102 = .ok (.invokevirtual 164, 3) := by decide +kernel
theorem dX5_compare_105 : decode cX5_compare 105 = .ok (.ifCond .eq 7, 3) := by decide +kernel
theorem dX5_compare_108 : decode cX5_compare 108 = .ok (.iconst 1, 1) := by decide +kernel
theorem dX5_compare_109 : decode cX5_compare 109 = .ok (.goto 4, 3) := by decide +kernel
theorem dX5_compare_112 : decode cX5_compare 112 = .ok (.iconst 0, 1) := by decide +kernel
theorem dX5_compare_113 : decode cX5_compare 113 = .ok (.ireturn, 1) := by decide +kernel
theorem dX5_compare_114 : decode cX5_compare 114 = .ok (.aload_n 0, 1) := by decide +kernel
theorem dX5_compare_115 : decode cX5_compare 115 = .ok (.iload_n 1, 1) := by decide +kernel
theorem dX5_compare_116 : decode cX5_compare 116 = .ok (.invokevirtual 168, 3) := by decide +kernel
theorem dX5_compare_119 : decode cX5_compare 119 = .ok (.aload_n 0, 1) := by decide +kernel
theorem dX5_compare_120 : decode cX5_compare 120 = .ok (.iload_n 2, 1) := by decide +kernel
theorem dX5_compare_121 : decode cX5_compare 121 = .ok (.invokevirtual 168, 3) := by decide +kernel
theorem dX5_compare_124 : decode cX5_compare 124 = .ok (.if_icmp .ne 7, 3) := by decide +kernel
theorem dX5_compare_127 : decode cX5_compare 127 = .ok (.iconst 1, 1) := by decide +kernel
theorem dX5_compare_128 : decode cX5_compare 128 = .ok (.goto 4, 3) := by decide +kernel
theorem dX5_compare_131 : decode cX5_compare 131 = .ok (.iconst 0, 1) := by decide +kernel
theorem dX5_compare_132 : decode cX5_compare 132 = .ok (.ireturn, 1) := by decide +kernel
theorem dX5_compare_133 : decode cX5_compare 133 = .ok (.bipush (-2), 2) := by decide +kernel
theorem dX5_compare_135 : decode cX5_compare 135 = .ok (.ireturn, 1) := by decide +kernel
set_option maxRecDepth 20000 in
theorem ggX5_kind_X5_isSlot : GoodIn wsX5_kind wsX5_isSlot := goodIn_r _ [7, 8, 9, 6, 10] (by decide +kernel) (by decide +kernel)
set_option maxRecDepth 20000 in
theorem gX5_kind_X5_isSlot : GoodIn wsX5_kind (va_wsS RX5 67 yX5_isSlot wsX5_isSlot) := goodIn_app (goodIn_of _ (by decide +kernel)) ggX5_kind_X5_isSlot
set_option maxRecDepth 20000 in
theorem ggX5_kind_X5_kindOfSlot : GoodIn wsX5_kind wsX5_kindOfSlot := goodIn_r _ [14, 1, 2, 15, 16, 17, 6, 18, 19, 20, 21, 22, 23, 24, 25, 26, 27, 28, 29, 30, 31, 32, 33, 34, 35, 36, 37, 38, 39, 40, 41, 42, 43, 44, 45, 46, 47, 48, 49, 50, 51, 52, 53, 54, 55, 56, 57, 58, 59, 60, 61, 62, 63, 64, 65, 66, 67, 68, 69, 70, 71, 72, 73, 74, 75, 76, 77, 78, 79, 114, 115, 116, 117, 118, 119, 120, 121, 122, 123, 124, 125, 126] (by decide +kernel) (by decide +kernel)
set_option maxRecDepth 20000 in
theorem gX5_kind_X5_kindOfSlot : GoodIn wsX5_kind (wsV RX5 168 RX5 yX5_kindOfSlot wsX5_kindOfSlot) := goodIn_app (goodIn_of _ (by decide +kernel)) ggX5_kind_X5_kindOfSlot
set_option maxRecDepth 20000 in
theorem ggX5_kind_X5_load : GoodIn wsX5_kind wsX5_load := goodIn_r _ [18, 19, 20, 21, 22, 23, 24, 25, 26, 27, 28, 29, 30, 31, 32, 33, 6, 34, 35, 36, 37, 38, 114, 115, 116, 117, 118, 119, 120, 121, 122, 123, 124, 125] (by decide +kernel) (by decide +kernel)
set_option maxRecDepth 20000 in
theorem gX5_kind_X5_load : GoodIn wsX5_kind (wsV RX5 74 RX5 yX5_load wsX5_load) := goodIn_app (goodIn_of _ (by decide +kernel)) ggX5_kind_X5_load
set_option maxRecDepth 20000 in
theorem ggX5_kind_X2_keepersOfClass : GoodIn wsX5_kind wsX2_keepersOfClass := goodIn_r _ [82, 43, 48, 21, 49, 50, 25, 51, 52, 53, 54, 24, 55, 56, 57, 58, 83, 84, 85, 86, 87, 88, 89, 90, 91, 40, 92, 93, 94, 95, 96, 97, 98, 99, 100, 101, 102, 103, 104, 105, 65, 66, 67, 106, 107, 108, 109, 110, 111, 112, 113, 124, 125, 126] (by decide +kernel) (by decide +kernel)
set_option maxRecDepth 20000 in
theorem gX5_kind_X2_keepersOfClass_n171 : GoodIn wsX5_kind (wsX2_keepersOfClass) := ggX5_kind_X2_keepersOfClass
set_option maxRecDepth 20000 in
theorem ggX5_kind_X2_keepersOfNet : GoodIn wsX5_kind wsX2_keepersOfNet := goodIn_r _ [109, 43, 110, 111, 112, 40, 113, 93, 94, 95, 96, 21, 97, 98, 25, 99, 100, 101, 102, 103, 104, 105, 65, 66, 67, 90, 91, 92, 126, 124, 125] (by decide +kernel) (by decide +kernel)
set_option maxRecDepth 20000 in
theorem gX5_kind_X2_keepersOfNet_n175 : GoodIn wsX5_kind (wsX2_keepersOfNet) := ggX5_kind_X2_keepersOfNet
theorem dX5_kind_0 : decode cX5_kind 0 = .ok (.iload_n 1, 1) := by decide +kernel
theorem dX5_kind_1 : decode cX5_kind 1 = .ok (.invokestatic 67, 3) := by decide +kernel
theorem dX5_kind_4 : decode cX5_kind 4 = .ok (.ifCond .ne 5, 3) := by decide +kernel
theorem dX5_kind_7 : decode cX5_kind 7 = .ok (.iconst (-1), 1) := by decide +kernel
theorem dX5_kind_8 : decode cX5_kind 8 = .ok (.ireturn, 1) := by decide +kernel
theorem dX5_kind_9 : decode cX5_kind 9 = .ok (.iload_n 2, 1) := by decide +kernel
theorem dX5_kind_10 : decode cX5_kind 10 = .ok (.tableswitch 79 0 2 #[26, 32, 57], 26) := by decide +kernel
theorem dX5_kind_36 : decode cX5_kind 36 = .ok (.aload_n 0, 1) := by decide +kernel
theorem dX5_kind_37 : decode cX5_kind 37 = .ok (.iload_n 1, 1) := by decide +kernel
theorem dX5_kind_38 : decode cX5_kind 38 = .ok (.invokevirtual 168, 3) := by decide +kernel
theorem dX5_kind_41 : decode cX5_kind 41 = .ok (.ireturn, 1) := by decide +kernel
theorem dX5_kind_42 : decode cX5_kind 42 = .ok (.aload_n 0, 1) := by decide +kernel
theorem dX5_kind_43 : decode cX5_kind 43 = .ok (.aload_n 0, 1) := by decide +kernel
theorem dX5_kind_44 : decode cX5_kind 44 = .ok (.getfield 30, 3) := by decide +kernel
theorem dX5_kind_47 : decode cX5_kind 47 = .ok (.iload_n 1, 1) := by decide +kernel
theorem dX5_kind_48 : decode cX5_kind 48 = .ok (.invokevirtual 74, 3) := by decide +kernel
theorem dX5_kind_51 : decode cX5_kind 51 = .ok (.aload_n 0, 1) := by decide +kernel
theorem dX5_kind_52 : decode cX5_kind 52 = .ok (.getfield 40, 3) := by decide +kernel
theorem dX5_kind_55 : decode cX5_kind 55 = .ok (.aload_n 0, 1) := by decide +kernel
theorem dX5_kind_56 : decode cX5_kind 56 = .ok (.getfield 30, 3) := by decide +kernel
theorem dX5_kind_59 : decode cX5_kind 59 = .ok (.aload_n 0, 1) := by decide +kernel
theorem dX5_kind_60 : decode cX5_kind 60 = .ok (.getfield 34, 3) := by decide +kernel
theorem dX5_kind_63 : decode cX5_kind 63 = .ok (.invokevirtual 171, 3) := by decide +kernel
theorem dX5_kind_66 : decode cX5_kind 66 = .ok (.ireturn, 1) := by decide +kernel
theorem dX5_kind_67 : decode cX5_kind 67 = .ok (.aload_n 0, 1) := by decide +kernel
theorem dX5_kind_68 : decode cX5_kind 68 = .ok (.aload_n 0, 1) := by decide +kernel
theorem dX5_kind_69 : decode cX5_kind 69 = .ok (.getfield 30, 3) := by decide +kernel
theorem dX5_kind_72 : decode cX5_kind 72 = .ok (.iload_n 1, 1) := by decide +kernel
theorem dX5_kind_73 : decode cX5_kind 73 = .ok (.invokevirtual 74, 3) := by decide +kernel
theorem dX5_kind_76 : decode cX5_kind 76 = .ok (.aload_n 0, 1) := by decide +kernel
theorem dX5_kind_77 : decode cX5_kind 77 = .ok (.getfield 40, 3) := by decide +kernel
theorem dX5_kind_80 : decode cX5_kind 80 = .ok (.aload_n 0, 1) := by decide +kernel
theorem dX5_kind_81 : decode cX5_kind 81 = .ok (.getfield 30, 3) := by decide +kernel
theorem dX5_kind_84 : decode cX5_kind 84 = .ok (.iconst 0, 1) := by decide +kernel
theorem dX5_kind_85 : decode cX5_kind 85 = .ok (.invokevirtual 175, 3) := by decide +kernel
theorem dX5_kind_88 : decode cX5_kind 88 = .ok (.ireturn, 1) := by decide +kernel
theorem dX5_kind_89 : decode cX5_kind 89 = .ok (.bipush (-2), 2) := by decide +kernel
theorem dX5_kind_91 : decode cX5_kind 91 = .ok (.ireturn, 1) := by decide +kernel
set_option maxRecDepth 20000 in
theorem ggX5_card_X5_isSlot : GoodIn wsX5_card wsX5_isSlot := goodIn_r _ [7, 8, 9, 6, 10] (by decide +kernel) (by decide +kernel)
set_option maxRecDepth 20000 in
theorem gX5_card_X5_isSlot : GoodIn wsX5_card (va_wsS RX5 67 yX5_isSlot wsX5_isSlot) := goodIn_app (goodIn_of _ (by decide +kernel)) ggX5_card_X5_isSlot
set_option maxRecDepth 20000 in
theorem ggX5_card_X5_isNode : GoodIn wsX5_card wsX5_isNode := goodIn_r _ [14, 1, 8, 9, 6, 10, 82, 83, 84, 85, 86, 87, 88, 89, 90, 91] (by decide +kernel) (by decide +kernel)
set_option maxRecDepth 20000 in
theorem gX5_card_X5_isNode : GoodIn wsX5_card (wsV RX5 71 RX5 yX5_isNode wsX5_isNode) := goodIn_app (goodIn_of _ (by decide +kernel)) ggX5_card_X5_isNode
set_option maxRecDepth 20000 in
theorem ggX5_card_X5_load : GoodIn wsX5_card wsX5_load := goodIn_r _ [18, 1, 19, 20, 21, 22, 23, 24, 25, 26, 27, 28, 29, 30, 31, 32, 6, 33, 34, 35, 36, 37, 82, 83, 84, 85, 86, 87, 88, 89, 90, 91, 92, 93] (by decide +kernel) (by decide +kernel)
set_option maxRecDepth 20000 in
theorem gX5_card_X5_load : GoodIn wsX5_card (wsV RX5 74 RX5 yX5_load wsX5_load) := goodIn_app (goodIn_of _ (by decide +kernel)) ggX5_card_X5_load
set_option maxRecDepth 20000 in
theorem ggX5_card_X0_drop : GoodIn wsX5_card wsX0_drop := goodIn_r _ [40, 23, 24, 92, 93] (by decide +kernel) (by decide +kernel)
set_option maxRecDepth 20000 in
theorem gX5_card_X0_drop_n138 : GoodIn wsX5_card (wsX0_drop) := ggX5_card_X0_drop
set_option maxRecDepth 20000 in
theorem ggX5_card_X2_kindOfClass : GoodIn wsX5_card wsX2_kindOfClass := goodIn_r _ [44, 45, 46, 47, 48, 49, 32, 6, 33, 50, 20, 51, 52, 24, 53, 54, 55, 56, 23, 57, 58, 59, 60, 61, 62, 42, 63, 64, 65, 66, 67, 68, 69, 70, 71, 72, 73, 74, 75, 76, 77, 78, 79, 80, 81, 92, 93, 94] (by decide +kernel) (by decide +kernel)
set_option maxRecDepth 20000 in
theorem gX5_card_X2_kindOfClass_n179 : GoodIn wsX5_card (wsX2_kindOfClass) := ggX5_card_X2_kindOfClass
theorem dX5_card_0 : decode cX5_card 0 = .ok (.iload_n 1, 1) := by decide +kernel
theorem dX5_card_1 : decode cX5_card 1 = .ok (.invokestatic 67, 3) := by decide +kernel
theorem dX5_card_4 : decode cX5_card 4 = .ok (.ifCond .eq 11, 3) := by decide +kernel
theorem dX5_card_7 : decode cX5_card 7 = .ok (.aload_n 0, 1) := by decide +kernel
theorem dX5_card_8 : decode cX5_card 8 = .ok (.iload_n 2, 1) := by decide +kernel
theorem dX5_card_9 : decode cX5_card 9 = .ok (.invokevirtual 71, 3) := by decide +kernel
theorem dX5_card_12 : decode cX5_card 12 = .ok (.ifCond .ne 5, 3) := by decide +kernel
theorem dX5_card_15 : decode cX5_card 15 = .ok (.iconst (-1), 1) := by decide +kernel
theorem dX5_card_16 : decode cX5_card 16 = .ok (.ireturn, 1) := by decide +kernel
theorem dX5_card_17 : decode cX5_card 17 = .ok (.aload_n 0, 1) := by decide +kernel
theorem dX5_card_18 : decode cX5_card 18 = .ok (.getfield 10, 3) := by decide +kernel
theorem dX5_card_21 : decode cX5_card 21 = .ok (.getfield 63, 3) := by decide +kernel
theorem dX5_card_24 : decode cX5_card 24 = .ok (.iconst 3, 1) := by decide +kernel
theorem dX5_card_25 : decode cX5_card 25 = .ok (.if_icmp .gt 6, 3) := by decide +kernel
theorem dX5_card_28 : decode cX5_card 28 = .ok (.bipush (-3), 2) := by decide +kernel
theorem dX5_card_30 : decode cX5_card 30 = .ok (.ireturn, 1) := by decide +kernel
theorem dX5_card_31 : decode cX5_card 31 = .ok (.aload_n 0, 1) := by decide +kernel
theorem dX5_card_32 : decode cX5_card 32 = .ok (.aload_n 0, 1) := by decide +kernel
theorem dX5_card_33 : decode cX5_card 33 = .ok (.getfield 30, 3) := by decide +kernel
theorem dX5_card_36 : decode cX5_card 36 = .ok (.iload_n 1, 1) := by decide +kernel
theorem dX5_card_37 : decode cX5_card 37 = .ok (.invokevirtual 74, 3) := by decide +kernel
theorem dX5_card_40 : decode cX5_card 40 = .ok (.aload_n 0, 1) := by decide +kernel
theorem dX5_card_41 : decode cX5_card 41 = .ok (.getfield 30, 3) := by decide +kernel
theorem dX5_card_44 : decode cX5_card 44 = .ok (.iload_n 2, 1) := by decide +kernel
theorem dX5_card_45 : decode cX5_card 45 = .ok (.invokevirtual 138, 3) := by decide +kernel
theorem dX5_card_48 : decode cX5_card 48 = .ok (.aload_n 0, 1) := by decide +kernel
theorem dX5_card_49 : decode cX5_card 49 = .ok (.getfield 40, 3) := by decide +kernel
theorem dX5_card_52 : decode cX5_card 52 = .ok (.aload_n 0, 1) := by decide +kernel
theorem dX5_card_53 : decode cX5_card 53 = .ok (.getfield 30, 3) := by decide +kernel
theorem dX5_card_56 : decode cX5_card 56 = .ok (.invokevirtual 179, 3) := by decide +kernel
theorem dX5_card_59 : decode cX5_card 59 = .ok (.ireturn, 1) := by decide +kernel
set_option maxRecDepth 20000 in
theorem ggX5_root_X5_isSlot : GoodIn wsX5_root wsX5_isSlot := goodIn_r _ [9, 10, 11, 8, 12] (by decide +kernel) (by decide +kernel)
set_option maxRecDepth 20000 in
theorem gX5_root_X5_isSlot : GoodIn wsX5_root (va_wsS RX5 67 yX5_isSlot wsX5_isSlot) := goodIn_app (goodIn_of _ (by decide +kernel)) ggX5_root_X5_isSlot
set_option maxRecDepth 20000 in
theorem ggX5_root_X5_within : GoodIn wsX5_root wsX5_within := goodIn_r _ [12] (by decide +kernel) (by decide +kernel)
set_option maxRecDepth 20000 in
theorem gX5_root_X5_within : GoodIn wsX5_root (va_wsS RX5 59 yX5_within wsX5_within) := goodIn_app (goodIn_of _ (by decide +kernel)) ggX5_root_X5_within
set_option maxRecDepth 20000 in
theorem ggX5_root_X5_load : GoodIn wsX5_root wsX5_load := goodIn_r _ [16, 5, 17, 18, 19, 20, 21, 22, 23, 24, 25, 26, 27, 28, 29, 30, 8, 31, 32, 33, 34, 35, 66, 67, 68, 69, 70, 71, 72, 73, 74, 75, 81, 82] (by decide +kernel) (by decide +kernel)
set_option maxRecDepth 20000 in
theorem gX5_root_X5_load : GoodIn wsX5_root (wsV RX5 74 RX5 yX5_load wsX5_load) := goodIn_app (goodIn_of _ (by decide +kernel)) ggX5_root_X5_load
set_option maxRecDepth 20000 in
theorem ggX5_root_X4_fill : GoodIn wsX5_root wsX4_fill := goodIn_r _ [39, 40, 41, 42, 18, 43, 44, 22, 81, 82, 76, 77, 78, 79, 80] (by decide +kernel) (by decide +kernel)
set_option maxRecDepth 20000 in
theorem gX5_root_X4_fill_n187 : GoodIn wsX5_root (wsX4_fill) := ggX5_root_X4_fill
set_option maxRecDepth 20000 in
theorem ggX5_root_X4_eliminate : GoodIn wsX5_root wsX4_eliminate := goodIn_r _ [47, 48, 49, 50, 40, 41, 51, 52, 53, 37, 54, 55, 56, 57, 58, 59, 60, 61, 62, 76, 77, 78, 79, 80] (by decide +kernel) (by decide +kernel)
set_option maxRecDepth 20000 in
theorem gX5_root_X4_eliminate_n190 : GoodIn wsX5_root (wsX4_eliminate) := ggX5_root_X4_eliminate
set_option maxRecDepth 20000 in
theorem ggX5_root_X4_determinant : GoodIn wsX5_root wsX4_determinant := goodIn_r _ [65, 48, 40, 49, 50, 76, 77, 78, 79, 80] (by decide +kernel) (by decide +kernel)
set_option maxRecDepth 20000 in
theorem gX5_root_X4_determinant_n193 : GoodIn wsX5_root (wsX4_determinant) := ggX5_root_X4_determinant
theorem dX5_root_0 : decode cX5_root 0 = .ok (.iload_n 1, 1) := by decide +kernel
theorem dX5_root_1 : decode cX5_root 1 = .ok (.invokestatic 67, 3) := by decide +kernel
theorem dX5_root_4 : decode cX5_root 4 = .ok (.ifCond .ne 7, 3) := by decide +kernel
theorem dX5_root_7 : decode cX5_root 7 = .ok (.ldc2_w 183, 3) := by decide +kernel
theorem dX5_root_10 : decode cX5_root 10 = .ok (.lreturn, 1) := by decide +kernel
theorem dX5_root_11 : decode cX5_root 11 = .ok (.iload_n 2, 1) := by decide +kernel
theorem dX5_root_12 : decode cX5_root 12 = .ok (.bipush (-9), 2) := by decide +kernel
theorem dX5_root_14 : decode cX5_root 14 = .ok (.bipush 9, 2) := by decide +kernel
theorem dX5_root_16 : decode cX5_root 16 = .ok (.invokestatic 59, 3) := by decide +kernel
theorem dX5_root_19 : decode cX5_root 19 = .ok (.ifCond .eq 12, 3) := by decide +kernel
theorem dX5_root_22 : decode cX5_root 22 = .ok (.iload_n 3, 1) := by decide +kernel
theorem dX5_root_23 : decode cX5_root 23 = .ok (.iconst 0, 1) := by decide +kernel
theorem dX5_root_24 : decode cX5_root 24 = .ok (.iconst 1, 1) := by decide +kernel
theorem dX5_root_25 : decode cX5_root 25 = .ok (.invokestatic 59, 3) := by decide +kernel
theorem dX5_root_28 : decode cX5_root 28 = .ok (.ifCond .ne 7, 3) := by decide +kernel
theorem dX5_root_31 : decode cX5_root 31 = .ok (.ldc2_w 185, 3) := by decide +kernel
theorem dX5_root_34 : decode cX5_root 34 = .ok (.lreturn, 1) := by decide +kernel
theorem dX5_root_35 : decode cX5_root 35 = .ok (.aload_n 0, 1) := by decide +kernel
theorem dX5_root_36 : decode cX5_root 36 = .ok (.aload_n 0, 1) := by decide +kernel
theorem dX5_root_37 : decode cX5_root 37 = .ok (.getfield 30, 3) := by decide +kernel
theorem dX5_root_40 : decode cX5_root 40 = .ok (.iload_n 1, 1) := by decide +kernel
theorem dX5_root_41 : decode cX5_root 41 = .ok (.invokevirtual 74, 3) := by decide +kernel
theorem dX5_root_44 : decode cX5_root 44 = .ok (.aload_n 0, 1) := by decide +kernel
theorem dX5_root_45 : decode cX5_root 45 = .ok (.getfield 47, 3) := by decide +kernel
theorem dX5_root_48 : decode cX5_root 48 = .ok (.aload_n 0, 1) := by decide +kernel
theorem dX5_root_49 : decode cX5_root 49 = .ok (.getfield 30, 3) := by decide +kernel
theorem dX5_root_52 : decode cX5_root 52 = .ok (.iload_n 2, 1) := by decide +kernel
theorem dX5_root_53 : decode cX5_root 53 = .ok (.invokevirtual 187, 3) := by decide +kernel
theorem dX5_root_56 : decode cX5_root 56 = .ok (.aload_n 0, 1) := by decide +kernel
theorem dX5_root_57 : decode cX5_root 57 = .ok (.getfield 47, 3) := by decide +kernel
theorem dX5_root_60 : decode cX5_root 60 = .ok (.invokevirtual 190, 3) := by decide +kernel
theorem dX5_root_63 : decode cX5_root 63 = .ok (.iload_n 3, 1) := by decide +kernel
theorem dX5_root_64 : decode cX5_root 64 = .ok (.ifCond .ne 13, 3) := by decide +kernel
theorem dX5_root_67 : decode cX5_root 67 = .ok (.aload_n 0, 1) := by decide +kernel
theorem dX5_root_68 : decode cX5_root 68 = .ok (.getfield 47, 3) := by decide +kernel
theorem dX5_root_71 : decode cX5_root 71 = .ok (.invokevirtual 193, 3) := by decide +kernel
theorem dX5_root_74 : decode cX5_root 74 = .ok (.goto 19, 3) := by decide +kernel
theorem dX5_root_77 : decode cX5_root 77 = .ok (.aload_n 0, 1) := by decide +kernel
theorem dX5_root_78 : decode cX5_root 78 = .ok (.getfield 10, 3) := by decide +kernel
theorem dX5_root_81 : decode cX5_root 81 = .ok (.getfield 63, 3) := by decide +kernel
theorem dX5_root_84 : decode cX5_root 84 = .ok (.aload_n 0, 1) := by decide +kernel
theorem dX5_root_85 : decode cX5_root 85 = .ok (.getfield 47, 3) := by decide +kernel
theorem dX5_root_88 : decode cX5_root 88 = .ok (.getfield 197, 3) := by decide +kernel
theorem dX5_root_91 : decode cX5_root 91 = .ok (.isub, 1) := by decide +kernel
theorem dX5_root_92 : decode cX5_root 92 = .ok (.i2l, 1) := by decide +kernel
theorem dX5_root_93 : decode cX5_root 93 = .ok (.lreturn, 1) := by decide +kernel
set_option maxRecDepth 20000 in
theorem ggX5_image_X5_within : GoodIn wsX5_image wsX5_within := goodIn_r _ [6] (by decide +kernel) (by decide +kernel)
set_option maxRecDepth 20000 in
theorem gX5_image_X5_within : GoodIn wsX5_image (va_wsS RX5 59 yX5_within wsX5_within) := goodIn_app (goodIn_of _ (by decide +kernel)) ggX5_image_X5_within
set_option maxRecDepth 20000 in
theorem ggX5_image_X3_copy : GoodIn wsX5_image wsX3_copy := goodIn_r _ [10, 11, 12, 13, 14, 15, 16, 25, 26] (by decide +kernel) (by decide +kernel)
set_option maxRecDepth 20000 in
theorem gX5_image_X3_copy_n200 : GoodIn wsX5_image (wsX3_copy) := ggX5_image_X3_copy
theorem dX5_image_0 : decode cX5_image 0 = .ok (.iload_n 1, 1) := by decide +kernel
theorem dX5_image_1 : decode cX5_image 1 = .ok (.iconst 0, 1) := by decide +kernel
theorem dX5_image_2 : decode cX5_image 2 = .ok (.iconst 1, 1) := by decide +kernel
theorem dX5_image_3 : decode cX5_image 3 = .ok (.invokestatic 59, 3) := by decide +kernel
theorem dX5_image_6 : decode cX5_image 6 = .ok (.ifCond .ne 6, 3) := by decide +kernel
theorem dX5_image_9 : decode cX5_image 9 = .ok (.bipush (-2), 2) := by decide +kernel
theorem dX5_image_11 : decode cX5_image 11 = .ok (.ireturn, 1) := by decide +kernel
theorem dX5_image_12 : decode cX5_image 12 = .ok (.aload_n 0, 1) := by decide +kernel
theorem dX5_image_13 : decode cX5_image 13 = .ok (.getfield 16, 3) := by decide +kernel
theorem dX5_image_16 : decode cX5_image 16 = .ok (.iload_n 1, 1) := by decide +kernel
theorem dX5_image_17 : decode cX5_image 17 = .ok (.aaload, 1) := by decide +kernel
theorem dX5_image_18 : decode cX5_image 18 = .ok (.aload_n 0, 1) := by decide +kernel
theorem dX5_image_19 : decode cX5_image 19 = .ok (.getfield 10, 3) := by decide +kernel
theorem dX5_image_22 : decode cX5_image 22 = .ok (.invokevirtual 200, 3) := by decide +kernel
theorem dX5_image_25 : decode cX5_image 25 = .ok (.iconst 1, 1) := by decide +kernel
theorem dX5_image_26 : decode cX5_image 26 = .ok (.ireturn, 1) := by decide +kernel
set_option maxRecDepth 20000 in
theorem ggX5_restore_X5_within : GoodIn wsX5_restore wsX5_within := goodIn_r _ [6] (by decide +kernel) (by decide +kernel)
set_option maxRecDepth 20000 in
theorem gX5_restore_X5_within : GoodIn wsX5_restore (va_wsS RX5 59 yX5_within wsX5_within) := goodIn_app (goodIn_of _ (by decide +kernel)) ggX5_restore_X5_within
set_option maxRecDepth 20000 in
theorem ggX5_restore_X3_isUnused : GoodIn wsX5_restore wsX3_isUnused := goodIn_r _ [10, 11, 28, 29] (by decide +kernel) (by decide +kernel)
set_option maxRecDepth 20000 in
theorem gX5_restore_X3_isUnused_n204 : GoodIn wsX5_restore (wsX3_isUnused) := ggX5_restore_X3_isUnused
set_option maxRecDepth 20000 in
theorem ggX5_restore_X3_copy : GoodIn wsX5_restore wsX3_copy := goodIn_r _ [14, 11, 15, 16, 17, 18, 19, 28, 29] (by decide +kernel) (by decide +kernel)
set_option maxRecDepth 20000 in
theorem gX5_restore_X3_copy_n200 : GoodIn wsX5_restore (wsX3_copy) := ggX5_restore_X3_copy
theorem dX5_restore_0 : decode cX5_restore 0 = .ok (.iload_n 1, 1) := by decide +kernel
theorem dX5_restore_1 : decode cX5_restore 1 = .ok (.iconst 0, 1) := by decide +kernel
theorem dX5_restore_2 : decode cX5_restore 2 = .ok (.iconst 1, 1) := by decide +kernel
theorem dX5_restore_3 : decode cX5_restore 3 = .ok (.invokestatic 59, 3) := by decide +kernel
theorem dX5_restore_6 : decode cX5_restore 6 = .ok (.ifCond .ne 6, 3) := by decide +kernel
theorem dX5_restore_9 : decode cX5_restore 9 = .ok (.bipush (-2), 2) := by decide +kernel
theorem dX5_restore_11 : decode cX5_restore 11 = .ok (.ireturn, 1) := by decide +kernel
theorem dX5_restore_12 : decode cX5_restore 12 = .ok (.aload_n 0, 1) := by decide +kernel
theorem dX5_restore_13 : decode cX5_restore 13 = .ok (.getfield 16, 3) := by decide +kernel
theorem dX5_restore_16 : decode cX5_restore 16 = .ok (.iload_n 1, 1) := by decide +kernel
theorem dX5_restore_17 : decode cX5_restore 17 = .ok (.aaload, 1) := by decide +kernel
theorem dX5_restore_18 : decode cX5_restore 18 = .ok (.invokevirtual 204, 3) := by decide +kernel
theorem dX5_restore_21 : decode cX5_restore 21 = .ok (.ifCond .eq 6, 3) := by decide +kernel
theorem dX5_restore_24 : decode cX5_restore 24 = .ok (.bipush (-3), 2) := by decide +kernel
theorem dX5_restore_26 : decode cX5_restore 26 = .ok (.ireturn, 1) := by decide +kernel
theorem dX5_restore_27 : decode cX5_restore 27 = .ok (.aload_n 0, 1) := by decide +kernel
theorem dX5_restore_28 : decode cX5_restore 28 = .ok (.getfield 10, 3) := by decide +kernel
theorem dX5_restore_31 : decode cX5_restore 31 = .ok (.aload_n 0, 1) := by decide +kernel
theorem dX5_restore_32 : decode cX5_restore 32 = .ok (.getfield 16, 3) := by decide +kernel
theorem dX5_restore_35 : decode cX5_restore 35 = .ok (.iload_n 1, 1) := by decide +kernel
theorem dX5_restore_36 : decode cX5_restore 36 = .ok (.aaload, 1) := by decide +kernel
theorem dX5_restore_37 : decode cX5_restore 37 = .ok (.invokevirtual 200, 3) := by decide +kernel
theorem dX5_restore_40 : decode cX5_restore 40 = .ok (.iconst 1, 1) := by decide +kernel
theorem dX5_restore_41 : decode cX5_restore 41 = .ok (.ireturn, 1) := by decide +kernel
set_option maxRecDepth 20000 in
theorem ggX5_count_X5_pairsOf : GoodIn wsX5_count wsX5_pairsOf := goodIn_r _ [6] (by decide +kernel) (by decide +kernel)
set_option maxRecDepth 20000 in
theorem gX5_count_X5_pairsOf : GoodIn wsX5_count (va_wsS RX5 92 yX5_pairsOf wsX5_pairsOf) := goodIn_app (goodIn_of _ (by decide +kernel)) ggX5_count_X5_pairsOf
set_option maxRecDepth 20000 in
theorem ggX5_count_X5_triplesOf : GoodIn wsX5_count wsX5_triplesOf := goodIn_r _ [9] (by decide +kernel) (by decide +kernel)
set_option maxRecDepth 20000 in
theorem gX5_count_X5_triplesOf : GoodIn wsX5_count (va_wsS RX5 208 yX5_triplesOf wsX5_triplesOf) := goodIn_app (goodIn_of _ (by decide +kernel)) ggX5_count_X5_triplesOf
set_option maxRecDepth 20000 in
theorem ggX5_count_X5_differentClasses : GoodIn wsX5_count wsX5_differentClasses := goodIn_r _ [13, 14, 15, 16, 17, 18, 5, 19, 1, 20, 21, 22, 23, 24, 25, 26, 27, 28, 29, 30, 31, 32, 4, 6, 33, 34, 35, 36, 37, 38, 39, 40, 41, 42, 43, 44, 45, 46, 47, 48, 49, 50, 51, 52, 53, 54, 55, 56, 57, 58, 59, 60, 61, 62, 109, 110, 111, 112, 113, 114, 115, 116, 117, 118, 121, 122] (by decide +kernel) (by decide +kernel)
set_option maxRecDepth 20000 in
theorem gX5_count_X5_differentClasses : GoodIn wsX5_count (wsV RX5 211 RX5 yX5_differentClasses wsX5_differentClasses) := goodIn_app (goodIn_of _ (by decide +kernel)) ggX5_count_X5_differentClasses
set_option maxRecDepth 20000 in
theorem ggX5_count_X5_differentKinds : GoodIn wsX5_count wsX5_differentKinds := goodIn_r _ [66, 15, 67, 68, 69, 5, 70, 14, 71, 16, 17, 18, 19, 1, 20, 21, 22, 23, 24, 25, 26, 27, 28, 29, 30, 31, 32, 4, 6, 33, 34, 35, 36, 72, 73, 74, 75, 76, 77, 78, 79, 80, 37, 38, 39, 40, 41, 42, 43, 44, 45, 46, 47, 81, 82, 83, 84, 85, 86, 52, 53, 54, 87, 88, 89, 90, 91, 92, 93, 94, 95, 96, 97, 98, 55, 56, 57, 58, 59, 60, 61, 62, 109, 110, 111, 112, 113, 114, 115, 116, 117, 118, 121, 122, 123] (by decide +kernel) (by decide +kernel)
set_option maxRecDepth 20000 in
theorem gX5_count_X5_differentKinds : GoodIn wsX5_count (wsV RX5 214 RX5 yX5_differentKinds wsX5_differentKinds) := goodIn_app (goodIn_of _ (by decide +kernel)) ggX5_count_X5_differentKinds
set_option maxRecDepth 20000 in
theorem ggX5_count_X5_keptImages : GoodIn wsX5_count wsX5_keptImages := goodIn_r _ [102, 103, 104, 105, 106, 107, 108, 109, 110, 111, 112, 113, 114, 115, 116, 117, 118] (by decide +kernel) (by decide +kernel)
set_option maxRecDepth 20000 in
theorem gX5_count_X5_keptImages : GoodIn wsX5_count (wsV RX5 217 RX5 yX5_keptImages wsX5_keptImages) := goodIn_app (goodIn_of _ (by decide +kernel)) ggX5_count_X5_keptImages
theorem dX5_count_0 : decode cX5_count 0 = .ok (.iload_n 1, 1) := by decide +kernel
theorem dX5_count_1 : decode cX5_count 1 = .ok (.tableswitch 96 0 6 #[43, 51, 62, 73, 81, 86, 91], 43) := by decide +kernel
theorem dX5_count_44 : decode cX5_count 44 = .ok (.aload_n 0, 1) := by decide +kernel
theorem dX5_count_45 : decode cX5_count 45 = .ok (.getfield 10, 3) := by decide +kernel
theorem dX5_count_48 : decode cX5_count 48 = .ok (.getfield 63, 3) := by decide +kernel
theorem dX5_count_51 : decode cX5_count 51 = .ok (.ireturn, 1) := by decide +kernel
theorem dX5_count_52 : decode cX5_count 52 = .ok (.aload_n 0, 1) := by decide +kernel
theorem dX5_count_53 : decode cX5_count 53 = .ok (.getfield 10, 3) := by decide +kernel
theorem dX5_count_56 : decode cX5_count 56 = .ok (.getfield 63, 3) := by decide +kernel
theorem dX5_count_59 : decode cX5_count 59 = .ok (.invokestatic 92, 3) := by decide +kernel
theorem dX5_count_62 : decode cX5_count 62 = .ok (.ireturn, 1) := by decide +kernel
theorem dX5_count_63 : decode cX5_count 63 = .ok (.aload_n 0, 1) := by decide +kernel
theorem dX5_count_64 : decode cX5_count 64 = .ok (.getfield 10, 3) := by decide +kernel
theorem dX5_count_67 : decode cX5_count 67 = .ok (.getfield 63, 3) := by decide +kernel
theorem dX5_count_70 : decode cX5_count 70 = .ok (.invokestatic 208, 3) := by decide +kernel
theorem dX5_count_73 : decode cX5_count 73 = .ok (.ireturn, 1) := by decide +kernel
theorem dX5_count_74 : decode cX5_count 74 = .ok (.aload_n 0, 1) := by decide +kernel
theorem dX5_count_75 : decode cX5_count 75 = .ok (.getfield 23, 3) := by decide +kernel
theorem dX5_count_78 : decode cX5_count 78 = .ok (.getfield 96, 3) := by decide +kernel
theorem dX5_count_81 : decode cX5_count 81 = .ok (.ireturn, 1) := by decide +kernel
theorem dX5_count_82 : decode cX5_count 82 = .ok (.aload_n 0, 1) := by decide +kernel
theorem dX5_count_83 : decode cX5_count 83 = .ok (.invokevirtual 211, 3) := by decide +kernel
theorem dX5_count_86 : decode cX5_count 86 = .ok (.ireturn, 1) := by decide +kernel
theorem dX5_count_87 : decode cX5_count 87 = .ok (.aload_n 0, 1) := by decide +kernel
theorem dX5_count_88 : decode cX5_count 88 = .ok (.invokevirtual 214, 3) := by decide +kernel
theorem dX5_count_91 : decode cX5_count 91 = .ok (.ireturn, 1) := by decide +kernel
theorem dX5_count_92 : decode cX5_count 92 = .ok (.aload_n 0, 1) := by decide +kernel
theorem dX5_count_93 : decode cX5_count 93 = .ok (.invokevirtual 217, 3) := by decide +kernel
theorem dX5_count_96 : decode cX5_count 96 = .ok (.ireturn, 1) := by decide +kernel
theorem dX5_count_97 : decode cX5_count 97 = .ok (.bipush (-2), 2) := by decide +kernel
theorem dX5_count_99 : decode cX5_count 99 = .ok (.ireturn, 1) := by decide +kernel
theorem dX5_within_0 : decode cX5_within 0 = .ok (.iload_n 0, 1) := by decide +kernel
theorem dX5_within_1 : decode cX5_within 1 = .ok (.iload_n 1, 1) := by decide +kernel
theorem dX5_within_2 : decode cX5_within 2 = .ok (.if_icmp .lt 12, 3) := by decide +kernel
theorem dX5_within_5 : decode cX5_within 5 = .ok (.iload_n 0, 1) := by decide +kernel
theorem dX5_within_6 : decode cX5_within 6 = .ok (.iload_n 2, 1) := by decide +kernel
theorem dX5_within_7 : decode cX5_within 7 = .ok (.if_icmp .gt 7, 3) := by decide +kernel
theorem dX5_within_10 : decode cX5_within 10 = .ok (.iconst 1, 1) := by decide +kernel
theorem dX5_within_11 : decode cX5_within 11 = .ok (.goto 4, 3) := by decide +kernel
theorem dX5_within_14 : decode cX5_within 14 = .ok (.iconst 0, 1) := by decide +kernel
theorem dX5_within_15 : decode cX5_within 15 = .ok (.ireturn, 1) := by decide +kernel
theorem dX5_pairsOf_0 : decode cX5_pairsOf 0 = .ok (.iload_n 0, 1) := by decide +kernel
theorem dX5_pairsOf_1 : decode cX5_pairsOf 1 = .ok (.iload_n 0, 1) := by decide +kernel
theorem dX5_pairsOf_2 : decode cX5_pairsOf 2 = .ok (.iconst 1, 1) := by decide +kernel
theorem dX5_pairsOf_3 : decode cX5_pairsOf 3 = .ok (.isub, 1) := by decide +kernel
theorem dX5_pairsOf_4 : decode cX5_pairsOf 4 = .ok (.imul, 1) := by decide +kernel
theorem dX5_pairsOf_5 : decode cX5_pairsOf 5 = .ok (.iconst 2, 1) := by decide +kernel
theorem dX5_pairsOf_6 : decode cX5_pairsOf 6 = .ok (.idiv, 1) := by decide +kernel
theorem dX5_pairsOf_7 : decode cX5_pairsOf 7 = .ok (.ireturn, 1) := by decide +kernel
theorem dX5_triplesOf_0 : decode cX5_triplesOf 0 = .ok (.iload_n 0, 1) := by decide +kernel
theorem dX5_triplesOf_1 : decode cX5_triplesOf 1 = .ok (.iload_n 0, 1) := by decide +kernel
theorem dX5_triplesOf_2 : decode cX5_triplesOf 2 = .ok (.iconst 1, 1) := by decide +kernel
theorem dX5_triplesOf_3 : decode cX5_triplesOf 3 = .ok (.isub, 1) := by decide +kernel
theorem dX5_triplesOf_4 : decode cX5_triplesOf 4 = .ok (.imul, 1) := by decide +kernel
theorem dX5_triplesOf_5 : decode cX5_triplesOf 5 = .ok (.iload_n 0, 1) := by decide +kernel
theorem dX5_triplesOf_6 : decode cX5_triplesOf 6 = .ok (.iconst 2, 1) := by decide +kernel
theorem dX5_triplesOf_7 : decode cX5_triplesOf 7 = .ok (.isub, 1) := by decide +kernel
theorem dX5_triplesOf_8 : decode cX5_triplesOf 8 = .ok (.imul, 1) := by decide +kernel
theorem dX5_triplesOf_9 : decode cX5_triplesOf 9 = .ok (.bipush 6, 2) := by decide +kernel
theorem dX5_triplesOf_11 : decode cX5_triplesOf 11 = .ok (.idiv, 1) := by decide +kernel
theorem dX5_triplesOf_12 : decode cX5_triplesOf 12 = .ok (.ireturn, 1) := by decide +kernel
set_option maxRecDepth 20000 in
theorem ggX5_isSlot_X5_within : GoodIn wsX5_isSlot wsX5_within := goodIn_r _ [4] (by decide +kernel) (by decide +kernel)
set_option maxRecDepth 20000 in
theorem gX5_isSlot_X5_within : GoodIn wsX5_isSlot (va_wsS RX5 59 yX5_within wsX5_within) := goodIn_app (goodIn_of _ (by decide +kernel)) ggX5_isSlot_X5_within
theorem dX5_isSlot_0 : decode cX5_isSlot 0 = .ok (.iload_n 0, 1) := by decide +kernel
theorem dX5_isSlot_1 : decode cX5_isSlot 1 = .ok (.iconst 0, 1) := by decide +kernel
theorem dX5_isSlot_2 : decode cX5_isSlot 2 = .ok (.iconst 2, 1) := by decide +kernel
theorem dX5_isSlot_3 : decode cX5_isSlot 3 = .ok (.invokestatic 59, 3) := by decide +kernel
theorem dX5_isSlot_6 : decode cX5_isSlot 6 = .ok (.ireturn, 1) := by decide +kernel
set_option maxRecDepth 20000 in
theorem ggX5_isNode_X5_within : GoodIn wsX5_isNode wsX5_within := goodIn_r _ [5] (by decide +kernel) (by decide +kernel)
set_option maxRecDepth 20000 in
theorem gX5_isNode_X5_within : GoodIn wsX5_isNode (va_wsS RX5 59 yX5_within wsX5_within) := goodIn_app (goodIn_of _ (by decide +kernel)) ggX5_isNode_X5_within
theorem dX5_isNode_0 : decode cX5_isNode 0 = .ok (.iload_n 1, 1) := by decide +kernel
theorem dX5_isNode_1 : decode cX5_isNode 1 = .ok (.iconst 0, 1) := by decide +kernel
theorem dX5_isNode_2 : decode cX5_isNode 2 = .ok (.aload_n 0, 1) := by decide +kernel
theorem dX5_isNode_3 : decode cX5_isNode 3 = .ok (.getfield 10, 3) := by decide +kernel
theorem dX5_isNode_6 : decode cX5_isNode 6 = .ok (.getfield 63, 3) := by decide +kernel
theorem dX5_isNode_9 : decode cX5_isNode 9 = .ok (.iconst 1, 1) := by decide +kernel
theorem dX5_isNode_10 : decode cX5_isNode 10 = .ok (.isub, 1) := by decide +kernel
theorem dX5_isNode_11 : decode cX5_isNode 11 = .ok (.invokestatic 59, 3) := by decide +kernel
theorem dX5_isNode_14 : decode cX5_isNode 14 = .ok (.ireturn, 1) := by decide +kernel
set_option maxRecDepth 20000 in
theorem ggX5_signsFor_X5_pairsOf : GoodIn wsX5_signsFor wsX5_pairsOf := goodIn_r _ [5] (by decide +kernel) (by decide +kernel)
set_option maxRecDepth 20000 in
theorem gX5_signsFor_X5_pairsOf : GoodIn wsX5_signsFor (va_wsS RX5 92 yX5_pairsOf wsX5_pairsOf) := goodIn_app (goodIn_of _ (by decide +kernel)) ggX5_signsFor_X5_pairsOf
set_option maxRecDepth 20000 in
theorem ggX5_signsFor_X5_triplesOf : GoodIn wsX5_signsFor wsX5_triplesOf := goodIn_r _ [8] (by decide +kernel) (by decide +kernel)
set_option maxRecDepth 20000 in
theorem gX5_signsFor_X5_triplesOf : GoodIn wsX5_signsFor (va_wsS RX5 208 yX5_triplesOf wsX5_triplesOf) := goodIn_app (goodIn_of _ (by decide +kernel)) ggX5_signsFor_X5_triplesOf
theorem dX5_signsFor_0 : decode cX5_signsFor 0 = .ok (.iload_n 1, 1) := by decide +kernel
theorem dX5_signsFor_1 : decode cX5_signsFor 1 = .ok (.ifCond .ne 16, 3) := by decide +kernel
theorem dX5_signsFor_4 : decode cX5_signsFor 4 = .ok (.aload_n 0, 1) := by decide +kernel
theorem dX5_signsFor_5 : decode cX5_signsFor 5 = .ok (.getfield 10, 3) := by decide +kernel
theorem dX5_signsFor_8 : decode cX5_signsFor 8 = .ok (.getfield 63, 3) := by decide +kernel
theorem dX5_signsFor_11 : decode cX5_signsFor 11 = .ok (.invokestatic 92, 3) := by decide +kernel
theorem dX5_signsFor_14 : decode cX5_signsFor 14 = .ok (.goto 13, 3) := by decide +kernel
theorem dX5_signsFor_17 : decode cX5_signsFor 17 = .ok (.aload_n 0, 1) := by decide +kernel
theorem dX5_signsFor_18 : decode cX5_signsFor 18 = .ok (.getfield 10, 3) := by decide +kernel
theorem dX5_signsFor_21 : decode cX5_signsFor 21 = .ok (.getfield 63, 3) := by decide +kernel
theorem dX5_signsFor_24 : decode cX5_signsFor 24 = .ok (.invokestatic 208, 3) := by decide +kernel
theorem dX5_signsFor_27 : decode cX5_signsFor 27 = .ok (.ireturn, 1) := by decide +kernel
set_option maxRecDepth 20000 in
theorem ggX5_load_X0_clear : GoodIn wsX5_load wsX0_clear := goodIn_r _ [5, 6, 7, 8, 9, 10, 11, 32, 33] (by decide +kernel) (by decide +kernel)
set_option maxRecDepth 20000 in
theorem gX5_load_X0_clear_n108 : GoodIn wsX5_load (wsX0_clear) := ggX5_load_X0_clear
set_option maxRecDepth 20000 in
theorem ggX5_load_X0_takeNumber : GoodIn wsX5_load wsX0_takeNumber := goodIn_r _ [14, 6, 15, 16, 17, 18, 19, 20, 3, 21, 7, 32, 33] (by decide +kernel) (by decide +kernel)
set_option maxRecDepth 20000 in
theorem gX5_load_X0_takeNumber_n220 : GoodIn wsX5_load (wsX0_takeNumber) := ggX5_load_X0_takeNumber
theorem dX5_load_0 : decode cX5_load 0 = .ok (.aload_n 1, 1) := by decide +kernel
theorem dX5_load_1 : decode cX5_load 1 = .ok (.aload_n 0, 1) := by decide +kernel
theorem dX5_load_2 : decode cX5_load 2 = .ok (.getfield 10, 3) := by decide +kernel
theorem dX5_load_5 : decode cX5_load 5 = .ok (.getfield 63, 3) := by decide +kernel
theorem dX5_load_8 : decode cX5_load 8 = .ok (.invokevirtual 108, 3) := by decide +kernel
theorem dX5_load_11 : decode cX5_load 11 = .ok (.aload_n 1, 1) := by decide +kernel
theorem dX5_load_12 : decode cX5_load 12 = .ok (.aload_n 0, 1) := by decide +kernel
theorem dX5_load_13 : decode cX5_load 13 = .ok (.getfield 10, 3) := by decide +kernel
theorem dX5_load_16 : decode cX5_load 16 = .ok (.getfield 82, 3) := by decide +kernel
theorem dX5_load_19 : decode cX5_load 19 = .ok (.iload_n 2, 1) := by decide +kernel
theorem dX5_load_20 : decode cX5_load 20 = .ok (.iaload, 1) := by decide +kernel
theorem dX5_load_21 : decode cX5_load 21 = .ok (.invokevirtual 220, 3) := by decide +kernel
theorem dX5_load_24 : decode cX5_load 24 = .ok (.return_, 1) := by decide +kernel
set_option maxRecDepth 20000 in
theorem ggX5_howManyBy_X0_copySwitched : GoodIn wsX5_howManyBy wsX0_copySwitched := goodIn_r _ [6, 7, 8, 9, 10, 11, 12, 13, 14, 15, 4, 16, 17, 18, 19, 20, 62, 63] (by decide +kernel) (by decide +kernel)
set_option maxRecDepth 20000 in
theorem gX5_howManyBy_X0_copySwitched_n151 : GoodIn wsX5_howManyBy (wsX0_copySwitched) := ggX5_howManyBy_X0_copySwitched
set_option maxRecDepth 20000 in
theorem ggX5_howManyBy_X0_eachDegreeIs : GoodIn wsX5_howManyBy wsX0_eachDegreeIs := goodIn_r _ [23, 7, 24, 25, 26, 4, 27, 28, 29, 30, 31, 8, 32, 33, 34, 35, 36, 37, 38, 62, 63] (by decide +kernel) (by decide +kernel)
set_option maxRecDepth 20000 in
theorem gX5_howManyBy_X0_eachDegreeIs_n224 : GoodIn wsX5_howManyBy (wsX0_eachDegreeIs) := ggX5_howManyBy_X0_eachDegreeIs
set_option maxRecDepth 20000 in
theorem ggX5_howManyBy_X0_isStrong : GoodIn wsX5_howManyBy wsX0_isStrong := goodIn_r _ [41, 42, 43, 44, 4, 45, 7, 46, 47, 48, 49, 8, 50, 51, 52, 53, 32, 33, 34, 35, 36, 37, 38, 62, 63] (by decide +kernel) (by decide +kernel)
set_option maxRecDepth 20000 in
theorem gX5_howManyBy_X0_isStrong_n227 : GoodIn wsX5_howManyBy (wsX0_isStrong) := ggX5_howManyBy_X0_isStrong
theorem dX5_howManyBy_0 : decode cX5_howManyBy 0 = .ok (.iconst 0, 1) := by decide +kernel
theorem dX5_howManyBy_1 : decode cX5_howManyBy 1 = .ok (.istore_n 3, 1) := by decide +kernel
theorem dX5_howManyBy_2 : decode cX5_howManyBy 2 = .ok (.iconst 0, 1) := by decide +kernel
theorem dX5_howManyBy_3 : decode cX5_howManyBy 3 = .ok (.istore 4, 2) := by decide +kernel
theorem dX5_howManyBy_5 : decode cX5_howManyBy 5 = .ok (.iload 4, 2) := by decide +kernel
theorem dX5_howManyBy_7 : decode cX5_howManyBy 7 = .ok (.iconst 1, 1) := by decide +kernel
theorem dX5_howManyBy_8 : decode cX5_howManyBy 8 = .ok (.aload_n 0, 1) := by decide +kernel
theorem dX5_howManyBy_9 : decode cX5_howManyBy 9 = .ok (.getfield 30, 3) := by decide +kernel
theorem dX5_howManyBy_12 : decode cX5_howManyBy 12 = .ok (.getfield 223, 3) := by decide +kernel
theorem dX5_howManyBy_15 : decode cX5_howManyBy 15 = .ok (.ishl, 1) := by decide +kernel
theorem dX5_howManyBy_16 : decode cX5_howManyBy 16 = .ok (.if_icmp .ge 50, 3) := by decide +kernel
theorem dX5_howManyBy_19 : decode cX5_howManyBy 19 = .ok (.aload_n 0, 1) := by decide +kernel
theorem dX5_howManyBy_20 : decode cX5_howManyBy 20 = .ok (.getfield 34, 3) := by decide +kernel
theorem dX5_howManyBy_23 : decode cX5_howManyBy 23 = .ok (.aload_n 0, 1) := by decide +kernel
theorem dX5_howManyBy_24 : decode cX5_howManyBy 24 = .ok (.getfield 30, 3) := by decide +kernel
theorem dX5_howManyBy_27 : decode cX5_howManyBy 27 = .ok (.iload 4, 2) := by decide +kernel
theorem dX5_howManyBy_29 : decode cX5_howManyBy 29 = .ok (.invokevirtual 151, 3) := by decide +kernel
theorem dX5_howManyBy_32 : decode cX5_howManyBy 32 = .ok (.aload_n 0, 1) := by decide +kernel
theorem dX5_howManyBy_33 : decode cX5_howManyBy 33 = .ok (.getfield 34, 3) := by decide +kernel
theorem dX5_howManyBy_36 : decode cX5_howManyBy 36 = .ok (.iload_n 1, 1) := by decide +kernel
theorem dX5_howManyBy_37 : decode cX5_howManyBy 37 = .ok (.invokevirtual 224, 3) := by decide +kernel
theorem dX5_howManyBy_40 : decode cX5_howManyBy 40 = .ok (.ifCond .eq 20, 3) := by decide +kernel
theorem dX5_howManyBy_43 : decode cX5_howManyBy 43 = .ok (.iload_n 2, 1) := by decide +kernel
theorem dX5_howManyBy_44 : decode cX5_howManyBy 44 = .ok (.ifCond .eq 13, 3) := by decide +kernel
theorem dX5_howManyBy_47 : decode cX5_howManyBy 47 = .ok (.aload_n 0, 1) := by decide +kernel
theorem dX5_howManyBy_48 : decode cX5_howManyBy 48 = .ok (.getfield 34, 3) := by decide +kernel
theorem dX5_howManyBy_51 : decode cX5_howManyBy 51 = .ok (.invokevirtual 227, 3) := by decide +kernel
theorem dX5_howManyBy_54 : decode cX5_howManyBy 54 = .ok (.ifCond .eq 6, 3) := by decide +kernel
theorem dX5_howManyBy_57 : decode cX5_howManyBy 57 = .ok (.iinc 3 1, 3) := by decide +kernel
theorem dX5_howManyBy_60 : decode cX5_howManyBy 60 = .ok (.iinc 4 2, 3) := by decide +kernel
theorem dX5_howManyBy_63 : decode cX5_howManyBy 63 = .ok (.goto (-58), 3) := by decide +kernel
theorem dX5_howManyBy_66 : decode cX5_howManyBy 66 = .ok (.iload_n 3, 1) := by decide +kernel
theorem dX5_howManyBy_67 : decode cX5_howManyBy 67 = .ok (.ireturn, 1) := by decide +kernel
set_option maxRecDepth 20000 in
theorem ggX5_leastSetBy_X0_copySwitched : GoodIn wsX5_leastSetBy wsX0_copySwitched := goodIn_r _ [6, 7, 8, 9, 10, 11, 12, 13, 14, 15, 4, 16, 17, 18, 19, 20, 47, 48] (by decide +kernel) (by decide +kernel)
set_option maxRecDepth 20000 in
theorem gX5_leastSetBy_X0_copySwitched_n151 : GoodIn wsX5_leastSetBy (wsX0_copySwitched) := ggX5_leastSetBy_X0_copySwitched
set_option maxRecDepth 20000 in
theorem ggX5_leastSetBy_X0_eachDegreeIs : GoodIn wsX5_leastSetBy wsX0_eachDegreeIs := goodIn_r _ [23, 7, 24, 25, 26, 4, 27, 28, 29, 30, 31, 8, 32, 33, 34, 35, 36, 37, 38, 47, 48] (by decide +kernel) (by decide +kernel)
set_option maxRecDepth 20000 in
theorem gX5_leastSetBy_X0_eachDegreeIs_n224 : GoodIn wsX5_leastSetBy (wsX0_eachDegreeIs) := ggX5_leastSetBy_X0_eachDegreeIs
theorem dX5_leastSetBy_0 : decode cX5_leastSetBy 0 = .ok (.iconst 0, 1) := by decide +kernel
theorem dX5_leastSetBy_1 : decode cX5_leastSetBy 1 = .ok (.istore_n 2, 1) := by decide +kernel
theorem dX5_leastSetBy_2 : decode cX5_leastSetBy 2 = .ok (.iload_n 2, 1) := by decide +kernel
theorem dX5_leastSetBy_3 : decode cX5_leastSetBy 3 = .ok (.iconst 1, 1) := by decide +kernel
theorem dX5_leastSetBy_4 : decode cX5_leastSetBy 4 = .ok (.aload_n 0, 1) := by decide +kernel
theorem dX5_leastSetBy_5 : decode cX5_leastSetBy 5 = .ok (.getfield 30, 3) := by decide +kernel
theorem dX5_leastSetBy_8 : decode cX5_leastSetBy 8 = .ok (.getfield 223, 3) := by decide +kernel
theorem dX5_leastSetBy_11 : decode cX5_leastSetBy 11 = .ok (.ishl, 1) := by decide +kernel
theorem dX5_leastSetBy_12 : decode cX5_leastSetBy 12 = .ok (.if_icmp .ge 34, 3) := by decide +kernel
theorem dX5_leastSetBy_15 : decode cX5_leastSetBy 15 = .ok (.aload_n 0, 1) := by decide +kernel
theorem dX5_leastSetBy_16 : decode cX5_leastSetBy 16 = .ok (.getfield 34, 3) := by decide +kernel
theorem dX5_leastSetBy_19 : decode cX5_leastSetBy 19 = .ok (.aload_n 0, 1) := by decide +kernel
theorem dX5_leastSetBy_20 : decode cX5_leastSetBy 20 = .ok (.getfield 30, 3) := by decide +kernel
theorem dX5_leastSetBy_23 : decode cX5_leastSetBy 23 = .ok (.iload_n 2, 1) := by decide +kernel
theorem dX5_leastSetBy_24 : decode cX5_leastSetBy 24 = .ok (.invokevirtual 151, 3) := by decide +kernel
theorem dX5_leastSetBy_27 : decode cX5_leastSetBy 27 = .ok (.aload_n 0, 1) := by decide +kernel
theorem dX5_leastSetBy_28 : decode cX5_leastSetBy 28 = .ok (.getfield 34, 3) := by decide +kernel
theorem dX5_leastSetBy_31 : decode cX5_leastSetBy 31 = .ok (.iload_n 1, 1) := by decide +kernel
theorem dX5_leastSetBy_32 : decode cX5_leastSetBy 32 = .ok (.invokevirtual 224, 3) := by decide +kernel
theorem dX5_leastSetBy_35 : decode cX5_leastSetBy 35 = .ok (.ifCond .eq 5, 3) := by decide +kernel
theorem dX5_leastSetBy_38 : decode cX5_leastSetBy 38 = .ok (.iload_n 2, 1) := by decide +kernel
theorem dX5_leastSetBy_39 : decode cX5_leastSetBy 39 = .ok (.ireturn, 1) := by decide +kernel
theorem dX5_leastSetBy_40 : decode cX5_leastSetBy 40 = .ok (.iinc 2 2, 3) := by decide +kernel
theorem dX5_leastSetBy_43 : decode cX5_leastSetBy 43 = .ok (.goto (-41), 3) := by decide +kernel
theorem dX5_leastSetBy_46 : decode cX5_leastSetBy 46 = .ok (.bipush (-6), 2) := by decide +kernel
theorem dX5_leastSetBy_48 : decode cX5_leastSetBy 48 = .ok (.ireturn, 1) := by decide +kernel
set_option maxRecDepth 20000 in
theorem ggX5_bringingSet_X5_load : GoodIn wsX5_bringingSet wsX5_load := goodIn_r _ [7, 8, 9, 10, 11, 12, 13, 14, 15, 16, 17, 18, 19, 20, 21, 22, 6, 23, 24, 25, 26, 27, 42, 43, 44, 45, 46, 47, 48, 49, 52, 53, 50, 51] (by decide +kernel) (by decide +kernel)
set_option maxRecDepth 20000 in
theorem gX5_bringingSet_X5_load : GoodIn wsX5_bringingSet (wsV RX5 74 RX5 yX5_load wsX5_load) := goodIn_app (goodIn_of _ (by decide +kernel)) ggX5_bringingSet_X5_load
set_option maxRecDepth 20000 in
theorem ggX5_bringingSet_X0_switchBy : GoodIn wsX5_bringingSet wsX0_switchBy := goodIn_r _ [30, 13, 14, 31, 32, 33, 10, 34, 50, 51] (by decide +kernel) (by decide +kernel)
set_option maxRecDepth 20000 in
theorem gX5_bringingSet_X0_switchBy_n117 : GoodIn wsX5_bringingSet (wsX0_switchBy) := ggX5_bringingSet_X0_switchBy
set_option maxRecDepth 20000 in
theorem ggX5_bringingSet_X0_number : GoodIn wsX5_bringingSet wsX0_number := goodIn_r _ [37, 13, 38, 39, 40, 10, 41, 14, 50, 51] (by decide +kernel) (by decide +kernel)
set_option maxRecDepth 20000 in
theorem gX5_bringingSet_X0_number_n85 : GoodIn wsX5_bringingSet (wsX0_number) := ggX5_bringingSet_X0_number
theorem dX5_bringingSet_0 : decode cX5_bringingSet 0 = .ok (.aload_n 0, 1) := by decide +kernel
theorem dX5_bringingSet_1 : decode cX5_bringingSet 1 = .ok (.aload_n 0, 1) := by decide +kernel
theorem dX5_bringingSet_2 : decode cX5_bringingSet 2 = .ok (.getfield 30, 3) := by decide +kernel
theorem dX5_bringingSet_5 : decode cX5_bringingSet 5 = .ok (.iload_n 1, 1) := by decide +kernel
theorem dX5_bringingSet_6 : decode cX5_bringingSet 6 = .ok (.invokevirtual 74, 3) := by decide +kernel
theorem dX5_bringingSet_9 : decode cX5_bringingSet 9 = .ok (.aload_n 0, 1) := by decide +kernel
theorem dX5_bringingSet_10 : decode cX5_bringingSet 10 = .ok (.aload_n 0, 1) := by decide +kernel
theorem dX5_bringingSet_11 : decode cX5_bringingSet 11 = .ok (.getfield 34, 3) := by decide +kernel
theorem dX5_bringingSet_14 : decode cX5_bringingSet 14 = .ok (.iload_n 2, 1) := by decide +kernel
theorem dX5_bringingSet_15 : decode cX5_bringingSet 15 = .ok (.invokevirtual 74, 3) := by decide +kernel
theorem dX5_bringingSet_18 : decode cX5_bringingSet 18 = .ok (.aload_n 0, 1) := by decide +kernel
theorem dX5_bringingSet_19 : decode cX5_bringingSet 19 = .ok (.getfield 30, 3) := by decide +kernel
theorem dX5_bringingSet_22 : decode cX5_bringingSet 22 = .ok (.getfield 230, 3) := by decide +kernel
theorem dX5_bringingSet_25 : decode cX5_bringingSet 25 = .ok (.iconst 0, 1) := by decide +kernel
theorem dX5_bringingSet_26 : decode cX5_bringingSet 26 = .ok (.iaload, 1) := by decide +kernel
theorem dX5_bringingSet_27 : decode cX5_bringingSet 27 = .ok (.aload_n 0, 1) := by decide +kernel
theorem dX5_bringingSet_28 : decode cX5_bringingSet 28 = .ok (.getfield 34, 3) := by decide +kernel
theorem dX5_bringingSet_31 : decode cX5_bringingSet 31 = .ok (.getfield 230, 3) := by decide +kernel
theorem dX5_bringingSet_34 : decode cX5_bringingSet 34 = .ok (.iconst 0, 1) := by decide +kernel
theorem dX5_bringingSet_35 : decode cX5_bringingSet 35 = .ok (.iaload, 1) := by decide +kernel
theorem dX5_bringingSet_36 : decode cX5_bringingSet 36 = .ok (.ixor, 1) := by decide +kernel
theorem dX5_bringingSet_37 : decode cX5_bringingSet 37 = .ok (.istore_n 3, 1) := by decide +kernel
theorem dX5_bringingSet_38 : decode cX5_bringingSet 38 = .ok (.aload_n 0, 1) := by decide +kernel
theorem dX5_bringingSet_39 : decode cX5_bringingSet 39 = .ok (.getfield 30, 3) := by decide +kernel
theorem dX5_bringingSet_42 : decode cX5_bringingSet 42 = .ok (.iload_n 3, 1) := by decide +kernel
theorem dX5_bringingSet_43 : decode cX5_bringingSet 43 = .ok (.invokevirtual 117, 3) := by decide +kernel
theorem dX5_bringingSet_46 : decode cX5_bringingSet 46 = .ok (.aload_n 0, 1) := by decide +kernel
theorem dX5_bringingSet_47 : decode cX5_bringingSet 47 = .ok (.getfield 30, 3) := by decide +kernel
theorem dX5_bringingSet_50 : decode cX5_bringingSet 50 = .ok (.invokevirtual 85, 3) := by decide +kernel
theorem dX5_bringingSet_53 : decode cX5_bringingSet 53 = .ok (.aload_n 0, 1) := by decide +kernel
theorem dX5_bringingSet_54 : decode cX5_bringingSet 54 = .ok (.getfield 34, 3) := by decide +kernel
theorem dX5_bringingSet_57 : decode cX5_bringingSet 57 = .ok (.invokevirtual 85, 3) := by decide +kernel
theorem dX5_bringingSet_60 : decode cX5_bringingSet 60 = .ok (.if_icmp .ne 7, 3) := by decide +kernel
theorem dX5_bringingSet_63 : decode cX5_bringingSet 63 = .ok (.iload_n 3, 1) := by decide +kernel
theorem dX5_bringingSet_64 : decode cX5_bringingSet 64 = .ok (.goto 5, 3) := by decide +kernel
theorem dX5_bringingSet_67 : decode cX5_bringingSet 67 = .ok (.bipush (-6), 2) := by decide +kernel
theorem dX5_bringingSet_69 : decode cX5_bringingSet 69 = .ok (.ireturn, 1) := by decide +kernel
set_option maxRecDepth 20000 in
theorem ggX5_kindOfSlot_X5_load : GoodIn wsX5_kindOfSlot wsX5_load := goodIn_r _ [7, 8, 9, 10, 11, 12, 13, 14, 15, 16, 17, 18, 19, 20, 21, 22, 6, 23, 24, 25, 26, 27, 69, 70, 71, 72, 73, 74, 75, 76, 77, 78, 79, 80] (by decide +kernel) (by decide +kernel)
set_option maxRecDepth 20000 in
theorem gX5_kindOfSlot_X5_load : GoodIn wsX5_kindOfSlot (wsV RX5 74 RX5 yX5_load wsX5_load) := goodIn_app (goodIn_of _ (by decide +kernel)) ggX5_kindOfSlot_X5_load
set_option maxRecDepth 20000 in
theorem ggX5_kindOfSlot_X2_kindOfClass : GoodIn wsX5_kindOfSlot wsX2_kindOfClass := goodIn_r _ [31, 32, 33, 34, 35, 36, 22, 6, 23, 37, 10, 38, 39, 14, 40, 41, 42, 43, 13, 44, 45, 46, 47, 48, 49, 29, 50, 51, 52, 53, 54, 55, 56, 57, 58, 59, 60, 61, 62, 63, 64, 65, 66, 67, 68, 79, 80, 81] (by decide +kernel) (by decide +kernel)
set_option maxRecDepth 20000 in
theorem gX5_kindOfSlot_X2_kindOfClass_n179 : GoodIn wsX5_kindOfSlot (wsX2_kindOfClass) := ggX5_kindOfSlot_X2_kindOfClass
theorem dX5_kindOfSlot_0 : decode cX5_kindOfSlot 0 = .ok (.aload_n 0, 1) := by decide +kernel
theorem dX5_kindOfSlot_1 : decode cX5_kindOfSlot 1 = .ok (.aload_n 0, 1) := by decide +kernel
theorem dX5_kindOfSlot_2 : decode cX5_kindOfSlot 2 = .ok (.getfield 30, 3) := by decide +kernel
theorem dX5_kindOfSlot_5 : decode cX5_kindOfSlot 5 = .ok (.iload_n 1, 1) := by decide +kernel
theorem dX5_kindOfSlot_6 : decode cX5_kindOfSlot 6 = .ok (.invokevirtual 74, 3) := by decide +kernel
theorem dX5_kindOfSlot_9 : decode cX5_kindOfSlot 9 = .ok (.aload_n 0, 1) := by decide +kernel
theorem dX5_kindOfSlot_10 : decode cX5_kindOfSlot 10 = .ok (.getfield 40, 3) := by decide +kernel
theorem dX5_kindOfSlot_13 : decode cX5_kindOfSlot 13 = .ok (.aload_n 0, 1) := by decide +kernel
theorem dX5_kindOfSlot_14 : decode cX5_kindOfSlot 14 = .ok (.getfield 30, 3) := by decide +kernel
theorem dX5_kindOfSlot_17 : decode cX5_kindOfSlot 17 = .ok (.invokevirtual 179, 3) := by decide +kernel
theorem dX5_kindOfSlot_20 : decode cX5_kindOfSlot 20 = .ok (.ireturn, 1) := by decide +kernel
set_option maxRecDepth 20000 in
theorem ggX5_differentClasses_X5_load : GoodIn wsX5_differentClasses wsX5_load := goodIn_r _ [7, 8, 9, 10, 11, 12, 13, 14, 15, 16, 17, 18, 19, 20, 21, 22, 6, 23, 24, 25, 26, 27, 54, 55, 56, 57, 58, 59, 60, 61, 62, 63, 64, 65] (by decide +kernel) (by decide +kernel)
set_option maxRecDepth 20000 in
theorem gX5_differentClasses_X5_load : GoodIn wsX5_differentClasses (wsV RX5 74 RX5 yX5_load wsX5_load) := goodIn_app (goodIn_of _ (by decide +kernel)) ggX5_differentClasses_X5_load
set_option maxRecDepth 20000 in
theorem ggX5_differentClasses_X0_leaveAlone : GoodIn wsX5_differentClasses wsX0_leaveAlone := goodIn_r _ [30, 14, 31, 32, 33, 10, 34, 13, 35, 36, 37, 38, 64, 65] (by decide +kernel) (by decide +kernel)
set_option maxRecDepth 20000 in
theorem gX5_differentClasses_X0_leaveAlone_n135 : GoodIn wsX5_differentClasses (wsX0_leaveAlone) := ggX5_differentClasses_X0_leaveAlone
set_option maxRecDepth 20000 in
theorem ggX5_differentClasses_X0_number : GoodIn wsX5_differentClasses wsX0_number := goodIn_r _ [41, 13, 42, 43, 44, 10, 45, 14, 64, 65] (by decide +kernel) (by decide +kernel)
set_option maxRecDepth 20000 in
theorem gX5_differentClasses_X0_number_n85 : GoodIn wsX5_differentClasses (wsX0_number) := ggX5_differentClasses_X0_number
set_option maxRecDepth 20000 in
theorem ggX5_differentClasses_X5_differentMarks : GoodIn wsX5_differentClasses wsX5_differentMarks := goodIn_r _ [49, 50, 51, 52, 6, 53, 2, 54, 55, 56, 57, 58, 59, 60, 61] (by decide +kernel) (by decide +kernel)
set_option maxRecDepth 20000 in
theorem gX5_differentClasses_X5_differentMarks : GoodIn wsX5_differentClasses (wsV RX5 233 RX5 yX5_differentMarks wsX5_differentMarks) := goodIn_app (goodIn_of _ (by decide +kernel)) ggX5_differentClasses_X5_differentMarks
theorem dX5_differentClasses_0 : decode cX5_differentClasses 0 = .ok (.iconst 0, 1) := by decide +kernel
theorem dX5_differentClasses_1 : decode cX5_differentClasses 1 = .ok (.istore_n 1, 1) := by decide +kernel
theorem dX5_differentClasses_2 : decode cX5_differentClasses 2 = .ok (.iload_n 1, 1) := by decide +kernel
theorem dX5_differentClasses_3 : decode cX5_differentClasses 3 = .ok (.iconst 3, 1) := by decide +kernel
theorem dX5_differentClasses_4 : decode cX5_differentClasses 4 = .ok (.if_icmp .ge 39, 3) := by decide +kernel
theorem dX5_differentClasses_7 : decode cX5_differentClasses 7 = .ok (.aload_n 0, 1) := by decide +kernel
theorem dX5_differentClasses_8 : decode cX5_differentClasses 8 = .ok (.aload_n 0, 1) := by decide +kernel
theorem dX5_differentClasses_9 : decode cX5_differentClasses 9 = .ok (.getfield 30, 3) := by decide +kernel
theorem dX5_differentClasses_12 : decode cX5_differentClasses 12 = .ok (.iload_n 1, 1) := by decide +kernel
theorem dX5_differentClasses_13 : decode cX5_differentClasses 13 = .ok (.invokevirtual 74, 3) := by decide +kernel
theorem dX5_differentClasses_16 : decode cX5_differentClasses 16 = .ok (.aload_n 0, 1) := by decide +kernel
theorem dX5_differentClasses_17 : decode cX5_differentClasses 17 = .ok (.getfield 30, 3) := by decide +kernel
theorem dX5_differentClasses_20 : decode cX5_differentClasses 20 = .ok (.iconst 0, 1) := by decide +kernel
theorem dX5_differentClasses_21 : decode cX5_differentClasses 21 = .ok (.invokevirtual 135, 3) := by decide +kernel
theorem dX5_differentClasses_24 : decode cX5_differentClasses 24 = .ok (.aload_n 0, 1) := by decide +kernel
theorem dX5_differentClasses_25 : decode cX5_differentClasses 25 = .ok (.getfield 51, 3) := by decide +kernel
theorem dX5_differentClasses_28 : decode cX5_differentClasses 28 = .ok (.iload_n 1, 1) := by decide +kernel
theorem dX5_differentClasses_29 : decode cX5_differentClasses 29 = .ok (.aload_n 0, 1) := by decide +kernel
theorem dX5_differentClasses_30 : decode cX5_differentClasses 30 = .ok (.getfield 30, 3) := by decide +kernel
