theorem dX0_init_0 : decode cX0_init 0 = .ok (.aload_n 0, 1) := by decide +kernel
theorem dX0_init_1 : decode cX0_init 1 = .ok (.invokespecial 3, 3) := by decide +kernel
theorem dX0_init_4 : decode cX0_init 4 = .ok (.aload_n 0, 1) := by decide +kernel
theorem dX0_init_5 : decode cX0_init 5 = .ok (.iconst 0, 1) := by decide +kernel
theorem dX0_init_6 : decode cX0_init 6 = .ok (.putfield 9, 3) := by decide +kernel
theorem dX0_init_9 : decode cX0_init 9 = .ok (.aload_n 0, 1) := by decide +kernel
theorem dX0_init_10 : decode cX0_init 10 = .ok (.bipush 7, 2) := by decide +kernel
theorem dX0_init_12 : decode cX0_init 12 = .ok (.newarray .int, 2) := by decide +kernel
theorem dX0_init_14 : decode cX0_init 14 = .ok (.putfield 15, 3) := by decide +kernel
theorem dX0_init_17 : decode cX0_init 17 = .ok (.return_, 1) := by decide +kernel
set_option maxRecDepth 20000 in
theorem ggX0_clear_J7_fill_53178 : GoodIn wsX0_clear wsJ7_fill_53178 := goodIn_r _ [6] (by decide +kernel) (by decide +kernel)
set_option maxRecDepth 20000 in
theorem gX0_clear_J7_fill_53178 : GoodIn wsX0_clear (va_wsS RX0 19 yJ7_fill_53178 wsJ7_fill_53178) := goodIn_app (goodIn_of _ (by decide +kernel)) ggX0_clear_J7_fill_53178
theorem dX0_clear_0 : decode cX0_clear 0 = .ok (.aload_n 0, 1) := by decide +kernel
theorem dX0_clear_1 : decode cX0_clear 1 = .ok (.iload_n 1, 1) := by decide +kernel
theorem dX0_clear_2 : decode cX0_clear 2 = .ok (.putfield 9, 3) := by decide +kernel
theorem dX0_clear_5 : decode cX0_clear 5 = .ok (.aload_n 0, 1) := by decide +kernel
theorem dX0_clear_6 : decode cX0_clear 6 = .ok (.getfield 15, 3) := by decide +kernel
theorem dX0_clear_9 : decode cX0_clear 9 = .ok (.iconst 0, 1) := by decide +kernel
theorem dX0_clear_10 : decode cX0_clear 10 = .ok (.invokestatic 19, 3) := by decide +kernel
theorem dX0_clear_13 : decode cX0_clear 13 = .ok (.return_, 1) := by decide +kernel
theorem dX0_connect_0 : decode cX0_connect 0 = .ok (.iload_n 3, 1) := by decide +kernel
theorem dX0_connect_1 : decode cX0_connect 1 = .ok (.ifCond .eq 30, 3) := by decide +kernel
theorem dX0_connect_4 : decode cX0_connect 4 = .ok (.aload_n 0, 1) := by decide +kernel
theorem dX0_connect_5 : decode cX0_connect 5 = .ok (.getfield 15, 3) := by decide +kernel
theorem dX0_connect_8 : decode cX0_connect 8 = .ok (.iload_n 1, 1) := by decide +kernel
theorem dX0_connect_9 : decode cX0_connect 9 = .ok (.dup2, 1) := by decide +kernel
theorem dX0_connect_10 : decode cX0_connect 10 = .ok (.iaload, 1) := by decide +kernel
theorem dX0_connect_11 : decode cX0_connect 11 = .ok (.iconst 1, 1) := by decide +kernel
theorem dX0_connect_12 : decode cX0_connect 12 = .ok (.iload_n 2, 1) := by decide +kernel
theorem dX0_connect_13 : decode cX0_connect 13 = .ok (.ishl, 1) := by decide +kernel
theorem dX0_connect_14 : decode cX0_connect 14 = .ok (.ior, 1) := by decide +kernel
theorem dX0_connect_15 : decode cX0_connect 15 = .ok (.iastore, 1) := by decide +kernel
theorem dX0_connect_16 : decode cX0_connect 16 = .ok (.aload_n 0, 1) := by decide +kernel
theorem dX0_connect_17 : decode cX0_connect 17 = .ok (.getfield 15, 3) := by decide +kernel
theorem dX0_connect_20 : decode cX0_connect 20 = .ok (.iload_n 2, 1) := by decide +kernel
theorem dX0_connect_21 : decode cX0_connect 21 = .ok (.dup2, 1) := by decide +kernel
theorem dX0_connect_22 : decode cX0_connect 22 = .ok (.iaload, 1) := by decide +kernel
theorem dX0_connect_23 : decode cX0_connect 23 = .ok (.iconst 1, 1) := by decide +kernel
theorem dX0_connect_24 : decode cX0_connect 24 = .ok (.iload_n 1, 1) := by decide +kernel
theorem dX0_connect_25 : decode cX0_connect 25 = .ok (.ishl, 1) := by decide +kernel
theorem dX0_connect_26 : decode cX0_connect 26 = .ok (.ior, 1) := by decide +kernel
theorem dX0_connect_27 : decode cX0_connect 27 = .ok (.iastore, 1) := by decide +kernel
theorem dX0_connect_28 : decode cX0_connect 28 = .ok (.goto 31, 3) := by decide +kernel
theorem dX0_connect_31 : decode cX0_connect 31 = .ok (.aload_n 0, 1) := by decide +kernel
theorem dX0_connect_32 : decode cX0_connect 32 = .ok (.getfield 15, 3) := by decide +kernel
theorem dX0_connect_35 : decode cX0_connect 35 = .ok (.iload_n 1, 1) := by decide +kernel
theorem dX0_connect_36 : decode cX0_connect 36 = .ok (.dup2, 1) := by decide +kernel
theorem dX0_connect_37 : decode cX0_connect 37 = .ok (.iaload, 1) := by decide +kernel
theorem dX0_connect_38 : decode cX0_connect 38 = .ok (.iconst 1, 1) := by decide +kernel
theorem dX0_connect_39 : decode cX0_connect 39 = .ok (.iload_n 2, 1) := by decide +kernel
theorem dX0_connect_40 : decode cX0_connect 40 = .ok (.ishl, 1) := by decide +kernel
theorem dX0_connect_41 : decode cX0_connect 41 = .ok (.iconst (-1), 1) := by decide +kernel
theorem dX0_connect_42 : decode cX0_connect 42 = .ok (.ixor, 1) := by decide +kernel
theorem dX0_connect_43 : decode cX0_connect 43 = .ok (.iand, 1) := by decide +kernel
theorem dX0_connect_44 : decode cX0_connect 44 = .ok (.iastore, 1) := by decide +kernel
theorem dX0_connect_45 : decode cX0_connect 45 = .ok (.aload_n 0, 1) := by decide +kernel
theorem dX0_connect_46 : decode cX0_connect 46 = .ok (.getfield 15, 3) := by decide +kernel
theorem dX0_connect_49 : decode cX0_connect 49 = .ok (.iload_n 2, 1) := by decide +kernel
theorem dX0_connect_50 : decode cX0_connect 50 = .ok (.dup2, 1) := by decide +kernel
theorem dX0_connect_51 : decode cX0_connect 51 = .ok (.iaload, 1) := by decide +kernel
theorem dX0_connect_52 : decode cX0_connect 52 = .ok (.iconst 1, 1) := by decide +kernel
theorem dX0_connect_53 : decode cX0_connect 53 = .ok (.iload_n 1, 1) := by decide +kernel
theorem dX0_connect_54 : decode cX0_connect 54 = .ok (.ishl, 1) := by decide +kernel
theorem dX0_connect_55 : decode cX0_connect 55 = .ok (.iconst (-1), 1) := by decide +kernel
theorem dX0_connect_56 : decode cX0_connect 56 = .ok (.ixor, 1) := by decide +kernel
theorem dX0_connect_57 : decode cX0_connect 57 = .ok (.iand, 1) := by decide +kernel
theorem dX0_connect_58 : decode cX0_connect 58 = .ok (.iastore, 1) := by decide +kernel
theorem dX0_connect_59 : decode cX0_connect 59 = .ok (.return_, 1) := by decide +kernel
set_option maxRecDepth 20000 in
theorem ggX0_takeNumber_X5_pairsOf : GoodIn wsX0_takeNumber wsX5_pairsOf := goodIn_r _ [4] (by decide +kernel) (by decide +kernel)
set_option maxRecDepth 20000 in
theorem gX0_takeNumber_X5_pairsOf_n25 : GoodIn wsX0_takeNumber (wsX5_pairsOf) := ggX0_takeNumber_X5_pairsOf
set_option maxRecDepth 20000 in
theorem ggX0_takeNumber_X0_connect : GoodIn wsX0_takeNumber wsX0_connect := goodIn_r _ [9, 10, 11, 12] (by decide +kernel) (by decide +kernel)
set_option maxRecDepth 20000 in
theorem gX0_takeNumber_X0_connect : GoodIn wsX0_takeNumber (wsV RX0 29 RX0 yX0_connect wsX0_connect) := goodIn_app (goodIn_of _ (by decide +kernel)) ggX0_takeNumber_X0_connect
theorem dX0_takeNumber_0 : decode cX0_takeNumber 0 = .ok (.aload_n 0, 1) := by decide +kernel
theorem dX0_takeNumber_1 : decode cX0_takeNumber 1 = .ok (.getfield 9, 3) := by decide +kernel
theorem dX0_takeNumber_4 : decode cX0_takeNumber 4 = .ok (.invokestatic 25, 3) := by decide +kernel
theorem dX0_takeNumber_7 : decode cX0_takeNumber 7 = .ok (.istore_n 2, 1) := by decide +kernel
theorem dX0_takeNumber_8 : decode cX0_takeNumber 8 = .ok (.iconst 0, 1) := by decide +kernel
theorem dX0_takeNumber_9 : decode cX0_takeNumber 9 = .ok (.istore_n 3, 1) := by decide +kernel
theorem dX0_takeNumber_10 : decode cX0_takeNumber 10 = .ok (.iload_n 3, 1) := by decide +kernel
theorem dX0_takeNumber_11 : decode cX0_takeNumber 11 = .ok (.aload_n 0, 1) := by decide +kernel
theorem dX0_takeNumber_12 : decode cX0_takeNumber 12 = .ok (.getfield 9, 3) := by decide +kernel
theorem dX0_takeNumber_15 : decode cX0_takeNumber 15 = .ok (.if_icmp .ge 53, 3) := by decide +kernel
theorem dX0_takeNumber_18 : decode cX0_takeNumber 18 = .ok (.iload_n 3, 1) := by decide +kernel
theorem dX0_takeNumber_19 : decode cX0_takeNumber 19 = .ok (.iconst 1, 1) := by decide +kernel
theorem dX0_takeNumber_20 : decode cX0_takeNumber 20 = .ok (.iadd, 1) := by decide +kernel
theorem dX0_takeNumber_21 : decode cX0_takeNumber 21 = .ok (.istore 4, 2) := by decide +kernel
theorem dX0_takeNumber_23 : decode cX0_takeNumber 23 = .ok (.iload 4, 2) := by decide +kernel
theorem dX0_takeNumber_25 : decode cX0_takeNumber 25 = .ok (.aload_n 0, 1) := by decide +kernel
theorem dX0_takeNumber_26 : decode cX0_takeNumber 26 = .ok (.getfield 9, 3) := by decide +kernel
theorem dX0_takeNumber_29 : decode cX0_takeNumber 29 = .ok (.if_icmp .ge 33, 3) := by decide +kernel
theorem dX0_takeNumber_32 : decode cX0_takeNumber 32 = .ok (.iinc 2 (-1), 3) := by decide +kernel
theorem dX0_takeNumber_35 : decode cX0_takeNumber 35 = .ok (.aload_n 0, 1) := by decide +kernel
theorem dX0_takeNumber_36 : decode cX0_takeNumber 36 = .ok (.iload_n 3, 1) := by decide +kernel
theorem dX0_takeNumber_37 : decode cX0_takeNumber 37 = .ok (.iload 4, 2) := by decide +kernel
theorem dX0_takeNumber_39 : decode cX0_takeNumber 39 = .ok (.iload_n 1, 1) := by decide +kernel
theorem dX0_takeNumber_40 : decode cX0_takeNumber 40 = .ok (.iload_n 2, 1) := by decide +kernel
theorem dX0_takeNumber_41 : decode cX0_takeNumber 41 = .ok (.ishr, 1) := by decide +kernel
theorem dX0_takeNumber_42 : decode cX0_takeNumber 42 = .ok (.iconst 1, 1) := by decide +kernel
theorem dX0_takeNumber_43 : decode cX0_takeNumber 43 = .ok (.iand, 1) := by decide +kernel
theorem dX0_takeNumber_44 : decode cX0_takeNumber 44 = .ok (.iconst 1, 1) := by decide +kernel
theorem dX0_takeNumber_45 : decode cX0_takeNumber 45 = .ok (.if_icmp .ne 7, 3) := by decide +kernel
theorem dX0_takeNumber_48 : decode cX0_takeNumber 48 = .ok (.iconst 1, 1) := by decide +kernel
theorem dX0_takeNumber_49 : decode cX0_takeNumber 49 = .ok (.goto 4, 3) := by decide +kernel
theorem dX0_takeNumber_52 : decode cX0_takeNumber 52 = .ok (.iconst 0, 1) := by decide +kernel
theorem dX0_takeNumber_53 : decode cX0_takeNumber 53 = .ok (.invokevirtual 29, 3) := by decide +kernel
theorem dX0_takeNumber_56 : decode cX0_takeNumber 56 = .ok (.iinc 4 1, 3) := by decide +kernel
theorem dX0_takeNumber_59 : decode cX0_takeNumber 59 = .ok (.goto (-36), 3) := by decide +kernel
theorem dX0_takeNumber_62 : decode cX0_takeNumber 62 = .ok (.iinc 3 1, 3) := by decide +kernel
theorem dX0_takeNumber_65 : decode cX0_takeNumber 65 = .ok (.goto (-55), 3) := by decide +kernel
theorem dX0_takeNumber_68 : decode cX0_takeNumber 68 = .ok (.return_, 1) := by decide +kernel
set_option maxRecDepth 20000 in
theorem ggX0_takePairs_X1_tells : GoodIn wsX0_takePairs wsX1_tells := goodIn_r _ [5, 6, 7, 16, 17] (by decide +kernel) (by decide +kernel)
set_option maxRecDepth 20000 in
theorem gX0_takePairs_X1_tells_n33 : GoodIn wsX0_takePairs (wsX1_tells) := ggX0_takePairs_X1_tells
set_option maxRecDepth 20000 in
theorem ggX0_takePairs_X0_connect : GoodIn wsX0_takePairs wsX0_connect := goodIn_r _ [12, 13, 14, 15] (by decide +kernel) (by decide +kernel)
set_option maxRecDepth 20000 in
theorem gX0_takePairs_X0_connect : GoodIn wsX0_takePairs (wsV RX0 29 RX0 yX0_connect wsX0_connect) := goodIn_app (goodIn_of _ (by decide +kernel)) ggX0_takePairs_X0_connect
theorem dX0_takePairs_0 : decode cX0_takePairs 0 = .ok (.iconst 0, 1) := by decide +kernel
theorem dX0_takePairs_1 : decode cX0_takePairs 1 = .ok (.istore_n 2, 1) := by decide +kernel
theorem dX0_takePairs_2 : decode cX0_takePairs 2 = .ok (.iconst 0, 1) := by decide +kernel
theorem dX0_takePairs_3 : decode cX0_takePairs 3 = .ok (.istore_n 3, 1) := by decide +kernel
theorem dX0_takePairs_4 : decode cX0_takePairs 4 = .ok (.iload_n 3, 1) := by decide +kernel
theorem dX0_takePairs_5 : decode cX0_takePairs 5 = .ok (.aload_n 0, 1) := by decide +kernel
theorem dX0_takePairs_6 : decode cX0_takePairs 6 = .ok (.getfield 9, 3) := by decide +kernel
theorem dX0_takePairs_9 : decode cX0_takePairs 9 = .ok (.if_icmp .ge 44, 3) := by decide +kernel
theorem dX0_takePairs_12 : decode cX0_takePairs 12 = .ok (.iload_n 3, 1) := by decide +kernel
theorem dX0_takePairs_13 : decode cX0_takePairs 13 = .ok (.iconst 1, 1) := by decide +kernel
theorem dX0_takePairs_14 : decode cX0_takePairs 14 = .ok (.iadd, 1) := by decide +kernel
theorem dX0_takePairs_15 : decode cX0_takePairs 15 = .ok (.istore 4, 2) := by decide +kernel
theorem dX0_takePairs_17 : decode cX0_takePairs 17 = .ok (.iload 4, 2) := by decide +kernel
theorem dX0_takePairs_19 : decode cX0_takePairs 19 = .ok (.aload_n 0, 1) := by decide +kernel
theorem dX0_takePairs_20 : decode cX0_takePairs 20 = .ok (.getfield 9, 3) := by decide +kernel
theorem dX0_takePairs_23 : decode cX0_takePairs 23 = .ok (.if_icmp .ge 24, 3) := by decide +kernel
theorem dX0_takePairs_26 : decode cX0_takePairs 26 = .ok (.aload_n 0, 1) := by decide +kernel
theorem dX0_takePairs_27 : decode cX0_takePairs 27 = .ok (.iload_n 3, 1) := by decide +kernel
theorem dX0_takePairs_28 : decode cX0_takePairs 28 = .ok (.iload 4, 2) := by decide +kernel
theorem dX0_takePairs_30 : decode cX0_takePairs 30 = .ok (.aload_n 1, 1) := by decide +kernel
theorem dX0_takePairs_31 : decode cX0_takePairs 31 = .ok (.iload_n 2, 1) := by decide +kernel
theorem dX0_takePairs_32 : decode cX0_takePairs 32 = .ok (.invokevirtual 33, 3) := by decide +kernel
theorem dX0_takePairs_35 : decode cX0_takePairs 35 = .ok (.invokevirtual 29, 3) := by decide +kernel
theorem dX0_takePairs_38 : decode cX0_takePairs 38 = .ok (.iinc 2 1, 3) := by decide +kernel
theorem dX0_takePairs_41 : decode cX0_takePairs 41 = .ok (.iinc 4 1, 3) := by decide +kernel
theorem dX0_takePairs_44 : decode cX0_takePairs 44 = .ok (.goto (-27), 3) := by decide +kernel
theorem dX0_takePairs_47 : decode cX0_takePairs 47 = .ok (.iinc 3 1, 3) := by decide +kernel
theorem dX0_takePairs_50 : decode cX0_takePairs 50 = .ok (.goto (-46), 3) := by decide +kernel
theorem dX0_takePairs_53 : decode cX0_takePairs 53 = .ok (.return_, 1) := by decide +kernel
set_option maxRecDepth 20000 in
theorem ggX0_takeTriples_X1_tells : GoodIn wsX0_takeTriples wsX1_tells := goodIn_r _ [5, 6, 7, 24, 25] (by decide +kernel) (by decide +kernel)
set_option maxRecDepth 20000 in
theorem gX0_takeTriples_X1_tells_n33 : GoodIn wsX0_takeTriples (wsX1_tells) := ggX0_takeTriples_X1_tells
set_option maxRecDepth 20000 in
theorem ggX0_takeTriples_X0_connect : GoodIn wsX0_takeTriples wsX0_connect := goodIn_r _ [12, 13, 22, 23] (by decide +kernel) (by decide +kernel)
set_option maxRecDepth 20000 in
theorem gX0_takeTriples_X0_connect : GoodIn wsX0_takeTriples (wsV RX0 29 RX0 yX0_connect wsX0_connect) := goodIn_app (goodIn_of _ (by decide +kernel)) ggX0_takeTriples_X0_connect
set_option maxRecDepth 20000 in
theorem ggX0_takeTriples_X0_isOdd : GoodIn wsX0_takeTriples wsX0_isOdd := goodIn_r _ [17, 18, 19, 20, 11, 21, 13, 22, 23] (by decide +kernel) (by decide +kernel)
set_option maxRecDepth 20000 in
theorem gX0_takeTriples_X0_isOdd : GoodIn wsX0_takeTriples (wsV RX0 39 RX0 yX0_isOdd wsX0_isOdd) := goodIn_app (goodIn_of _ (by decide +kernel)) ggX0_takeTriples_X0_isOdd
theorem dX0_takeTriples_0 : decode cX0_takeTriples 0 = .ok (.iconst 0, 1) := by decide +kernel
theorem dX0_takeTriples_1 : decode cX0_takeTriples 1 = .ok (.istore_n 2, 1) := by decide +kernel
theorem dX0_takeTriples_2 : decode cX0_takeTriples 2 = .ok (.iconst 0, 1) := by decide +kernel
theorem dX0_takeTriples_3 : decode cX0_takeTriples 3 = .ok (.istore_n 3, 1) := by decide +kernel
theorem dX0_takeTriples_4 : decode cX0_takeTriples 4 = .ok (.iload_n 3, 1) := by decide +kernel
theorem dX0_takeTriples_5 : decode cX0_takeTriples 5 = .ok (.aload_n 0, 1) := by decide +kernel
theorem dX0_takeTriples_6 : decode cX0_takeTriples 6 = .ok (.getfield 9, 3) := by decide +kernel
theorem dX0_takeTriples_9 : decode cX0_takeTriples 9 = .ok (.if_icmp .ge 93, 3) := by decide +kernel
theorem dX0_takeTriples_12 : decode cX0_takeTriples 12 = .ok (.iload_n 3, 1) := by decide +kernel
theorem dX0_takeTriples_13 : decode cX0_takeTriples 13 = .ok (.iconst 1, 1) := by decide +kernel
theorem dX0_takeTriples_14 : decode cX0_takeTriples 14 = .ok (.iadd, 1) := by decide +kernel
theorem dX0_takeTriples_15 : decode cX0_takeTriples 15 = .ok (.istore 4, 2) := by decide +kernel
theorem dX0_takeTriples_17 : decode cX0_takeTriples 17 = .ok (.iload 4, 2) := by decide +kernel
theorem dX0_takeTriples_19 : decode cX0_takeTriples 19 = .ok (.aload_n 0, 1) := by decide +kernel
theorem dX0_takeTriples_20 : decode cX0_takeTriples 20 = .ok (.getfield 9, 3) := by decide +kernel
theorem dX0_takeTriples_23 : decode cX0_takeTriples 23 = .ok (.if_icmp .ge 73, 3) := by decide +kernel
theorem dX0_takeTriples_26 : decode cX0_takeTriples 26 = .ok (.iload 4, 2) := by decide +kernel
theorem dX0_takeTriples_28 : decode cX0_takeTriples 28 = .ok (.iconst 1, 1) := by decide +kernel
theorem dX0_takeTriples_29 : decode cX0_takeTriples 29 = .ok (.iadd, 1) := by decide +kernel
theorem dX0_takeTriples_30 : decode cX0_takeTriples 30 = .ok (.istore 5, 2) := by decide +kernel
theorem dX0_takeTriples_32 : decode cX0_takeTriples 32 = .ok (.iload 5, 2) := by decide +kernel
theorem dX0_takeTriples_34 : decode cX0_takeTriples 34 = .ok (.aload_n 0, 1) := by decide +kernel
theorem dX0_takeTriples_35 : decode cX0_takeTriples 35 = .ok (.getfield 9, 3) := by decide +kernel
theorem dX0_takeTriples_38 : decode cX0_takeTriples 38 = .ok (.if_icmp .ge 52, 3) := by decide +kernel
theorem dX0_takeTriples_41 : decode cX0_takeTriples 41 = .ok (.aload_n 1, 1) := by decide +kernel
theorem dX0_takeTriples_42 : decode cX0_takeTriples 42 = .ok (.iload_n 2, 1) := by decide +kernel
theorem dX0_takeTriples_43 : decode cX0_takeTriples 43 = .ok (.invokevirtual 33, 3) := by decide +kernel
theorem dX0_takeTriples_46 : decode cX0_takeTriples 46 = .ok (.istore 6, 2) := by decide +kernel
theorem dX0_takeTriples_48 : decode cX0_takeTriples 48 = .ok (.iload_n 3, 1) := by decide +kernel
theorem dX0_takeTriples_49 : decode cX0_takeTriples 49 = .ok (.ifCond .ne 16, 3) := by decide +kernel
theorem dX0_takeTriples_52 : decode cX0_takeTriples 52 = .ok (.aload_n 0, 1) := by decide +kernel
theorem dX0_takeTriples_53 : decode cX0_takeTriples 53 = .ok (.iload 4, 2) := by decide +kernel
theorem dX0_takeTriples_55 : decode cX0_takeTriples 55 = .ok (.iload 5, 2) := by decide +kernel
theorem dX0_takeTriples_57 : decode cX0_takeTriples 57 = .ok (.iload 6, 2) := by decide +kernel
theorem dX0_takeTriples_59 : decode cX0_takeTriples 59 = .ok (.invokevirtual 29, 3) := by decide +kernel
theorem dX0_takeTriples_62 : decode cX0_takeTriples 62 = .ok (.goto 19, 3) := by decide +kernel
theorem dX0_takeTriples_65 : decode cX0_takeTriples 65 = .ok (.aload_n 0, 1) := by decide +kernel
theorem dX0_takeTriples_66 : decode cX0_takeTriples 66 = .ok (.iload_n 3, 1) := by decide +kernel
theorem dX0_takeTriples_67 : decode cX0_takeTriples 67 = .ok (.iload 4, 2) := by decide +kernel
theorem dX0_takeTriples_69 : decode cX0_takeTriples 69 = .ok (.iload 5, 2) := by decide +kernel
theorem dX0_takeTriples_71 : decode cX0_takeTriples 71 = .ok (.invokevirtual 39, 3) := by decide +kernel
theorem dX0_takeTriples_74 : decode cX0_takeTriples 74 = .ok (.iload 6, 2) := by decide +kernel
theorem dX0_takeTriples_76 : decode cX0_takeTriples 76 = .ok (.if_icmp .eq 5, 3) := by decide +kernel
theorem dX0_takeTriples_79 : decode cX0_takeTriples 79 = .ok (.iconst 0, 1) := by decide +kernel
theorem dX0_takeTriples_80 : decode cX0_takeTriples 80 = .ok (.ireturn, 1) := by decide +kernel
theorem dX0_takeTriples_81 : decode cX0_takeTriples 81 = .ok (.iinc 2 1, 3) := by decide +kernel
theorem dX0_takeTriples_84 : decode cX0_takeTriples 84 = .ok (.iinc 5 1, 3) := by decide +kernel
theorem dX0_takeTriples_87 : decode cX0_takeTriples 87 = .ok (.goto (-55), 3) := by decide +kernel
theorem dX0_takeTriples_90 : decode cX0_takeTriples 90 = .ok (.iinc 4 1, 3) := by decide +kernel
theorem dX0_takeTriples_93 : decode cX0_takeTriples 93 = .ok (.goto (-76), 3) := by decide +kernel
theorem dX0_takeTriples_96 : decode cX0_takeTriples 96 = .ok (.iinc 3 1, 3) := by decide +kernel
theorem dX0_takeTriples_99 : decode cX0_takeTriples 99 = .ok (.goto (-95), 3) := by decide +kernel
theorem dX0_takeTriples_102 : decode cX0_takeTriples 102 = .ok (.iconst 1, 1) := by decide +kernel
theorem dX0_takeTriples_103 : decode cX0_takeTriples 103 = .ok (.ireturn, 1) := by decide +kernel
set_option maxRecDepth 20000 in
theorem ggX0_copySwitched_X0_switchBy : GoodIn wsX0_copySwitched wsX0_switchBy := goodIn_r _ [11, 1, 2, 12, 13, 14, 10, 15, 16, 17] (by decide +kernel) (by decide +kernel)
set_option maxRecDepth 20000 in
theorem gX0_copySwitched_X0_switchBy : GoodIn wsX0_copySwitched (wsV RX0 49 RX0 yX0_switchBy wsX0_switchBy) := goodIn_app (goodIn_of _ (by decide +kernel)) ggX0_copySwitched_X0_switchBy
theorem dX0_copySwitched_0 : decode cX0_copySwitched 0 = .ok (.aload_n 0, 1) := by decide +kernel
theorem dX0_copySwitched_1 : decode cX0_copySwitched 1 = .ok (.aload_n 1, 1) := by decide +kernel
theorem dX0_copySwitched_2 : decode cX0_copySwitched 2 = .ok (.getfield 9, 3) := by decide +kernel
theorem dX0_copySwitched_5 : decode cX0_copySwitched 5 = .ok (.putfield 9, 3) := by decide +kernel
theorem dX0_copySwitched_8 : decode cX0_copySwitched 8 = .ok (.aload_n 1, 1) := by decide +kernel
theorem dX0_copySwitched_9 : decode cX0_copySwitched 9 = .ok (.getfield 15, 3) := by decide +kernel
theorem dX0_copySwitched_12 : decode cX0_copySwitched 12 = .ok (.iconst 0, 1) := by decide +kernel
theorem dX0_copySwitched_13 : decode cX0_copySwitched 13 = .ok (.aload_n 0, 1) := by decide +kernel
theorem dX0_copySwitched_14 : decode cX0_copySwitched 14 = .ok (.getfield 15, 3) := by decide +kernel
theorem dX0_copySwitched_17 : decode cX0_copySwitched 17 = .ok (.iconst 0, 1) := by decide +kernel
theorem dX0_copySwitched_18 : decode cX0_copySwitched 18 = .ok (.bipush 7, 2) := by decide +kernel
theorem dX0_copySwitched_20 : decode cX0_copySwitched 20 = .ok (.invokestatic 43, 3) := by decide +kernel
theorem dX0_copySwitched_23 : decode cX0_copySwitched 23 = .ok (.aload_n 0, 1) := by decide +kernel
theorem dX0_copySwitched_24 : decode cX0_copySwitched 24 = .ok (.iload_n 2, 1) := by decide +kernel
theorem dX0_copySwitched_25 : decode cX0_copySwitched 25 = .ok (.invokevirtual 49, 3) := by decide +kernel
theorem dX0_copySwitched_28 : decode cX0_copySwitched 28 = .ok (.return_, 1) := by decide +kernel
set_option maxRecDepth 20000 in
theorem ggX0_switchBy_X0_allNodes : GoodIn wsX0_switchBy wsX0_allNodes := goodIn_r _ [7, 1, 8, 9] (by decide +kernel) (by decide +kernel)
set_option maxRecDepth 20000 in
theorem gX0_switchBy_X0_allNodes : GoodIn wsX0_switchBy (wsV RX0 53 RX0 yX0_allNodes wsX0_allNodes) := goodIn_app (goodIn_of _ (by decide +kernel)) ggX0_switchBy_X0_allNodes
theorem dX0_switchBy_0 : decode cX0_switchBy 0 = .ok (.aload_n 0, 1) := by decide +kernel
theorem dX0_switchBy_1 : decode cX0_switchBy 1 = .ok (.invokevirtual 53, 3) := by decide +kernel
theorem dX0_switchBy_4 : decode cX0_switchBy 4 = .ok (.iload_n 1, 1) := by decide +kernel
theorem dX0_switchBy_5 : decode cX0_switchBy 5 = .ok (.iconst (-1), 1) := by decide +kernel
theorem dX0_switchBy_6 : decode cX0_switchBy 6 = .ok (.ixor, 1) := by decide +kernel
theorem dX0_switchBy_7 : decode cX0_switchBy 7 = .ok (.iand, 1) := by decide +kernel
theorem dX0_switchBy_8 : decode cX0_switchBy 8 = .ok (.istore_n 2, 1) := by decide +kernel
theorem dX0_switchBy_9 : decode cX0_switchBy 9 = .ok (.iconst 0, 1) := by decide +kernel
theorem dX0_switchBy_10 : decode cX0_switchBy 10 = .ok (.istore_n 3, 1) := by decide +kernel
theorem dX0_switchBy_11 : decode cX0_switchBy 11 = .ok (.iload_n 3, 1) := by decide +kernel
theorem dX0_switchBy_12 : decode cX0_switchBy 12 = .ok (.aload_n 0, 1) := by decide +kernel
theorem dX0_switchBy_13 : decode cX0_switchBy 13 = .ok (.getfield 9, 3) := by decide +kernel
theorem dX0_switchBy_16 : decode cX0_switchBy 16 = .ok (.if_icmp .ge 32, 3) := by decide +kernel
theorem dX0_switchBy_19 : decode cX0_switchBy 19 = .ok (.aload_n 0, 1) := by decide +kernel
theorem dX0_switchBy_20 : decode cX0_switchBy 20 = .ok (.getfield 15, 3) := by decide +kernel
theorem dX0_switchBy_23 : decode cX0_switchBy 23 = .ok (.iload_n 3, 1) := by decide +kernel
theorem dX0_switchBy_24 : decode cX0_switchBy 24 = .ok (.dup2, 1) := by decide +kernel
theorem dX0_switchBy_25 : decode cX0_switchBy 25 = .ok (.iaload, 1) := by decide +kernel
theorem dX0_switchBy_26 : decode cX0_switchBy 26 = .ok (.iload_n 1, 1) := by decide +kernel
theorem dX0_switchBy_27 : decode cX0_switchBy 27 = .ok (.iload_n 3, 1) := by decide +kernel
theorem dX0_switchBy_28 : decode cX0_switchBy 28 = .ok (.ishr, 1) := by decide +kernel
theorem dX0_switchBy_29 : decode cX0_switchBy 29 = .ok (.iconst 1, 1) := by decide +kernel
theorem dX0_switchBy_30 : decode cX0_switchBy 30 = .ok (.iand, 1) := by decide +kernel
theorem dX0_switchBy_31 : decode cX0_switchBy 31 = .ok (.iconst 1, 1) := by decide +kernel
theorem dX0_switchBy_32 : decode cX0_switchBy 32 = .ok (.if_icmp .ne 7, 3) := by decide +kernel
theorem dX0_switchBy_35 : decode cX0_switchBy 35 = .ok (.iload_n 2, 1) := by decide +kernel
theorem dX0_switchBy_36 : decode cX0_switchBy 36 = .ok (.goto 4, 3) := by decide +kernel
theorem dX0_switchBy_39 : decode cX0_switchBy 39 = .ok (.iload_n 1, 1) := by decide +kernel
theorem dX0_switchBy_40 : decode cX0_switchBy 40 = .ok (.ixor, 1) := by decide +kernel
theorem dX0_switchBy_41 : decode cX0_switchBy 41 = .ok (.iastore, 1) := by decide +kernel
theorem dX0_switchBy_42 : decode cX0_switchBy 42 = .ok (.iinc 3 1, 3) := by decide +kernel
theorem dX0_switchBy_45 : decode cX0_switchBy 45 = .ok (.goto (-34), 3) := by decide +kernel
theorem dX0_switchBy_48 : decode cX0_switchBy 48 = .ok (.return_, 1) := by decide +kernel
set_option maxRecDepth 20000 in
theorem ggX0_leaveAlone_X0_switchBy : GoodIn wsX0_leaveAlone wsX0_switchBy := goodIn_r _ [6, 7, 1, 8, 9, 10, 5, 11, 12, 13] (by decide +kernel) (by decide +kernel)
set_option maxRecDepth 20000 in
theorem gX0_leaveAlone_X0_switchBy : GoodIn wsX0_leaveAlone (wsV RX0 49 RX0 yX0_switchBy wsX0_switchBy) := goodIn_app (goodIn_of _ (by decide +kernel)) ggX0_leaveAlone_X0_switchBy
theorem dX0_leaveAlone_0 : decode cX0_leaveAlone 0 = .ok (.aload_n 0, 1) := by decide +kernel
theorem dX0_leaveAlone_1 : decode cX0_leaveAlone 1 = .ok (.aload_n 0, 1) := by decide +kernel
theorem dX0_leaveAlone_2 : decode cX0_leaveAlone 2 = .ok (.getfield 15, 3) := by decide +kernel
theorem dX0_leaveAlone_5 : decode cX0_leaveAlone 5 = .ok (.iload_n 1, 1) := by decide +kernel
theorem dX0_leaveAlone_6 : decode cX0_leaveAlone 6 = .ok (.iaload, 1) := by decide +kernel
theorem dX0_leaveAlone_7 : decode cX0_leaveAlone 7 = .ok (.invokevirtual 49, 3) := by decide +kernel
theorem dX0_leaveAlone_10 : decode cX0_leaveAlone 10 = .ok (.return_, 1) := by decide +kernel
theorem dX0_drop_0 : decode cX0_drop 0 = .ok (.iconst 1, 1) := by decide +kernel
theorem dX0_drop_1 : decode cX0_drop 1 = .ok (.iload_n 1, 1) := by decide +kernel
theorem dX0_drop_2 : decode cX0_drop 2 = .ok (.ishl, 1) := by decide +kernel
theorem dX0_drop_3 : decode cX0_drop 3 = .ok (.iconst 1, 1) := by decide +kernel
theorem dX0_drop_4 : decode cX0_drop 4 = .ok (.isub, 1) := by decide +kernel
theorem dX0_drop_5 : decode cX0_drop 5 = .ok (.istore_n 2, 1) := by decide +kernel
theorem dX0_drop_6 : decode cX0_drop 6 = .ok (.iload_n 1, 1) := by decide +kernel
theorem dX0_drop_7 : decode cX0_drop 7 = .ok (.istore_n 3, 1) := by decide +kernel
theorem dX0_drop_8 : decode cX0_drop 8 = .ok (.iload_n 3, 1) := by decide +kernel
theorem dX0_drop_9 : decode cX0_drop 9 = .ok (.aload_n 0, 1) := by decide +kernel
theorem dX0_drop_10 : decode cX0_drop 10 = .ok (.getfield 9, 3) := by decide +kernel
theorem dX0_drop_13 : decode cX0_drop 13 = .ok (.iconst 1, 1) := by decide +kernel
theorem dX0_drop_14 : decode cX0_drop 14 = .ok (.isub, 1) := by decide +kernel
theorem dX0_drop_15 : decode cX0_drop 15 = .ok (.if_icmp .ge 23, 3) := by decide +kernel
theorem dX0_drop_18 : decode cX0_drop 18 = .ok (.aload_n 0, 1) := by decide +kernel
theorem dX0_drop_19 : decode cX0_drop 19 = .ok (.getfield 15, 3) := by decide +kernel
theorem dX0_drop_22 : decode cX0_drop 22 = .ok (.iload_n 3, 1) := by decide +kernel
theorem dX0_drop_23 : decode cX0_drop 23 = .ok (.aload_n 0, 1) := by decide +kernel
theorem dX0_drop_24 : decode cX0_drop 24 = .ok (.getfield 15, 3) := by decide +kernel
theorem dX0_drop_27 : decode cX0_drop 27 = .ok (.iload_n 3, 1) := by decide +kernel
theorem dX0_drop_28 : decode cX0_drop 28 = .ok (.iconst 1, 1) := by decide +kernel
theorem dX0_drop_29 : decode cX0_drop 29 = .ok (.iadd, 1) := by decide +kernel
theorem dX0_drop_30 : decode cX0_drop 30 = .ok (.iaload, 1) := by decide +kernel
theorem dX0_drop_31 : decode cX0_drop 31 = .ok (.iastore, 1) := by decide +kernel
theorem dX0_drop_32 : decode cX0_drop 32 = .ok (.iinc 3 1, 3) := by decide +kernel
theorem dX0_drop_35 : decode cX0_drop 35 = .ok (.goto (-27), 3) := by decide +kernel
theorem dX0_drop_38 : decode cX0_drop 38 = .ok (.aload_n 0, 1) := by decide +kernel
theorem dX0_drop_39 : decode cX0_drop 39 = .ok (.dup, 1) := by decide +kernel
theorem dX0_drop_40 : decode cX0_drop 40 = .ok (.getfield 9, 3) := by decide +kernel
theorem dX0_drop_43 : decode cX0_drop 43 = .ok (.iconst 1, 1) := by decide +kernel
theorem dX0_drop_44 : decode cX0_drop 44 = .ok (.isub, 1) := by decide +kernel
theorem dX0_drop_45 : decode cX0_drop 45 = .ok (.putfield 9, 3) := by decide +kernel
theorem dX0_drop_48 : decode cX0_drop 48 = .ok (.iconst 0, 1) := by decide +kernel
theorem dX0_drop_49 : decode cX0_drop 49 = .ok (.istore_n 3, 1) := by decide +kernel
theorem dX0_drop_50 : decode cX0_drop 50 = .ok (.iload_n 3, 1) := by decide +kernel
theorem dX0_drop_51 : decode cX0_drop 51 = .ok (.aload_n 0, 1) := by decide +kernel
theorem dX0_drop_52 : decode cX0_drop 52 = .ok (.getfield 9, 3) := by decide +kernel
theorem dX0_drop_55 : decode cX0_drop 55 = .ok (.if_icmp .ge 36, 3) := by decide +kernel
theorem dX0_drop_58 : decode cX0_drop 58 = .ok (.aload_n 0, 1) := by decide +kernel
theorem dX0_drop_59 : decode cX0_drop 59 = .ok (.getfield 15, 3) := by decide +kernel
theorem dX0_drop_62 : decode cX0_drop 62 = .ok (.iload_n 3, 1) := by decide +kernel
theorem dX0_drop_63 : decode cX0_drop 63 = .ok (.aload_n 0, 1) := by decide +kernel
theorem dX0_drop_64 : decode cX0_drop 64 = .ok (.getfield 15, 3) := by decide +kernel
theorem dX0_drop_67 : decode cX0_drop 67 = .ok (.iload_n 3, 1) := by decide +kernel
theorem dX0_drop_68 : decode cX0_drop 68 = .ok (.iaload, 1) := by decide +kernel
theorem dX0_drop_69 : decode cX0_drop 69 = .ok (.iload_n 2, 1) := by decide +kernel
theorem dX0_drop_70 : decode cX0_drop 70 = .ok (.iand, 1) := by decide +kernel
theorem dX0_drop_71 : decode cX0_drop 71 = .ok (.aload_n 0, 1) := by decide +kernel
theorem dX0_drop_72 : decode cX0_drop 72 = .ok (.getfield 15, 3) := by decide +kernel
theorem dX0_drop_75 : decode cX0_drop 75 = .ok (.iload_n 3, 1) := by decide +kernel
theorem dX0_drop_76 : decode cX0_drop 76 = .ok (.iaload, 1) := by decide +kernel
theorem dX0_drop_77 : decode cX0_drop 77 = .ok (.iconst 1, 1) := by decide +kernel
theorem dX0_drop_78 : decode cX0_drop 78 = .ok (.ishr, 1) := by decide +kernel
theorem dX0_drop_79 : decode cX0_drop 79 = .ok (.iload_n 2, 1) := by decide +kernel
theorem dX0_drop_80 : decode cX0_drop 80 = .ok (.iconst (-1), 1) := by decide +kernel
theorem dX0_drop_81 : decode cX0_drop 81 = .ok (.ixor, 1) := by decide +kernel
theorem dX0_drop_82 : decode cX0_drop 82 = .ok (.iand, 1) := by decide +kernel
theorem dX0_drop_83 : decode cX0_drop 83 = .ok (.ior, 1) := by decide +kernel
theorem dX0_drop_84 : decode cX0_drop 84 = .ok (.iastore, 1) := by decide +kernel
theorem dX0_drop_85 : decode cX0_drop 85 = .ok (.iinc 3 1, 3) := by decide +kernel
theorem dX0_drop_88 : decode cX0_drop 88 = .ok (.goto (-38), 3) := by decide +kernel
theorem dX0_drop_91 : decode cX0_drop 91 = .ok (.return_, 1) := by decide +kernel
theorem dX0_allNodes_0 : decode cX0_allNodes 0 = .ok (.iconst 1, 1) := by decide +kernel
theorem dX0_allNodes_1 : decode cX0_allNodes 1 = .ok (.aload_n 0, 1) := by decide +kernel
theorem dX0_allNodes_2 : decode cX0_allNodes 2 = .ok (.getfield 9, 3) := by decide +kernel
theorem dX0_allNodes_5 : decode cX0_allNodes 5 = .ok (.ishl, 1) := by decide +kernel
theorem dX0_allNodes_6 : decode cX0_allNodes 6 = .ok (.iconst 1, 1) := by decide +kernel
theorem dX0_allNodes_7 : decode cX0_allNodes 7 = .ok (.isub, 1) := by decide +kernel
theorem dX0_allNodes_8 : decode cX0_allNodes 8 = .ok (.ireturn, 1) := by decide +kernel
set_option maxRecDepth 20000 in
theorem ggX0_number_X0_joined : GoodIn wsX0_number wsX0_joined := goodIn_r _ [6, 7, 8, 9] (by decide +kernel) (by decide +kernel)
set_option maxRecDepth 20000 in
theorem gX0_number_X0_joined : GoodIn wsX0_number (wsV RX0 57 RX0 yX0_joined wsX0_joined) := goodIn_app (goodIn_of _ (by decide +kernel)) ggX0_number_X0_joined
theorem dX0_number_0 : decode cX0_number 0 = .ok (.iconst 0, 1) := by decide +kernel
theorem dX0_number_1 : decode cX0_number 1 = .ok (.istore_n 1, 1) := by decide +kernel
theorem dX0_number_2 : decode cX0_number 2 = .ok (.iconst 0, 1) := by decide +kernel
theorem dX0_number_3 : decode cX0_number 3 = .ok (.istore_n 2, 1) := by decide +kernel
theorem dX0_number_4 : decode cX0_number 4 = .ok (.iload_n 2, 1) := by decide +kernel
theorem dX0_number_5 : decode cX0_number 5 = .ok (.aload_n 0, 1) := by decide +kernel
theorem dX0_number_6 : decode cX0_number 6 = .ok (.getfield 9, 3) := by decide +kernel
theorem dX0_number_9 : decode cX0_number 9 = .ok (.if_icmp .ge 38, 3) := by decide +kernel
theorem dX0_number_12 : decode cX0_number 12 = .ok (.iload_n 2, 1) := by decide +kernel
theorem dX0_number_13 : decode cX0_number 13 = .ok (.iconst 1, 1) := by decide +kernel
theorem dX0_number_14 : decode cX0_number 14 = .ok (.iadd, 1) := by decide +kernel
theorem dX0_number_15 : decode cX0_number 15 = .ok (.istore_n 3, 1) := by decide +kernel
theorem dX0_number_16 : decode cX0_number 16 = .ok (.iload_n 3, 1) := by decide +kernel
theorem dX0_number_17 : decode cX0_number 17 = .ok (.aload_n 0, 1) := by decide +kernel
theorem dX0_number_18 : decode cX0_number 18 = .ok (.getfield 9, 3) := by decide +kernel
theorem dX0_number_21 : decode cX0_number 21 = .ok (.if_icmp .ge 20, 3) := by decide +kernel
theorem dX0_number_24 : decode cX0_number 24 = .ok (.iload_n 1, 1) := by decide +kernel
theorem dX0_number_25 : decode cX0_number 25 = .ok (.iconst 1, 1) := by decide +kernel
theorem dX0_number_26 : decode cX0_number 26 = .ok (.ishl, 1) := by decide +kernel
theorem dX0_number_27 : decode cX0_number 27 = .ok (.aload_n 0, 1) := by decide +kernel
theorem dX0_number_28 : decode cX0_number 28 = .ok (.iload_n 2, 1) := by decide +kernel
theorem dX0_number_29 : decode cX0_number 29 = .ok (.iload_n 3, 1) := by decide +kernel
theorem dX0_number_30 : decode cX0_number 30 = .ok (.invokevirtual 57, 3) := by decide +kernel
theorem dX0_number_33 : decode cX0_number 33 = .ok (.ior, 1) := by decide +kernel
theorem dX0_number_34 : decode cX0_number 34 = .ok (.istore_n 1, 1) := by decide +kernel
theorem dX0_number_35 : decode cX0_number 35 = .ok (.iinc 3 1, 3) := by decide +kernel
theorem dX0_number_38 : decode cX0_number 38 = .ok (.goto (-22), 3) := by decide +kernel
theorem dX0_number_41 : decode cX0_number 41 = .ok (.iinc 2 1, 3) := by decide +kernel
theorem dX0_number_44 : decode cX0_number 44 = .ok (.goto (-40), 3) := by decide +kernel
theorem dX0_number_47 : decode cX0_number 47 = .ok (.iload_n 1, 1) := by decide +kernel
theorem dX0_number_48 : decode cX0_number 48 = .ok (.ireturn, 1) := by decide +kernel
theorem dX0_joined_0 : decode cX0_joined 0 = .ok (.aload_n 0, 1) := by decide +kernel
theorem dX0_joined_1 : decode cX0_joined 1 = .ok (.getfield 15, 3) := by decide +kernel
theorem dX0_joined_4 : decode cX0_joined 4 = .ok (.iload_n 1, 1) := by decide +kernel
theorem dX0_joined_5 : decode cX0_joined 5 = .ok (.iaload, 1) := by decide +kernel
theorem dX0_joined_6 : decode cX0_joined 6 = .ok (.iload_n 2, 1) := by decide +kernel
theorem dX0_joined_7 : decode cX0_joined 7 = .ok (.ishr, 1) := by decide +kernel
theorem dX0_joined_8 : decode cX0_joined 8 = .ok (.iconst 1, 1) := by decide +kernel
theorem dX0_joined_9 : decode cX0_joined 9 = .ok (.iand, 1) := by decide +kernel
theorem dX0_joined_10 : decode cX0_joined 10 = .ok (.ireturn, 1) := by decide +kernel
set_option maxRecDepth 20000 in
theorem ggX0_degree_J6_bitCount_0f7a4 : GoodIn wsX0_degree wsJ6_bitCount_0f7a4 := goodIn_r _ [5, 6, 7, 8] (by decide +kernel) (by decide +kernel)
set_option maxRecDepth 20000 in
theorem gX0_degree_J6_bitCount_0f7a4 : GoodIn wsX0_degree (va_wsS RX0 61 yJ6_bitCount_0f7a4 wsJ6_bitCount_0f7a4) := goodIn_app (goodIn_of _ (by decide +kernel)) ggX0_degree_J6_bitCount_0f7a4
theorem dX0_degree_0 : decode cX0_degree 0 = .ok (.aload_n 0, 1) := by decide +kernel
theorem dX0_degree_1 : decode cX0_degree 1 = .ok (.getfield 15, 3) := by decide +kernel
theorem dX0_degree_4 : decode cX0_degree 4 = .ok (.iload_n 1, 1) := by decide +kernel
theorem dX0_degree_5 : decode cX0_degree 5 = .ok (.iaload, 1) := by decide +kernel
theorem dX0_degree_6 : decode cX0_degree 6 = .ok (.invokestatic 61, 3) := by decide +kernel
theorem dX0_degree_9 : decode cX0_degree 9 = .ok (.ireturn, 1) := by decide +kernel
set_option maxRecDepth 20000 in
theorem ggX0_shared_J6_bitCount_0f7a4 : GoodIn wsX0_shared wsJ6_bitCount_0f7a4 := goodIn_r _ [5, 6, 7, 8] (by decide +kernel) (by decide +kernel)
set_option maxRecDepth 20000 in
theorem gX0_shared_J6_bitCount_0f7a4 : GoodIn wsX0_shared (va_wsS RX0 61 yJ6_bitCount_0f7a4 wsJ6_bitCount_0f7a4) := goodIn_app (goodIn_of _ (by decide +kernel)) ggX0_shared_J6_bitCount_0f7a4
theorem dX0_shared_0 : decode cX0_shared 0 = .ok (.aload_n 0, 1) := by decide +kernel
theorem dX0_shared_1 : decode cX0_shared 1 = .ok (.getfield 15, 3) := by decide +kernel
theorem dX0_shared_4 : decode cX0_shared 4 = .ok (.iload_n 1, 1) := by decide +kernel
theorem dX0_shared_5 : decode cX0_shared 5 = .ok (.iaload, 1) := by decide +kernel
theorem dX0_shared_6 : decode cX0_shared 6 = .ok (.aload_n 0, 1) := by decide +kernel
theorem dX0_shared_7 : decode cX0_shared 7 = .ok (.getfield 15, 3) := by decide +kernel
theorem dX0_shared_10 : decode cX0_shared 10 = .ok (.iload_n 2, 1) := by decide +kernel
theorem dX0_shared_11 : decode cX0_shared 11 = .ok (.iaload, 1) := by decide +kernel
theorem dX0_shared_12 : decode cX0_shared 12 = .ok (.iand, 1) := by decide +kernel
theorem dX0_shared_13 : decode cX0_shared 13 = .ok (.invokestatic 61, 3) := by decide +kernel
theorem dX0_shared_16 : decode cX0_shared 16 = .ok (.ireturn, 1) := by decide +kernel
set_option maxRecDepth 20000 in
theorem ggX0_joinedPairs_X0_degree : GoodIn wsX0_joinedPairs wsX0_degree := goodIn_r _ [6, 7, 8, 9, 10, 11, 12, 13, 14, 15, 16] (by decide +kernel) (by decide +kernel)
set_option maxRecDepth 20000 in
theorem gX0_joinedPairs_X0_degree : GoodIn wsX0_joinedPairs (wsV RX0 66 RX0 yX0_degree wsX0_degree) := goodIn_app (goodIn_of _ (by decide +kernel)) ggX0_joinedPairs_X0_degree
theorem dX0_joinedPairs_0 : decode cX0_joinedPairs 0 = .ok (.iconst 0, 1) := by decide +kernel
theorem dX0_joinedPairs_1 : decode cX0_joinedPairs 1 = .ok (.istore_n 1, 1) := by decide +kernel
theorem dX0_joinedPairs_2 : decode cX0_joinedPairs 2 = .ok (.iconst 0, 1) := by decide +kernel
theorem dX0_joinedPairs_3 : decode cX0_joinedPairs 3 = .ok (.istore_n 2, 1) := by decide +kernel
theorem dX0_joinedPairs_4 : decode cX0_joinedPairs 4 = .ok (.iload_n 2, 1) := by decide +kernel
theorem dX0_joinedPairs_5 : decode cX0_joinedPairs 5 = .ok (.aload_n 0, 1) := by decide +kernel
theorem dX0_joinedPairs_6 : decode cX0_joinedPairs 6 = .ok (.getfield 9, 3) := by decide +kernel
theorem dX0_joinedPairs_9 : decode cX0_joinedPairs 9 = .ok (.if_icmp .ge 17, 3) := by decide +kernel
theorem dX0_joinedPairs_12 : decode cX0_joinedPairs 12 = .ok (.iload_n 1, 1) := by decide +kernel
theorem dX0_joinedPairs_13 : decode cX0_joinedPairs 13 = .ok (.aload_n 0, 1) := by decide +kernel
theorem dX0_joinedPairs_14 : decode cX0_joinedPairs 14 = .ok (.iload_n 2, 1) := by decide +kernel
theorem dX0_joinedPairs_15 : decode cX0_joinedPairs 15 = .ok (.invokevirtual 66, 3) := by decide +kernel
theorem dX0_joinedPairs_18 : decode cX0_joinedPairs 18 = .ok (.iadd, 1) := by decide +kernel
theorem dX0_joinedPairs_19 : decode cX0_joinedPairs 19 = .ok (.istore_n 1, 1) := by decide +kernel
theorem dX0_joinedPairs_20 : decode cX0_joinedPairs 20 = .ok (.iinc 2 1, 3) := by decide +kernel
theorem dX0_joinedPairs_23 : decode cX0_joinedPairs 23 = .ok (.goto (-19), 3) := by decide +kernel
theorem dX0_joinedPairs_26 : decode cX0_joinedPairs 26 = .ok (.iload_n 1, 1) := by decide +kernel
theorem dX0_joinedPairs_27 : decode cX0_joinedPairs 27 = .ok (.iconst 2, 1) := by decide +kernel
theorem dX0_joinedPairs_28 : decode cX0_joinedPairs 28 = .ok (.idiv, 1) := by decide +kernel
theorem dX0_joinedPairs_29 : decode cX0_joinedPairs 29 = .ok (.ireturn, 1) := by decide +kernel
set_option maxRecDepth 20000 in
theorem ggX0_isOdd_X0_joined : GoodIn wsX0_isOdd wsX0_joined := goodIn_r _ [5, 6, 7, 8] (by decide +kernel) (by decide +kernel)
set_option maxRecDepth 20000 in
theorem gX0_isOdd_X0_joined : GoodIn wsX0_isOdd (wsV RX0 57 RX0 yX0_joined wsX0_joined) := goodIn_app (goodIn_of _ (by decide +kernel)) ggX0_isOdd_X0_joined
theorem dX0_isOdd_0 : decode cX0_isOdd 0 = .ok (.aload_n 0, 1) := by decide +kernel
theorem dX0_isOdd_1 : decode cX0_isOdd 1 = .ok (.iload_n 1, 1) := by decide +kernel
theorem dX0_isOdd_2 : decode cX0_isOdd 2 = .ok (.iload_n 2, 1) := by decide +kernel
theorem dX0_isOdd_3 : decode cX0_isOdd 3 = .ok (.invokevirtual 57, 3) := by decide +kernel
theorem dX0_isOdd_6 : decode cX0_isOdd 6 = .ok (.aload_n 0, 1) := by decide +kernel
theorem dX0_isOdd_7 : decode cX0_isOdd 7 = .ok (.iload_n 1, 1) := by decide +kernel
theorem dX0_isOdd_8 : decode cX0_isOdd 8 = .ok (.iload_n 3, 1) := by decide +kernel
theorem dX0_isOdd_9 : decode cX0_isOdd 9 = .ok (.invokevirtual 57, 3) := by decide +kernel
theorem dX0_isOdd_12 : decode cX0_isOdd 12 = .ok (.ixor, 1) := by decide +kernel
theorem dX0_isOdd_13 : decode cX0_isOdd 13 = .ok (.aload_n 0, 1) := by decide +kernel
theorem dX0_isOdd_14 : decode cX0_isOdd 14 = .ok (.iload_n 2, 1) := by decide +kernel
theorem dX0_isOdd_15 : decode cX0_isOdd 15 = .ok (.iload_n 3, 1) := by decide +kernel
theorem dX0_isOdd_16 : decode cX0_isOdd 16 = .ok (.invokevirtual 57, 3) := by decide +kernel
theorem dX0_isOdd_19 : decode cX0_isOdd 19 = .ok (.ixor, 1) := by decide +kernel
theorem dX0_isOdd_20 : decode cX0_isOdd 20 = .ok (.iconst 1, 1) := by decide +kernel
theorem dX0_isOdd_21 : decode cX0_isOdd 21 = .ok (.if_icmp .ne 7, 3) := by decide +kernel
theorem dX0_isOdd_24 : decode cX0_isOdd 24 = .ok (.iconst 1, 1) := by decide +kernel
theorem dX0_isOdd_25 : decode cX0_isOdd 25 = .ok (.goto 4, 3) := by decide +kernel
theorem dX0_isOdd_28 : decode cX0_isOdd 28 = .ok (.iconst 0, 1) := by decide +kernel
theorem dX0_isOdd_29 : decode cX0_isOdd 29 = .ok (.ireturn, 1) := by decide +kernel
set_option maxRecDepth 20000 in
theorem ggX0_oddTriplesAtPair_X0_joined : GoodIn wsX0_oddTriplesAtPair wsX0_joined := goodIn_r _ [6, 1, 19, 20] (by decide +kernel) (by decide +kernel)
set_option maxRecDepth 20000 in
theorem gX0_oddTriplesAtPair_X0_joined : GoodIn wsX0_oddTriplesAtPair (wsV RX0 57 RX0 yX0_joined wsX0_joined) := goodIn_app (goodIn_of _ (by decide +kernel)) ggX0_oddTriplesAtPair_X0_joined
set_option maxRecDepth 20000 in
theorem ggX0_oddTriplesAtPair_X0_allNodes : GoodIn wsX0_oddTriplesAtPair wsX0_allNodes := goodIn_r _ [10, 11, 19, 20] (by decide +kernel) (by decide +kernel)
set_option maxRecDepth 20000 in
theorem gX0_oddTriplesAtPair_X0_allNodes : GoodIn wsX0_oddTriplesAtPair (wsV RX0 53 RX0 yX0_allNodes wsX0_allNodes) := goodIn_app (goodIn_of _ (by decide +kernel)) ggX0_oddTriplesAtPair_X0_allNodes
set_option maxRecDepth 20000 in
theorem ggX0_oddTriplesAtPair_J6_bitCount_0f7a4 : GoodIn wsX0_oddTriplesAtPair wsJ6_bitCount_0f7a4 := goodIn_r _ [15, 16, 17, 18] (by decide +kernel) (by decide +kernel)
set_option maxRecDepth 20000 in
theorem gX0_oddTriplesAtPair_J6_bitCount_0f7a4 : GoodIn wsX0_oddTriplesAtPair (va_wsS RX0 61 yJ6_bitCount_0f7a4 wsJ6_bitCount_0f7a4) := goodIn_app (goodIn_of _ (by decide +kernel)) ggX0_oddTriplesAtPair_J6_bitCount_0f7a4
theorem dX0_oddTriplesAtPair_0 : decode cX0_oddTriplesAtPair 0 = .ok (.aload_n 0, 1) := by decide +kernel
theorem dX0_oddTriplesAtPair_1 : decode cX0_oddTriplesAtPair 1 = .ok (.getfield 15, 3) := by decide +kernel
theorem dX0_oddTriplesAtPair_4 : decode cX0_oddTriplesAtPair 4 = .ok (.iload_n 1, 1) := by decide +kernel
theorem dX0_oddTriplesAtPair_5 : decode cX0_oddTriplesAtPair 5 = .ok (.iaload, 1) := by decide +kernel
theorem dX0_oddTriplesAtPair_6 : decode cX0_oddTriplesAtPair 6 = .ok (.aload_n 0, 1) := by decide +kernel
theorem dX0_oddTriplesAtPair_7 : decode cX0_oddTriplesAtPair 7 = .ok (.getfield 15, 3) := by decide +kernel
theorem dX0_oddTriplesAtPair_10 : decode cX0_oddTriplesAtPair 10 = .ok (.iload_n 2, 1) := by decide +kernel
theorem dX0_oddTriplesAtPair_11 : decode cX0_oddTriplesAtPair 11 = .ok (.iaload, 1) := by decide +kernel
theorem dX0_oddTriplesAtPair_12 : decode cX0_oddTriplesAtPair 12 = .ok (.ixor, 1) := by decide +kernel
theorem dX0_oddTriplesAtPair_13 : decode cX0_oddTriplesAtPair 13 = .ok (.istore_n 3, 1) := by decide +kernel
theorem dX0_oddTriplesAtPair_14 : decode cX0_oddTriplesAtPair 14 = .ok (.aload_n 0, 1) := by decide +kernel
theorem dX0_oddTriplesAtPair_15 : decode cX0_oddTriplesAtPair 15 = .ok (.iload_n 1, 1) := by decide +kernel
theorem dX0_oddTriplesAtPair_16 : decode cX0_oddTriplesAtPair 16 = .ok (.iload_n 2, 1) := by decide +kernel
theorem dX0_oddTriplesAtPair_17 : decode cX0_oddTriplesAtPair 17 = .ok (.invokevirtual 57, 3) := by decide +kernel
theorem dX0_oddTriplesAtPair_20 : decode cX0_oddTriplesAtPair 20 = .ok (.iconst 1, 1) := by decide +kernel
theorem dX0_oddTriplesAtPair_21 : decode cX0_oddTriplesAtPair 21 = .ok (.if_icmp .ne 7, 3) := by decide +kernel
theorem dX0_oddTriplesAtPair_24 : decode cX0_oddTriplesAtPair 24 = .ok (.iload_n 3, 1) := by decide +kernel
theorem dX0_oddTriplesAtPair_25 : decode cX0_oddTriplesAtPair 25 = .ok (.iconst (-1), 1) := by decide +kernel
theorem dX0_oddTriplesAtPair_26 : decode cX0_oddTriplesAtPair 26 = .ok (.ixor, 1) := by decide +kernel
theorem dX0_oddTriplesAtPair_27 : decode cX0_oddTriplesAtPair 27 = .ok (.istore_n 3, 1) := by decide +kernel
theorem dX0_oddTriplesAtPair_28 : decode cX0_oddTriplesAtPair 28 = .ok (.iload_n 3, 1) := by decide +kernel
theorem dX0_oddTriplesAtPair_29 : decode cX0_oddTriplesAtPair 29 = .ok (.aload_n 0, 1) := by decide +kernel
theorem dX0_oddTriplesAtPair_30 : decode cX0_oddTriplesAtPair 30 = .ok (.invokevirtual 53, 3) := by decide +kernel
theorem dX0_oddTriplesAtPair_33 : decode cX0_oddTriplesAtPair 33 = .ok (.iand, 1) := by decide +kernel
theorem dX0_oddTriplesAtPair_34 : decode cX0_oddTriplesAtPair 34 = .ok (.iconst 1, 1) := by decide +kernel
theorem dX0_oddTriplesAtPair_35 : decode cX0_oddTriplesAtPair 35 = .ok (.iload_n 1, 1) := by decide +kernel
theorem dX0_oddTriplesAtPair_36 : decode cX0_oddTriplesAtPair 36 = .ok (.ishl, 1) := by decide +kernel
theorem dX0_oddTriplesAtPair_37 : decode cX0_oddTriplesAtPair 37 = .ok (.iconst 1, 1) := by decide +kernel
theorem dX0_oddTriplesAtPair_38 : decode cX0_oddTriplesAtPair 38 = .ok (.iload_n 2, 1) := by decide +kernel
theorem dX0_oddTriplesAtPair_39 : decode cX0_oddTriplesAtPair 39 = .ok (.ishl, 1) := by decide +kernel
theorem dX0_oddTriplesAtPair_40 : decode cX0_oddTriplesAtPair 40 = .ok (.ior, 1) := by decide +kernel
theorem dX0_oddTriplesAtPair_41 : decode cX0_oddTriplesAtPair 41 = .ok (.iconst (-1), 1) := by decide +kernel
theorem dX0_oddTriplesAtPair_42 : decode cX0_oddTriplesAtPair 42 = .ok (.ixor, 1) := by decide +kernel
theorem dX0_oddTriplesAtPair_43 : decode cX0_oddTriplesAtPair 43 = .ok (.iand, 1) := by decide +kernel
theorem dX0_oddTriplesAtPair_44 : decode cX0_oddTriplesAtPair 44 = .ok (.invokestatic 61, 3) := by decide +kernel
theorem dX0_oddTriplesAtPair_47 : decode cX0_oddTriplesAtPair 47 = .ok (.ireturn, 1) := by decide +kernel
set_option maxRecDepth 20000 in
theorem ggX0_oddTriplesAtNode_X0_oddTriplesAtPair : GoodIn wsX0_oddTriplesAtNode wsX0_oddTriplesAtPair := goodIn_r _ [6, 7, 8, 9, 10, 5, 11, 12, 13, 14, 15, 1, 16, 17, 18, 19, 20, 21, 22, 23, 24] (by decide +kernel) (by decide +kernel)
set_option maxRecDepth 20000 in
theorem gX0_oddTriplesAtNode_X0_oddTriplesAtPair : GoodIn wsX0_oddTriplesAtNode (wsV RX0 69 RX0 yX0_oddTriplesAtPair wsX0_oddTriplesAtPair) := goodIn_app (goodIn_of _ (by decide +kernel)) ggX0_oddTriplesAtNode_X0_oddTriplesAtPair
theorem dX0_oddTriplesAtNode_0 : decode cX0_oddTriplesAtNode 0 = .ok (.iconst 0, 1) := by decide +kernel
theorem dX0_oddTriplesAtNode_1 : decode cX0_oddTriplesAtNode 1 = .ok (.istore_n 2, 1) := by decide +kernel
theorem dX0_oddTriplesAtNode_2 : decode cX0_oddTriplesAtNode 2 = .ok (.iconst 0, 1) := by decide +kernel
theorem dX0_oddTriplesAtNode_3 : decode cX0_oddTriplesAtNode 3 = .ok (.istore_n 3, 1) := by decide +kernel
theorem dX0_oddTriplesAtNode_4 : decode cX0_oddTriplesAtNode 4 = .ok (.iload_n 3, 1) := by decide +kernel
theorem dX0_oddTriplesAtNode_5 : decode cX0_oddTriplesAtNode 5 = .ok (.aload_n 0, 1) := by decide +kernel
theorem dX0_oddTriplesAtNode_6 : decode cX0_oddTriplesAtNode 6 = .ok (.getfield 9, 3) := by decide +kernel
theorem dX0_oddTriplesAtNode_9 : decode cX0_oddTriplesAtNode 9 = .ok (.if_icmp .ge 23, 3) := by decide +kernel
theorem dX0_oddTriplesAtNode_12 : decode cX0_oddTriplesAtNode 12 = .ok (.iload_n 3, 1) := by decide +kernel
theorem dX0_oddTriplesAtNode_13 : decode cX0_oddTriplesAtNode 13 = .ok (.iload_n 1, 1) := by decide +kernel
theorem dX0_oddTriplesAtNode_14 : decode cX0_oddTriplesAtNode 14 = .ok (.if_icmp .eq 12, 3) := by decide +kernel
theorem dX0_oddTriplesAtNode_17 : decode cX0_oddTriplesAtNode 17 = .ok (.iload_n 2, 1) := by decide +kernel
theorem dX0_oddTriplesAtNode_18 : decode cX0_oddTriplesAtNode 18 = .ok (.aload_n 0, 1) := by decide +kernel
theorem dX0_oddTriplesAtNode_19 : decode cX0_oddTriplesAtNode 19 = .ok (.iload_n 1, 1) := by decide +kernel
theorem dX0_oddTriplesAtNode_20 : decode cX0_oddTriplesAtNode 20 = .ok (.iload_n 3, 1) := by decide +kernel
theorem dX0_oddTriplesAtNode_21 : decode cX0_oddTriplesAtNode 21 = .ok (.invokevirtual 69, 3) := by decide +kernel
theorem dX0_oddTriplesAtNode_24 : decode cX0_oddTriplesAtNode 24 = .ok (.iadd, 1) := by decide +kernel
theorem dX0_oddTriplesAtNode_25 : decode cX0_oddTriplesAtNode 25 = .ok (.istore_n 2, 1) := by decide +kernel
theorem dX0_oddTriplesAtNode_26 : decode cX0_oddTriplesAtNode 26 = .ok (.iinc 3 1, 3) := by decide +kernel
theorem dX0_oddTriplesAtNode_29 : decode cX0_oddTriplesAtNode 29 = .ok (.goto (-25), 3) := by decide +kernel
theorem dX0_oddTriplesAtNode_32 : decode cX0_oddTriplesAtNode 32 = .ok (.iload_n 2, 1) := by decide +kernel
theorem dX0_oddTriplesAtNode_33 : decode cX0_oddTriplesAtNode 33 = .ok (.iconst 2, 1) := by decide +kernel
theorem dX0_oddTriplesAtNode_34 : decode cX0_oddTriplesAtNode 34 = .ok (.idiv, 1) := by decide +kernel
theorem dX0_oddTriplesAtNode_35 : decode cX0_oddTriplesAtNode 35 = .ok (.ireturn, 1) := by decide +kernel
set_option maxRecDepth 20000 in
theorem ggX0_oddTriples_X0_oddTriplesAtNode : GoodIn wsX0_oddTriples wsX0_oddTriplesAtNode := goodIn_r _ [6, 1, 7, 8, 9, 5, 10, 11, 12, 13, 14, 15, 16, 17, 18, 19, 20, 21, 22, 23, 24, 25, 26, 27, 28] (by decide +kernel) (by decide +kernel)
set_option maxRecDepth 20000 in
theorem gX0_oddTriples_X0_oddTriplesAtNode : GoodIn wsX0_oddTriples (wsV RX0 72 RX0 yX0_oddTriplesAtNode wsX0_oddTriplesAtNode) := goodIn_app (goodIn_of _ (by decide +kernel)) ggX0_oddTriples_X0_oddTriplesAtNode
theorem dX0_oddTriples_0 : decode cX0_oddTriples 0 = .ok (.iconst 0, 1) := by decide +kernel
theorem dX0_oddTriples_1 : decode cX0_oddTriples 1 = .ok (.istore_n 1, 1) := by decide +kernel
theorem dX0_oddTriples_2 : decode cX0_oddTriples 2 = .ok (.iconst 0, 1) := by decide +kernel
theorem dX0_oddTriples_3 : decode cX0_oddTriples 3 = .ok (.istore_n 2, 1) := by decide +kernel
theorem dX0_oddTriples_4 : decode cX0_oddTriples 4 = .ok (.iload_n 2, 1) := by decide +kernel
theorem dX0_oddTriples_5 : decode cX0_oddTriples 5 = .ok (.aload_n 0, 1) := by decide +kernel
theorem dX0_oddTriples_6 : decode cX0_oddTriples 6 = .ok (.getfield 9, 3) := by decide +kernel
theorem dX0_oddTriples_9 : decode cX0_oddTriples 9 = .ok (.if_icmp .ge 17, 3) := by decide +kernel
theorem dX0_oddTriples_12 : decode cX0_oddTriples 12 = .ok (.iload_n 1, 1) := by decide +kernel
theorem dX0_oddTriples_13 : decode cX0_oddTriples 13 = .ok (.aload_n 0, 1) := by decide +kernel
theorem dX0_oddTriples_14 : decode cX0_oddTriples 14 = .ok (.iload_n 2, 1) := by decide +kernel
theorem dX0_oddTriples_15 : decode cX0_oddTriples 15 = .ok (.invokevirtual 72, 3) := by decide +kernel
theorem dX0_oddTriples_18 : decode cX0_oddTriples 18 = .ok (.iadd, 1) := by decide +kernel
theorem dX0_oddTriples_19 : decode cX0_oddTriples 19 = .ok (.istore_n 1, 1) := by decide +kernel
theorem dX0_oddTriples_20 : decode cX0_oddTriples 20 = .ok (.iinc 2 1, 3) := by decide +kernel
theorem dX0_oddTriples_23 : decode cX0_oddTriples 23 = .ok (.goto (-19), 3) := by decide +kernel
theorem dX0_oddTriples_26 : decode cX0_oddTriples 26 = .ok (.iload_n 1, 1) := by decide +kernel
theorem dX0_oddTriples_27 : decode cX0_oddTriples 27 = .ok (.iconst 3, 1) := by decide +kernel
theorem dX0_oddTriples_28 : decode cX0_oddTriples 28 = .ok (.idiv, 1) := by decide +kernel
theorem dX0_oddTriples_29 : decode cX0_oddTriples 29 = .ok (.ireturn, 1) := by decide +kernel
set_option maxRecDepth 20000 in
theorem ggX0_oddTriplesOfEachPair_X0_oddTriplesAtPair : GoodIn wsX0_oddTriplesOfEachPair wsX0_oddTriplesAtPair := goodIn_r _ [6, 7, 8, 9, 10, 5, 11, 12, 13, 14, 15, 1, 16, 17, 18, 19, 20, 21, 22, 23, 24] (by decide +kernel) (by decide +kernel)
set_option maxRecDepth 20000 in
theorem gX0_oddTriplesOfEachPair_X0_oddTriplesAtPair : GoodIn wsX0_oddTriplesOfEachPair (wsV RX0 69 RX0 yX0_oddTriplesAtPair wsX0_oddTriplesAtPair) := goodIn_app (goodIn_of _ (by decide +kernel)) ggX0_oddTriplesOfEachPair_X0_oddTriplesAtPair
theorem dX0_oddTriplesOfEachPair_0 : decode cX0_oddTriplesOfEachPair 0 = .ok (.aload_n 0, 1) := by decide +kernel
theorem dX0_oddTriplesOfEachPair_1 : decode cX0_oddTriplesOfEachPair 1 = .ok (.iconst 0, 1) := by decide +kernel
theorem dX0_oddTriplesOfEachPair_2 : decode cX0_oddTriplesOfEachPair 2 = .ok (.iconst 1, 1) := by decide +kernel
theorem dX0_oddTriplesOfEachPair_3 : decode cX0_oddTriplesOfEachPair 3 = .ok (.invokevirtual 69, 3) := by decide +kernel
theorem dX0_oddTriplesOfEachPair_6 : decode cX0_oddTriplesOfEachPair 6 = .ok (.istore_n 1, 1) := by decide +kernel
theorem dX0_oddTriplesOfEachPair_7 : decode cX0_oddTriplesOfEachPair 7 = .ok (.iconst 0, 1) := by decide +kernel
theorem dX0_oddTriplesOfEachPair_8 : decode cX0_oddTriplesOfEachPair 8 = .ok (.istore_n 2, 1) := by decide +kernel
theorem dX0_oddTriplesOfEachPair_9 : decode cX0_oddTriplesOfEachPair 9 = .ok (.iload_n 2, 1) := by decide +kernel
theorem dX0_oddTriplesOfEachPair_10 : decode cX0_oddTriplesOfEachPair 10 = .ok (.aload_n 0, 1) := by decide +kernel
theorem dX0_oddTriplesOfEachPair_11 : decode cX0_oddTriplesOfEachPair 11 = .ok (.getfield 9, 3) := by decide +kernel
theorem dX0_oddTriplesOfEachPair_14 : decode cX0_oddTriplesOfEachPair 14 = .ok (.if_icmp .ge 40, 3) := by decide +kernel
theorem dX0_oddTriplesOfEachPair_17 : decode cX0_oddTriplesOfEachPair 17 = .ok (.iload_n 2, 1) := by decide +kernel
theorem dX0_oddTriplesOfEachPair_18 : decode cX0_oddTriplesOfEachPair 18 = .ok (.iconst 1, 1) := by decide +kernel
theorem dX0_oddTriplesOfEachPair_19 : decode cX0_oddTriplesOfEachPair 19 = .ok (.iadd, 1) := by decide +kernel
theorem dX0_oddTriplesOfEachPair_20 : decode cX0_oddTriplesOfEachPair 20 = .ok (.istore_n 3, 1) := by decide +kernel
theorem dX0_oddTriplesOfEachPair_21 : decode cX0_oddTriplesOfEachPair 21 = .ok (.iload_n 3, 1) := by decide +kernel
theorem dX0_oddTriplesOfEachPair_22 : decode cX0_oddTriplesOfEachPair 22 = .ok (.aload_n 0, 1) := by decide +kernel
theorem dX0_oddTriplesOfEachPair_23 : decode cX0_oddTriplesOfEachPair 23 = .ok (.getfield 9, 3) := by decide +kernel
theorem dX0_oddTriplesOfEachPair_26 : decode cX0_oddTriplesOfEachPair 26 = .ok (.if_icmp .ge 22, 3) := by decide +kernel
theorem dX0_oddTriplesOfEachPair_29 : decode cX0_oddTriplesOfEachPair 29 = .ok (.aload_n 0, 1) := by decide +kernel
theorem dX0_oddTriplesOfEachPair_30 : decode cX0_oddTriplesOfEachPair 30 = .ok (.iload_n 2, 1) := by decide +kernel
theorem dX0_oddTriplesOfEachPair_31 : decode cX0_oddTriplesOfEachPair 31 = .ok (.iload_n 3, 1) := by decide +kernel
theorem dX0_oddTriplesOfEachPair_32 : decode cX0_oddTriplesOfEachPair 32 = .ok (.invokevirtual 69, 3) := by decide +kernel
theorem dX0_oddTriplesOfEachPair_35 : decode cX0_oddTriplesOfEachPair 35 = .ok (.iload_n 1, 1) := by decide +kernel
theorem dX0_oddTriplesOfEachPair_36 : decode cX0_oddTriplesOfEachPair 36 = .ok (.if_icmp .eq 6, 3) := by decide +kernel
theorem dX0_oddTriplesOfEachPair_39 : decode cX0_oddTriplesOfEachPair 39 = .ok (.bipush (-6), 2) := by decide +kernel
theorem dX0_oddTriplesOfEachPair_41 : decode cX0_oddTriplesOfEachPair 41 = .ok (.ireturn, 1) := by decide +kernel
theorem dX0_oddTriplesOfEachPair_42 : decode cX0_oddTriplesOfEachPair 42 = .ok (.iinc 3 1, 3) := by decide +kernel
theorem dX0_oddTriplesOfEachPair_45 : decode cX0_oddTriplesOfEachPair 45 = .ok (.goto (-24), 3) := by decide +kernel
theorem dX0_oddTriplesOfEachPair_48 : decode cX0_oddTriplesOfEachPair 48 = .ok (.iinc 2 1, 3) := by decide +kernel
theorem dX0_oddTriplesOfEachPair_51 : decode cX0_oddTriplesOfEachPair 51 = .ok (.goto (-42), 3) := by decide +kernel
theorem dX0_oddTriplesOfEachPair_54 : decode cX0_oddTriplesOfEachPair 54 = .ok (.iload_n 1, 1) := by decide +kernel
theorem dX0_oddTriplesOfEachPair_55 : decode cX0_oddTriplesOfEachPair 55 = .ok (.ireturn, 1) := by decide +kernel
set_option maxRecDepth 20000 in
theorem ggX0_oddDegrees_X0_degree : GoodIn wsX0_oddDegrees wsX0_degree := goodIn_r _ [6, 7, 8, 9, 10, 11, 12, 13, 14, 15, 16] (by decide +kernel) (by decide +kernel)
set_option maxRecDepth 20000 in
theorem gX0_oddDegrees_X0_degree : GoodIn wsX0_oddDegrees (wsV RX0 66 RX0 yX0_degree wsX0_degree) := goodIn_app (goodIn_of _ (by decide +kernel)) ggX0_oddDegrees_X0_degree
theorem dX0_oddDegrees_0 : decode cX0_oddDegrees 0 = .ok (.iconst 0, 1) := by decide +kernel
theorem dX0_oddDegrees_1 : decode cX0_oddDegrees 1 = .ok (.istore_n 1, 1) := by decide +kernel
theorem dX0_oddDegrees_2 : decode cX0_oddDegrees 2 = .ok (.iconst 0, 1) := by decide +kernel
theorem dX0_oddDegrees_3 : decode cX0_oddDegrees 3 = .ok (.istore_n 2, 1) := by decide +kernel
theorem dX0_oddDegrees_4 : decode cX0_oddDegrees 4 = .ok (.iload_n 2, 1) := by decide +kernel
theorem dX0_oddDegrees_5 : decode cX0_oddDegrees 5 = .ok (.aload_n 0, 1) := by decide +kernel
theorem dX0_oddDegrees_6 : decode cX0_oddDegrees 6 = .ok (.getfield 9, 3) := by decide +kernel
theorem dX0_oddDegrees_9 : decode cX0_oddDegrees 9 = .ok (.if_icmp .ge 21, 3) := by decide +kernel
theorem dX0_oddDegrees_12 : decode cX0_oddDegrees 12 = .ok (.iload_n 1, 1) := by decide +kernel
theorem dX0_oddDegrees_13 : decode cX0_oddDegrees 13 = .ok (.aload_n 0, 1) := by decide +kernel
theorem dX0_oddDegrees_14 : decode cX0_oddDegrees 14 = .ok (.iload_n 2, 1) := by decide +kernel
theorem dX0_oddDegrees_15 : decode cX0_oddDegrees 15 = .ok (.invokevirtual 66, 3) := by decide +kernel
theorem dX0_oddDegrees_18 : decode cX0_oddDegrees 18 = .ok (.iconst 1, 1) := by decide +kernel
theorem dX0_oddDegrees_19 : decode cX0_oddDegrees 19 = .ok (.iand, 1) := by decide +kernel
theorem dX0_oddDegrees_20 : decode cX0_oddDegrees 20 = .ok (.iload_n 2, 1) := by decide +kernel
theorem dX0_oddDegrees_21 : decode cX0_oddDegrees 21 = .ok (.ishl, 1) := by decide +kernel
theorem dX0_oddDegrees_22 : decode cX0_oddDegrees 22 = .ok (.ior, 1) := by decide +kernel
theorem dX0_oddDegrees_23 : decode cX0_oddDegrees 23 = .ok (.istore_n 1, 1) := by decide +kernel
theorem dX0_oddDegrees_24 : decode cX0_oddDegrees 24 = .ok (.iinc 2 1, 3) := by decide +kernel
theorem dX0_oddDegrees_27 : decode cX0_oddDegrees 27 = .ok (.goto (-23), 3) := by decide +kernel
theorem dX0_oddDegrees_30 : decode cX0_oddDegrees 30 = .ok (.iload_n 1, 1) := by decide +kernel
theorem dX0_oddDegrees_31 : decode cX0_oddDegrees 31 = .ok (.ireturn, 1) := by decide +kernel
set_option maxRecDepth 20000 in
theorem ggX0_eachDegreeIs_X0_oddDegrees : GoodIn wsX0_eachDegreeIs wsX0_oddDegrees := goodIn_r _ [6, 1, 7, 8, 9, 5, 10, 11, 12, 13, 14, 15, 16, 17, 18, 19, 20] (by decide +kernel) (by decide +kernel)
set_option maxRecDepth 20000 in
theorem gX0_eachDegreeIs_X0_oddDegrees : GoodIn wsX0_eachDegreeIs (wsV RX0 75 RX0 yX0_oddDegrees wsX0_oddDegrees) := goodIn_app (goodIn_of _ (by decide +kernel)) ggX0_eachDegreeIs_X0_oddDegrees
set_option maxRecDepth 20000 in
theorem ggX0_eachDegreeIs_X0_degree : GoodIn wsX0_eachDegreeIs wsX0_degree := goodIn_r _ [10, 11, 12, 13, 14, 15, 16, 17, 18, 19, 20] (by decide +kernel) (by decide +kernel)
set_option maxRecDepth 20000 in
theorem gX0_eachDegreeIs_X0_degree : GoodIn wsX0_eachDegreeIs (wsV RX0 66 RX0 yX0_degree wsX0_degree) := goodIn_app (goodIn_of _ (by decide +kernel)) ggX0_eachDegreeIs_X0_degree
theorem dX0_eachDegreeIs_0 : decode cX0_eachDegreeIs 0 = .ok (.iload_n 1, 1) := by decide +kernel
theorem dX0_eachDegreeIs_1 : decode cX0_eachDegreeIs 1 = .ok (.iconst (-1), 1) := by decide +kernel
theorem dX0_eachDegreeIs_2 : decode cX0_eachDegreeIs 2 = .ok (.if_icmp .ne 16, 3) := by decide +kernel
theorem dX0_eachDegreeIs_5 : decode cX0_eachDegreeIs 5 = .ok (.aload_n 0, 1) := by decide +kernel
theorem dX0_eachDegreeIs_6 : decode cX0_eachDegreeIs 6 = .ok (.invokevirtual 75, 3) := by decide +kernel
theorem dX0_eachDegreeIs_9 : decode cX0_eachDegreeIs 9 = .ok (.ifCond .ne 7, 3) := by decide +kernel
theorem dX0_eachDegreeIs_12 : decode cX0_eachDegreeIs 12 = .ok (.iconst 1, 1) := by decide +kernel
theorem dX0_eachDegreeIs_13 : decode cX0_eachDegreeIs 13 = .ok (.goto 4, 3) := by decide +kernel
theorem dX0_eachDegreeIs_16 : decode cX0_eachDegreeIs 16 = .ok (.iconst 0, 1) := by decide +kernel
theorem dX0_eachDegreeIs_17 : decode cX0_eachDegreeIs 17 = .ok (.ireturn, 1) := by decide +kernel
theorem dX0_eachDegreeIs_18 : decode cX0_eachDegreeIs 18 = .ok (.iconst 0, 1) := by decide +kernel
theorem dX0_eachDegreeIs_19 : decode cX0_eachDegreeIs 19 = .ok (.istore_n 2, 1) := by decide +kernel
theorem dX0_eachDegreeIs_20 : decode cX0_eachDegreeIs 20 = .ok (.iload_n 2, 1) := by decide +kernel
theorem dX0_eachDegreeIs_21 : decode cX0_eachDegreeIs 21 = .ok (.aload_n 0, 1) := by decide +kernel
theorem dX0_eachDegreeIs_22 : decode cX0_eachDegreeIs 22 = .ok (.getfield 9, 3) := by decide +kernel
theorem dX0_eachDegreeIs_25 : decode cX0_eachDegreeIs 25 = .ok (.if_icmp .ge 20, 3) := by decide +kernel
theorem dX0_eachDegreeIs_28 : decode cX0_eachDegreeIs 28 = .ok (.aload_n 0, 1) := by decide +kernel
theorem dX0_eachDegreeIs_29 : decode cX0_eachDegreeIs 29 = .ok (.iload_n 2, 1) := by decide +kernel
theorem dX0_eachDegreeIs_30 : decode cX0_eachDegreeIs 30 = .ok (.invokevirtual 66, 3) := by decide +kernel
theorem dX0_eachDegreeIs_33 : decode cX0_eachDegreeIs 33 = .ok (.iload_n 1, 1) := by decide +kernel
theorem dX0_eachDegreeIs_34 : decode cX0_eachDegreeIs 34 = .ok (.if_icmp .eq 5, 3) := by decide +kernel
theorem dX0_eachDegreeIs_37 : decode cX0_eachDegreeIs 37 = .ok (.iconst 0, 1) := by decide +kernel
theorem dX0_eachDegreeIs_38 : decode cX0_eachDegreeIs 38 = .ok (.ireturn, 1) := by decide +kernel
theorem dX0_eachDegreeIs_39 : decode cX0_eachDegreeIs 39 = .ok (.iinc 2 1, 3) := by decide +kernel
theorem dX0_eachDegreeIs_42 : decode cX0_eachDegreeIs 42 = .ok (.goto (-22), 3) := by decide +kernel
theorem dX0_eachDegreeIs_45 : decode cX0_eachDegreeIs 45 = .ok (.iconst 1, 1) := by decide +kernel
theorem dX0_eachDegreeIs_46 : decode cX0_eachDegreeIs 46 = .ok (.ireturn, 1) := by decide +kernel
set_option maxRecDepth 20000 in
theorem ggX0_isStrong_X0_eachPairSharesAlike : GoodIn wsX0_isStrong wsX0_eachPairSharesAlike := goodIn_r _ [5, 6, 7, 8, 9, 4, 10, 11, 12, 13, 14, 15, 16, 17, 18, 19, 20, 21, 22, 23, 24] (by decide +kernel) (by decide +kernel)
set_option maxRecDepth 20000 in
theorem gX0_isStrong_X0_eachPairSharesAlike : GoodIn wsX0_isStrong (wsV RX0 78 RX0 yX0_eachPairSharesAlike wsX0_eachPairSharesAlike) := goodIn_app (goodIn_of _ (by decide +kernel)) ggX0_isStrong_X0_eachPairSharesAlike
theorem dX0_isStrong_0 : decode cX0_isStrong 0 = .ok (.aload_n 0, 1) := by decide +kernel
theorem dX0_isStrong_1 : decode cX0_isStrong 1 = .ok (.iconst 1, 1) := by decide +kernel
theorem dX0_isStrong_2 : decode cX0_isStrong 2 = .ok (.invokevirtual 78, 3) := by decide +kernel
theorem dX0_isStrong_5 : decode cX0_isStrong 5 = .ok (.ifCond .eq 15, 3) := by decide +kernel
theorem dX0_isStrong_8 : decode cX0_isStrong 8 = .ok (.aload_n 0, 1) := by decide +kernel
theorem dX0_isStrong_9 : decode cX0_isStrong 9 = .ok (.iconst 0, 1) := by decide +kernel
theorem dX0_isStrong_10 : decode cX0_isStrong 10 = .ok (.invokevirtual 78, 3) := by decide +kernel
theorem dX0_isStrong_13 : decode cX0_isStrong 13 = .ok (.ifCond .eq 7, 3) := by decide +kernel
theorem dX0_isStrong_16 : decode cX0_isStrong 16 = .ok (.iconst 1, 1) := by decide +kernel
theorem dX0_isStrong_17 : decode cX0_isStrong 17 = .ok (.goto 4, 3) := by decide +kernel
theorem dX0_isStrong_20 : decode cX0_isStrong 20 = .ok (.iconst 0, 1) := by decide +kernel
theorem dX0_isStrong_21 : decode cX0_isStrong 21 = .ok (.ireturn, 1) := by decide +kernel
set_option maxRecDepth 20000 in
theorem ggX0_eachPairSharesAlike_X0_joined : GoodIn wsX0_eachPairSharesAlike wsX0_joined := goodIn_r _ [6, 7, 19, 20] (by decide +kernel) (by decide +kernel)
set_option maxRecDepth 20000 in
theorem gX0_eachPairSharesAlike_X0_joined : GoodIn wsX0_eachPairSharesAlike (wsV RX0 57 RX0 yX0_joined wsX0_joined) := goodIn_app (goodIn_of _ (by decide +kernel)) ggX0_eachPairSharesAlike_X0_joined
set_option maxRecDepth 20000 in
theorem ggX0_eachPairSharesAlike_X0_shared : GoodIn wsX0_eachPairSharesAlike wsX0_shared := goodIn_r _ [11, 7, 12, 13, 14, 15, 16, 17, 18, 19, 20] (by decide +kernel) (by decide +kernel)
set_option maxRecDepth 20000 in
theorem gX0_eachPairSharesAlike_X0_shared : GoodIn wsX0_eachPairSharesAlike (wsV RX0 81 RX0 yX0_shared wsX0_shared) := goodIn_app (goodIn_of _ (by decide +kernel)) ggX0_eachPairSharesAlike_X0_shared
theorem dX0_eachPairSharesAlike_0 : decode cX0_eachPairSharesAlike 0 = .ok (.bipush (-6), 2) := by decide +kernel
theorem dX0_eachPairSharesAlike_2 : decode cX0_eachPairSharesAlike 2 = .ok (.istore_n 2, 1) := by decide +kernel
theorem dX0_eachPairSharesAlike_3 : decode cX0_eachPairSharesAlike 3 = .ok (.iconst 0, 1) := by decide +kernel
theorem dX0_eachPairSharesAlike_4 : decode cX0_eachPairSharesAlike 4 = .ok (.istore_n 3, 1) := by decide +kernel
theorem dX0_eachPairSharesAlike_5 : decode cX0_eachPairSharesAlike 5 = .ok (.iload_n 3, 1) := by decide +kernel
theorem dX0_eachPairSharesAlike_6 : decode cX0_eachPairSharesAlike 6 = .ok (.aload_n 0, 1) := by decide +kernel
theorem dX0_eachPairSharesAlike_7 : decode cX0_eachPairSharesAlike 7 = .ok (.getfield 9, 3) := by decide +kernel
theorem dX0_eachPairSharesAlike_10 : decode cX0_eachPairSharesAlike 10 = .ok (.if_icmp .ge 66, 3) := by decide +kernel
theorem dX0_eachPairSharesAlike_13 : decode cX0_eachPairSharesAlike 13 = .ok (.iload_n 3, 1) := by decide +kernel
theorem dX0_eachPairSharesAlike_14 : decode cX0_eachPairSharesAlike 14 = .ok (.iconst 1, 1) := by decide +kernel
theorem dX0_eachPairSharesAlike_15 : decode cX0_eachPairSharesAlike 15 = .ok (.iadd, 1) := by decide +kernel
theorem dX0_eachPairSharesAlike_16 : decode cX0_eachPairSharesAlike 16 = .ok (.istore 4, 2) := by decide +kernel
theorem dX0_eachPairSharesAlike_18 : decode cX0_eachPairSharesAlike 18 = .ok (.iload 4, 2) := by decide +kernel
theorem dX0_eachPairSharesAlike_20 : decode cX0_eachPairSharesAlike 20 = .ok (.aload_n 0, 1) := by decide +kernel
theorem dX0_eachPairSharesAlike_21 : decode cX0_eachPairSharesAlike 21 = .ok (.getfield 9, 3) := by decide +kernel
theorem dX0_eachPairSharesAlike_24 : decode cX0_eachPairSharesAlike 24 = .ok (.if_icmp .ge 46, 3) := by decide +kernel
theorem dX0_eachPairSharesAlike_27 : decode cX0_eachPairSharesAlike 27 = .ok (.aload_n 0, 1) := by decide +kernel
theorem dX0_eachPairSharesAlike_28 : decode cX0_eachPairSharesAlike 28 = .ok (.iload_n 3, 1) := by decide +kernel
theorem dX0_eachPairSharesAlike_29 : decode cX0_eachPairSharesAlike 29 = .ok (.iload 4, 2) := by decide +kernel
theorem dX0_eachPairSharesAlike_31 : decode cX0_eachPairSharesAlike 31 = .ok (.invokevirtual 57, 3) := by decide +kernel
theorem dX0_eachPairSharesAlike_34 : decode cX0_eachPairSharesAlike 34 = .ok (.iload_n 1, 1) := by decide +kernel
theorem dX0_eachPairSharesAlike_35 : decode cX0_eachPairSharesAlike 35 = .ok (.if_icmp .ne 29, 3) := by decide +kernel
theorem dX0_eachPairSharesAlike_38 : decode cX0_eachPairSharesAlike 38 = .ok (.aload_n 0, 1) := by decide +kernel
theorem dX0_eachPairSharesAlike_39 : decode cX0_eachPairSharesAlike 39 = .ok (.iload_n 3, 1) := by decide +kernel
theorem dX0_eachPairSharesAlike_40 : decode cX0_eachPairSharesAlike 40 = .ok (.iload 4, 2) := by decide +kernel
theorem dX0_eachPairSharesAlike_42 : decode cX0_eachPairSharesAlike 42 = .ok (.invokevirtual 81, 3) := by decide +kernel
theorem dX0_eachPairSharesAlike_45 : decode cX0_eachPairSharesAlike 45 = .ok (.istore 5, 2) := by decide +kernel
theorem dX0_eachPairSharesAlike_47 : decode cX0_eachPairSharesAlike 47 = .ok (.iload_n 2, 1) := by decide +kernel
theorem dX0_eachPairSharesAlike_48 : decode cX0_eachPairSharesAlike 48 = .ok (.bipush (-6), 2) := by decide +kernel
theorem dX0_eachPairSharesAlike_50 : decode cX0_eachPairSharesAlike 50 = .ok (.if_icmp .eq 11, 3) := by decide +kernel
theorem dX0_eachPairSharesAlike_53 : decode cX0_eachPairSharesAlike 53 = .ok (.iload_n 2, 1) := by decide +kernel
theorem dX0_eachPairSharesAlike_54 : decode cX0_eachPairSharesAlike 54 = .ok (.iload 5, 2) := by decide +kernel
theorem dX0_eachPairSharesAlike_56 : decode cX0_eachPairSharesAlike 56 = .ok (.if_icmp .eq 5, 3) := by decide +kernel
theorem dX0_eachPairSharesAlike_59 : decode cX0_eachPairSharesAlike 59 = .ok (.iconst 0, 1) := by decide +kernel
theorem dX0_eachPairSharesAlike_60 : decode cX0_eachPairSharesAlike 60 = .ok (.ireturn, 1) := by decide +kernel
theorem dX0_eachPairSharesAlike_61 : decode cX0_eachPairSharesAlike 61 = .ok (.iload 5, 2) := by decide +kernel
theorem dX0_eachPairSharesAlike_63 : decode cX0_eachPairSharesAlike 63 = .ok (.istore_n 2, 1) := by decide +kernel
theorem dX0_eachPairSharesAlike_64 : decode cX0_eachPairSharesAlike 64 = .ok (.iinc 4 1, 3) := by decide +kernel
theorem dX0_eachPairSharesAlike_67 : decode cX0_eachPairSharesAlike 67 = .ok (.goto (-49), 3) := by decide +kernel
theorem dX0_eachPairSharesAlike_70 : decode cX0_eachPairSharesAlike 70 = .ok (.iinc 3 1, 3) := by decide +kernel
theorem dX0_eachPairSharesAlike_73 : decode cX0_eachPairSharesAlike 73 = .ok (.goto (-68), 3) := by decide +kernel
theorem dX0_eachPairSharesAlike_76 : decode cX0_eachPairSharesAlike 76 = .ok (.iconst 1, 1) := by decide +kernel
theorem dX0_eachPairSharesAlike_77 : decode cX0_eachPairSharesAlike 77 = .ok (.ireturn, 1) := by decide +kernel
theorem dX0_areTwins_0 : decode cX0_areTwins 0 = .ok (.aload_n 0, 1) := by decide +kernel
theorem dX0_areTwins_1 : decode cX0_areTwins 1 = .ok (.getfield 15, 3) := by decide +kernel
theorem dX0_areTwins_4 : decode cX0_areTwins 4 = .ok (.iload_n 1, 1) := by decide +kernel
theorem dX0_areTwins_5 : decode cX0_areTwins 5 = .ok (.iaload, 1) := by decide +kernel
theorem dX0_areTwins_6 : decode cX0_areTwins 6 = .ok (.aload_n 0, 1) := by decide +kernel
theorem dX0_areTwins_7 : decode cX0_areTwins 7 = .ok (.getfield 15, 3) := by decide +kernel
theorem dX0_areTwins_10 : decode cX0_areTwins 10 = .ok (.iload_n 2, 1) := by decide +kernel
theorem dX0_areTwins_11 : decode cX0_areTwins 11 = .ok (.iaload, 1) := by decide +kernel
theorem dX0_areTwins_12 : decode cX0_areTwins 12 = .ok (.ixor, 1) := by decide +kernel
theorem dX0_areTwins_13 : decode cX0_areTwins 13 = .ok (.iconst 1, 1) := by decide +kernel
theorem dX0_areTwins_14 : decode cX0_areTwins 14 = .ok (.iload_n 1, 1) := by decide +kernel
theorem dX0_areTwins_15 : decode cX0_areTwins 15 = .ok (.ishl, 1) := by decide +kernel
theorem dX0_areTwins_16 : decode cX0_areTwins 16 = .ok (.iconst 1, 1) := by decide +kernel
theorem dX0_areTwins_17 : decode cX0_areTwins 17 = .ok (.iload_n 2, 1) := by decide +kernel
theorem dX0_areTwins_18 : decode cX0_areTwins 18 = .ok (.ishl, 1) := by decide +kernel
theorem dX0_areTwins_19 : decode cX0_areTwins 19 = .ok (.ior, 1) := by decide +kernel
theorem dX0_areTwins_20 : decode cX0_areTwins 20 = .ok (.iconst (-1), 1) := by decide +kernel
theorem dX0_areTwins_21 : decode cX0_areTwins 21 = .ok (.ixor, 1) := by decide +kernel
theorem dX0_areTwins_22 : decode cX0_areTwins 22 = .ok (.iand, 1) := by decide +kernel
theorem dX0_areTwins_23 : decode cX0_areTwins 23 = .ok (.ifCond .ne 7, 3) := by decide +kernel
theorem dX0_areTwins_26 : decode cX0_areTwins 26 = .ok (.iconst 1, 1) := by decide +kernel
theorem dX0_areTwins_27 : decode cX0_areTwins 27 = .ok (.goto 4, 3) := by decide +kernel
theorem dX0_areTwins_30 : decode cX0_areTwins 30 = .ok (.iconst 0, 1) := by decide +kernel
theorem dX0_areTwins_31 : decode cX0_areTwins 31 = .ok (.ireturn, 1) := by decide +kernel
theorem dX1_init_0 : decode cX1_init 0 = .ok (.aload_n 0, 1) := by decide +kernel
theorem dX1_init_1 : decode cX1_init 1 = .ok (.invokespecial 3, 3) := by decide +kernel
theorem dX1_init_4 : decode cX1_init 4 = .ok (.aload_n 0, 1) := by decide +kernel
theorem dX1_init_5 : decode cX1_init 5 = .ok (.iconst 0, 1) := by decide +kernel
theorem dX1_init_6 : decode cX1_init 6 = .ok (.putfield 9, 3) := by decide +kernel
theorem dX1_init_9 : decode cX1_init 9 = .ok (.aload_n 0, 1) := by decide +kernel
theorem dX1_init_10 : decode cX1_init 10 = .ok (.bipush 35, 2) := by decide +kernel
theorem dX1_init_12 : decode cX1_init 12 = .ok (.newarray .int, 2) := by decide +kernel
theorem dX1_init_14 : decode cX1_init 14 = .ok (.putfield 15, 3) := by decide +kernel
theorem dX1_init_17 : decode cX1_init 17 = .ok (.return_, 1) := by decide +kernel
theorem dX1_put_0 : decode cX1_put 0 = .ok (.aload_n 0, 1) := by decide +kernel
theorem dX1_put_1 : decode cX1_put 1 = .ok (.getfield 9, 3) := by decide +kernel
theorem dX1_put_4 : decode cX1_put 4 = .ok (.bipush 35, 2) := by decide +kernel
theorem dX1_put_6 : decode cX1_put 6 = .ok (.if_icmp .ge 23, 3) := by decide +kernel
theorem dX1_put_9 : decode cX1_put 9 = .ok (.aload_n 0, 1) := by decide +kernel
theorem dX1_put_10 : decode cX1_put 10 = .ok (.getfield 15, 3) := by decide +kernel
theorem dX1_put_13 : decode cX1_put 13 = .ok (.aload_n 0, 1) := by decide +kernel
theorem dX1_put_14 : decode cX1_put 14 = .ok (.getfield 9, 3) := by decide +kernel
theorem dX1_put_17 : decode cX1_put 17 = .ok (.iload_n 1, 1) := by decide +kernel
theorem dX1_put_18 : decode cX1_put 18 = .ok (.iastore, 1) := by decide +kernel
theorem dX1_put_19 : decode cX1_put 19 = .ok (.aload_n 0, 1) := by decide +kernel
theorem dX1_put_20 : decode cX1_put 20 = .ok (.dup, 1) := by decide +kernel
theorem dX1_put_21 : decode cX1_put 21 = .ok (.getfield 9, 3) := by decide +kernel
theorem dX1_put_24 : decode cX1_put 24 = .ok (.iconst 1, 1) := by decide +kernel
theorem dX1_put_25 : decode cX1_put 25 = .ok (.iadd, 1) := by decide +kernel
theorem dX1_put_26 : decode cX1_put 26 = .ok (.putfield 9, 3) := by decide +kernel
theorem dX1_put_29 : decode cX1_put 29 = .ok (.return_, 1) := by decide +kernel
theorem dX1_tells_0 : decode cX1_tells 0 = .ok (.iload_n 1, 1) := by decide +kernel
theorem dX1_tells_1 : decode cX1_tells 1 = .ok (.ifCond .lt 26, 3) := by decide +kernel
theorem dX1_tells_4 : decode cX1_tells 4 = .ok (.iload_n 1, 1) := by decide +kernel
theorem dX1_tells_5 : decode cX1_tells 5 = .ok (.aload_n 0, 1) := by decide +kernel
theorem dX1_tells_6 : decode cX1_tells 6 = .ok (.getfield 9, 3) := by decide +kernel
theorem dX1_tells_9 : decode cX1_tells 9 = .ok (.if_icmp .ge 18, 3) := by decide +kernel
theorem dX1_tells_12 : decode cX1_tells 12 = .ok (.aload_n 0, 1) := by decide +kernel
theorem dX1_tells_13 : decode cX1_tells 13 = .ok (.getfield 15, 3) := by decide +kernel
theorem dX1_tells_16 : decode cX1_tells 16 = .ok (.iload_n 1, 1) := by decide +kernel
theorem dX1_tells_17 : decode cX1_tells 17 = .ok (.iaload, 1) := by decide +kernel
theorem dX1_tells_18 : decode cX1_tells 18 = .ok (.bipush 49, 2) := by decide +kernel
theorem dX1_tells_20 : decode cX1_tells 20 = .ok (.if_icmp .ne 7, 3) := by decide +kernel
theorem dX1_tells_23 : decode cX1_tells 23 = .ok (.iconst 1, 1) := by decide +kernel
theorem dX1_tells_24 : decode cX1_tells 24 = .ok (.goto 4, 3) := by decide +kernel
theorem dX1_tells_27 : decode cX1_tells 27 = .ok (.iconst 0, 1) := by decide +kernel
theorem dX1_tells_28 : decode cX1_tells 28 = .ok (.ireturn, 1) := by decide +kernel
theorem dX1_faultFor_0 : decode cX1_faultFor 0 = .ok (.iconst 0, 1) := by decide +kernel
theorem dX1_faultFor_1 : decode cX1_faultFor 1 = .ok (.istore_n 2, 1) := by decide +kernel
theorem dX1_faultFor_2 : decode cX1_faultFor 2 = .ok (.iload_n 2, 1) := by decide +kernel
theorem dX1_faultFor_3 : decode cX1_faultFor 3 = .ok (.aload_n 0, 1) := by decide +kernel
theorem dX1_faultFor_4 : decode cX1_faultFor 4 = .ok (.getfield 9, 3) := by decide +kernel
theorem dX1_faultFor_7 : decode cX1_faultFor 7 = .ok (.if_icmp .ge 38, 3) := by decide +kernel
theorem dX1_faultFor_10 : decode cX1_faultFor 10 = .ok (.iload_n 2, 1) := by decide +kernel
theorem dX1_faultFor_11 : decode cX1_faultFor 11 = .ok (.iload_n 1, 1) := by decide +kernel
theorem dX1_faultFor_12 : decode cX1_faultFor 12 = .ok (.if_icmp .ge 25, 3) := by decide +kernel
theorem dX1_faultFor_15 : decode cX1_faultFor 15 = .ok (.aload_n 0, 1) := by decide +kernel
theorem dX1_faultFor_16 : decode cX1_faultFor 16 = .ok (.getfield 15, 3) := by decide +kernel
theorem dX1_faultFor_19 : decode cX1_faultFor 19 = .ok (.iload_n 2, 1) := by decide +kernel
theorem dX1_faultFor_20 : decode cX1_faultFor 20 = .ok (.iaload, 1) := by decide +kernel
theorem dX1_faultFor_21 : decode cX1_faultFor 21 = .ok (.bipush 48, 2) := by decide +kernel
theorem dX1_faultFor_23 : decode cX1_faultFor 23 = .ok (.if_icmp .eq 16, 3) := by decide +kernel
theorem dX1_faultFor_26 : decode cX1_faultFor 26 = .ok (.aload_n 0, 1) := by decide +kernel
theorem dX1_faultFor_27 : decode cX1_faultFor 27 = .ok (.getfield 15, 3) := by decide +kernel
theorem dX1_faultFor_30 : decode cX1_faultFor 30 = .ok (.iload_n 2, 1) := by decide +kernel
theorem dX1_faultFor_31 : decode cX1_faultFor 31 = .ok (.iaload, 1) := by decide +kernel
theorem dX1_faultFor_32 : decode cX1_faultFor 32 = .ok (.bipush 49, 2) := by decide +kernel
theorem dX1_faultFor_34 : decode cX1_faultFor 34 = .ok (.if_icmp .eq 5, 3) := by decide +kernel
theorem dX1_faultFor_37 : decode cX1_faultFor 37 = .ok (.iload_n 2, 1) := by decide +kernel
theorem dX1_faultFor_38 : decode cX1_faultFor 38 = .ok (.ireturn, 1) := by decide +kernel
theorem dX1_faultFor_39 : decode cX1_faultFor 39 = .ok (.iinc 2 1, 3) := by decide +kernel
theorem dX1_faultFor_42 : decode cX1_faultFor 42 = .ok (.goto (-40), 3) := by decide +kernel
theorem dX1_faultFor_45 : decode cX1_faultFor 45 = .ok (.aload_n 0, 1) := by decide +kernel
theorem dX1_faultFor_46 : decode cX1_faultFor 46 = .ok (.getfield 9, 3) := by decide +kernel
theorem dX1_faultFor_49 : decode cX1_faultFor 49 = .ok (.iload_n 1, 1) := by decide +kernel
theorem dX1_faultFor_50 : decode cX1_faultFor 50 = .ok (.if_icmp .ge 10, 3) := by decide +kernel
theorem dX1_faultFor_53 : decode cX1_faultFor 53 = .ok (.aload_n 0, 1) := by decide +kernel
theorem dX1_faultFor_54 : decode cX1_faultFor 54 = .ok (.getfield 9, 3) := by decide +kernel
theorem dX1_faultFor_57 : decode cX1_faultFor 57 = .ok (.goto 5, 3) := by decide +kernel
theorem dX1_faultFor_60 : decode cX1_faultFor 60 = .ok (.bipush (-6), 2) := by decide +kernel
theorem dX1_faultFor_62 : decode cX1_faultFor 62 = .ok (.ireturn, 1) := by decide +kernel
theorem dX2_init_0 : decode cX2_init 0 = .ok (.aload_n 0, 1) := by decide +kernel
theorem dX2_init_1 : decode cX2_init 1 = .ok (.invokespecial 3, 3) := by decide +kernel
theorem dX2_init_4 : decode cX2_init 4 = .ok (.aload_n 0, 1) := by decide +kernel
theorem dX2_init_5 : decode cX2_init 5 = .ok (.bipush 7, 2) := by decide +kernel
theorem dX2_init_7 : decode cX2_init 7 = .ok (.newarray .int, 2) := by decide +kernel
theorem dX2_init_9 : decode cX2_init 9 = .ok (.putfield 9, 3) := by decide +kernel
theorem dX2_init_12 : decode cX2_init 12 = .ok (.return_, 1) := by decide +kernel
set_option maxRecDepth 20000 in
theorem ggX2_kindOfClass_X5_pairsOf : GoodIn wsX2_kindOfClass wsX5_pairsOf := goodIn_r _ [8] (by decide +kernel) (by decide +kernel)
set_option maxRecDepth 20000 in
theorem gX2_kindOfClass_X5_pairsOf_n21 : GoodIn wsX2_kindOfClass (wsX5_pairsOf) := ggX2_kindOfClass_X5_pairsOf
set_option maxRecDepth 20000 in
theorem ggX2_kindOfClass_X0_leaveAlone : GoodIn wsX2_kindOfClass wsX0_leaveAlone := goodIn_r _ [12, 13, 14, 15, 16, 10, 17, 18, 19, 20, 21, 22, 45, 46] (by decide +kernel) (by decide +kernel)
set_option maxRecDepth 20000 in
theorem gX2_kindOfClass_X0_leaveAlone_n25 : GoodIn wsX2_kindOfClass (wsX0_leaveAlone) := ggX2_kindOfClass_X0_leaveAlone
set_option maxRecDepth 20000 in
theorem ggX2_kindOfClass_X2_leastNumber : GoodIn wsX2_kindOfClass wsX2_leastNumber := goodIn_r _ [26, 2, 3, 4, 5, 27, 28, 25, 29, 30, 10, 31, 32, 13, 33, 34, 35, 36, 37, 38, 6, 7, 8, 39, 40, 41, 42, 43, 44, 23, 24, 45, 46] (by decide +kernel) (by decide +kernel)
set_option maxRecDepth 20000 in
theorem gX2_kindOfClass_X2_leastNumber : GoodIn wsX2_kindOfClass (va_wsS RX2 29 yX2_leastNumber wsX2_leastNumber) := goodIn_app (goodIn_of _ (by decide +kernel)) ggX2_kindOfClass_X2_leastNumber
theorem dX2_kindOfClass_0 : decode cX2_kindOfClass 0 = .ok (.iconst 1, 1) := by decide +kernel
theorem dX2_kindOfClass_1 : decode cX2_kindOfClass 1 = .ok (.aload_n 1, 1) := by decide +kernel
theorem dX2_kindOfClass_2 : decode cX2_kindOfClass 2 = .ok (.getfield 15, 3) := by decide +kernel
theorem dX2_kindOfClass_5 : decode cX2_kindOfClass 5 = .ok (.invokestatic 21, 3) := by decide +kernel
theorem dX2_kindOfClass_8 : decode cX2_kindOfClass 8 = .ok (.ishl, 1) := by decide +kernel
theorem dX2_kindOfClass_9 : decode cX2_kindOfClass 9 = .ok (.iconst 1, 1) := by decide +kernel
theorem dX2_kindOfClass_10 : decode cX2_kindOfClass 10 = .ok (.isub, 1) := by decide +kernel
theorem dX2_kindOfClass_11 : decode cX2_kindOfClass 11 = .ok (.istore_n 2, 1) := by decide +kernel
theorem dX2_kindOfClass_12 : decode cX2_kindOfClass 12 = .ok (.iconst 0, 1) := by decide +kernel
theorem dX2_kindOfClass_13 : decode cX2_kindOfClass 13 = .ok (.istore_n 3, 1) := by decide +kernel
theorem dX2_kindOfClass_14 : decode cX2_kindOfClass 14 = .ok (.iload_n 3, 1) := by decide +kernel
theorem dX2_kindOfClass_15 : decode cX2_kindOfClass 15 = .ok (.aload_n 1, 1) := by decide +kernel
theorem dX2_kindOfClass_16 : decode cX2_kindOfClass 16 = .ok (.getfield 15, 3) := by decide +kernel
theorem dX2_kindOfClass_19 : decode cX2_kindOfClass 19 = .ok (.if_icmp .ge 38, 3) := by decide +kernel
theorem dX2_kindOfClass_22 : decode cX2_kindOfClass 22 = .ok (.aload_n 1, 1) := by decide +kernel
theorem dX2_kindOfClass_23 : decode cX2_kindOfClass 23 = .ok (.iload_n 3, 1) := by decide +kernel
theorem dX2_kindOfClass_24 : decode cX2_kindOfClass 24 = .ok (.invokevirtual 25, 3) := by decide +kernel
theorem dX2_kindOfClass_27 : decode cX2_kindOfClass 27 = .ok (.aload_n 0, 1) := by decide +kernel
theorem dX2_kindOfClass_28 : decode cX2_kindOfClass 28 = .ok (.getfield 9, 3) := by decide +kernel
theorem dX2_kindOfClass_31 : decode cX2_kindOfClass 31 = .ok (.iconst 0, 1) := by decide +kernel
theorem dX2_kindOfClass_32 : decode cX2_kindOfClass 32 = .ok (.iload_n 3, 1) := by decide +kernel
theorem dX2_kindOfClass_33 : decode cX2_kindOfClass 33 = .ok (.iastore, 1) := by decide +kernel
theorem dX2_kindOfClass_34 : decode cX2_kindOfClass 34 = .ok (.iload_n 2, 1) := by decide +kernel
theorem dX2_kindOfClass_35 : decode cX2_kindOfClass 35 = .ok (.aload_n 1, 1) := by decide +kernel
theorem dX2_kindOfClass_36 : decode cX2_kindOfClass 36 = .ok (.aload_n 0, 1) := by decide +kernel
theorem dX2_kindOfClass_37 : decode cX2_kindOfClass 37 = .ok (.getfield 9, 3) := by decide +kernel
theorem dX2_kindOfClass_40 : decode cX2_kindOfClass 40 = .ok (.iconst 1, 1) := by decide +kernel
theorem dX2_kindOfClass_41 : decode cX2_kindOfClass 41 = .ok (.iconst 1, 1) := by decide +kernel
theorem dX2_kindOfClass_42 : decode cX2_kindOfClass 42 = .ok (.iload_n 3, 1) := by decide +kernel
theorem dX2_kindOfClass_43 : decode cX2_kindOfClass 43 = .ok (.ishl, 1) := by decide +kernel
theorem dX2_kindOfClass_44 : decode cX2_kindOfClass 44 = .ok (.invokestatic 29, 3) := by decide +kernel
theorem dX2_kindOfClass_47 : decode cX2_kindOfClass 47 = .ok (.invokestatic 33, 3) := by decide +kernel
theorem dX2_kindOfClass_50 : decode cX2_kindOfClass 50 = .ok (.istore_n 2, 1) := by decide +kernel
theorem dX2_kindOfClass_51 : decode cX2_kindOfClass 51 = .ok (.iinc 3 1, 3) := by decide +kernel
theorem dX2_kindOfClass_54 : decode cX2_kindOfClass 54 = .ok (.goto (-40), 3) := by decide +kernel
theorem dX2_kindOfClass_57 : decode cX2_kindOfClass 57 = .ok (.iload_n 2, 1) := by decide +kernel
theorem dX2_kindOfClass_58 : decode cX2_kindOfClass 58 = .ok (.ireturn, 1) := by decide +kernel
set_option maxRecDepth 20000 in
theorem ggX2_leastNumber_X2_numberAsGiven : GoodIn wsX2_leastNumber wsX2_numberAsGiven := goodIn_r _ [8, 9, 10, 11, 12, 13, 31, 32] (by decide +kernel) (by decide +kernel)
set_option maxRecDepth 20000 in
theorem gX2_leastNumber_X2_numberAsGiven : GoodIn wsX2_leastNumber (va_wsS RX2 39 yX2_numberAsGiven wsX2_numberAsGiven) := goodIn_app (goodIn_of _ (by decide +kernel)) ggX2_leastNumber_X2_numberAsGiven
set_option maxRecDepth 20000 in
theorem ggX2_leastNumber_X2_lowestColumn : GoodIn wsX2_leastNumber wsX2_lowestColumn := goodIn_r _ [16, 1, 2, 3, 4, 17, 18, 7, 19, 31, 32] (by decide +kernel) (by decide +kernel)
set_option maxRecDepth 20000 in
theorem gX2_leastNumber_X2_lowestColumn : GoodIn wsX2_leastNumber (va_wsS RX2 43 yX2_lowestColumn wsX2_lowestColumn) := goodIn_app (goodIn_of _ (by decide +kernel)) ggX2_leastNumber_X2_lowestColumn
set_option maxRecDepth 20000 in
theorem ggX2_leastNumber_X5_pairsOf : GoodIn wsX2_leastNumber wsX5_pairsOf := goodIn_r _ [22] (by decide +kernel) (by decide +kernel)
set_option maxRecDepth 20000 in
theorem gX2_leastNumber_X5_pairsOf_n21 : GoodIn wsX2_leastNumber (wsX5_pairsOf) := ggX2_leastNumber_X5_pairsOf
set_option maxRecDepth 20000 in
theorem ggX2_leastNumber_X2_column : GoodIn wsX2_leastNumber wsX2_column := goodIn_r _ [19, 31, 32] (by decide +kernel) (by decide +kernel)
set_option maxRecDepth 20000 in
theorem gX2_leastNumber_X2_column : GoodIn wsX2_leastNumber (va_wsS RX2 46 yX2_column wsX2_column) := goodIn_app (goodIn_of _ (by decide +kernel)) ggX2_leastNumber_X2_column
set_option maxRecDepth 20000 in
theorem ggX2_leastNumber_X2_hasTwin : GoodIn wsX2_leastNumber wsX2_hasTwin := goodIn_r _ [25, 26, 10, 27, 28, 13, 31, 32] (by decide +kernel) (by decide +kernel)
set_option maxRecDepth 20000 in
theorem gX2_leastNumber_X2_hasTwin : GoodIn wsX2_leastNumber (va_wsS RX2 49 yX2_hasTwin wsX2_hasTwin) := goodIn_app (goodIn_of _ (by decide +kernel)) ggX2_leastNumber_X2_hasTwin
set_option maxRecDepth 20000 in
theorem ggX2_leastNumber_X2_leastNumber : GoodIn wsX2_leastNumber wsX2_leastNumber := goodIn_r _ [0, 1, 2, 3, 4, 5, 6, 7, 8, 9, 10, 11, 12, 13, 14, 15, 16, 17, 18, 19, 20, 21, 22, 23, 24, 25, 26, 27, 28, 29, 30, 31, 32] (by decide +kernel) (by decide +kernel)
set_option maxRecDepth 20000 in
theorem gX2_leastNumber_X2_leastNumber : GoodIn wsX2_leastNumber (va_wsS RX2 29 yX2_leastNumber wsX2_leastNumber) := goodIn_app (goodIn_of _ (by decide +kernel)) ggX2_leastNumber_X2_leastNumber
theorem dX2_leastNumber_0 : decode cX2_leastNumber 0 = .ok (.iload_n 2, 1) := by decide +kernel
theorem dX2_leastNumber_1 : decode cX2_leastNumber 1 = .ok (.aload_n 0, 1) := by decide +kernel
theorem dX2_leastNumber_2 : decode cX2_leastNumber 2 = .ok (.getfield 15, 3) := by decide +kernel
theorem dX2_leastNumber_5 : decode cX2_leastNumber 5 = .ok (.if_icmp .lt 9, 3) := by decide +kernel
theorem dX2_leastNumber_8 : decode cX2_leastNumber 8 = .ok (.aload_n 0, 1) := by decide +kernel
theorem dX2_leastNumber_9 : decode cX2_leastNumber 9 = .ok (.aload_n 1, 1) := by decide +kernel
theorem dX2_leastNumber_10 : decode cX2_leastNumber 10 = .ok (.invokestatic 39, 3) := by decide +kernel
theorem dX2_leastNumber_13 : decode cX2_leastNumber 13 = .ok (.ireturn, 1) := by decide +kernel
theorem dX2_leastNumber_14 : decode cX2_leastNumber 14 = .ok (.aload_n 0, 1) := by decide +kernel
theorem dX2_leastNumber_15 : decode cX2_leastNumber 15 = .ok (.aload_n 1, 1) := by decide +kernel
theorem dX2_leastNumber_16 : decode cX2_leastNumber 16 = .ok (.iload_n 2, 1) := by decide +kernel
theorem dX2_leastNumber_17 : decode cX2_leastNumber 17 = .ok (.iload_n 3, 1) := by decide +kernel
theorem dX2_leastNumber_18 : decode cX2_leastNumber 18 = .ok (.invokestatic 43, 3) := by decide +kernel
theorem dX2_leastNumber_21 : decode cX2_leastNumber 21 = .ok (.istore 4, 2) := by decide +kernel
theorem dX2_leastNumber_23 : decode cX2_leastNumber 23 = .ok (.iconst 1, 1) := by decide +kernel
theorem dX2_leastNumber_24 : decode cX2_leastNumber 24 = .ok (.aload_n 0, 1) := by decide +kernel
theorem dX2_leastNumber_25 : decode cX2_leastNumber 25 = .ok (.getfield 15, 3) := by decide +kernel
theorem dX2_leastNumber_28 : decode cX2_leastNumber 28 = .ok (.invokestatic 21, 3) := by decide +kernel
theorem dX2_leastNumber_31 : decode cX2_leastNumber 31 = .ok (.ishl, 1) := by decide +kernel
theorem dX2_leastNumber_32 : decode cX2_leastNumber 32 = .ok (.iconst 1, 1) := by decide +kernel
theorem dX2_leastNumber_33 : decode cX2_leastNumber 33 = .ok (.isub, 1) := by decide +kernel
theorem dX2_leastNumber_34 : decode cX2_leastNumber 34 = .ok (.istore 5, 2) := by decide +kernel
theorem dX2_leastNumber_36 : decode cX2_leastNumber 36 = .ok (.iconst 0, 1) := by decide +kernel
theorem dX2_leastNumber_37 : decode cX2_leastNumber 37 = .ok (.istore 6, 2) := by decide +kernel
theorem dX2_leastNumber_39 : decode cX2_leastNumber 39 = .ok (.iconst 0, 1) := by decide +kernel
theorem dX2_leastNumber_40 : decode cX2_leastNumber 40 = .ok (.istore 7, 2) := by decide +kernel
theorem dX2_leastNumber_42 : decode cX2_leastNumber 42 = .ok (.iload 7, 2) := by decide +kernel
theorem dX2_leastNumber_44 : decode cX2_leastNumber 44 = .ok (.aload_n 0, 1) := by decide +kernel
theorem dX2_leastNumber_45 : decode cX2_leastNumber 45 = .ok (.getfield 15, 3) := by decide +kernel
theorem dX2_leastNumber_48 : decode cX2_leastNumber 48 = .ok (.if_icmp .ge 89, 3) := by decide +kernel
theorem dX2_leastNumber_51 : decode cX2_leastNumber 51 = .ok (.iload_n 3, 1) := by decide +kernel
theorem dX2_leastNumber_52 : decode cX2_leastNumber 52 = .ok (.iload 7, 2) := by decide +kernel
theorem dX2_leastNumber_54 : decode cX2_leastNumber 54 = .ok (.ishr, 1) := by decide +kernel
theorem dX2_leastNumber_55 : decode cX2_leastNumber 55 = .ok (.iconst 1, 1) := by decide +kernel
theorem dX2_leastNumber_56 : decode cX2_leastNumber 56 = .ok (.iand, 1) := by decide +kernel
theorem dX2_leastNumber_57 : decode cX2_leastNumber 57 = .ok (.ifCond .ne 7, 3) := by decide +kernel
theorem dX2_leastNumber_60 : decode cX2_leastNumber 60 = .ok (.iconst 1, 1) := by decide +kernel
theorem dX2_leastNumber_61 : decode cX2_leastNumber 61 = .ok (.goto 4, 3) := by decide +kernel
theorem dX2_leastNumber_64 : decode cX2_leastNumber 64 = .ok (.iconst 0, 1) := by decide +kernel
theorem dX2_leastNumber_65 : decode cX2_leastNumber 65 = .ok (.istore 8, 2) := by decide +kernel
theorem dX2_leastNumber_67 : decode cX2_leastNumber 67 = .ok (.iload 8, 2) := by decide +kernel
theorem dX2_leastNumber_69 : decode cX2_leastNumber 69 = .ok (.ifCond .eq 62, 3) := by decide +kernel
theorem dX2_leastNumber_72 : decode cX2_leastNumber 72 = .ok (.aload_n 0, 1) := by decide +kernel
theorem dX2_leastNumber_73 : decode cX2_leastNumber 73 = .ok (.aload_n 1, 1) := by decide +kernel
theorem dX2_leastNumber_74 : decode cX2_leastNumber 74 = .ok (.iload_n 2, 1) := by decide +kernel
theorem dX2_leastNumber_75 : decode cX2_leastNumber 75 = .ok (.iload 7, 2) := by decide +kernel
theorem dX2_leastNumber_77 : decode cX2_leastNumber 77 = .ok (.invokestatic 46, 3) := by decide +kernel
theorem dX2_leastNumber_80 : decode cX2_leastNumber 80 = .ok (.iload 4, 2) := by decide +kernel
theorem dX2_leastNumber_82 : decode cX2_leastNumber 82 = .ok (.if_icmp .ne 49, 3) := by decide +kernel
theorem dX2_leastNumber_85 : decode cX2_leastNumber 85 = .ok (.aload_n 0, 1) := by decide +kernel
theorem dX2_leastNumber_86 : decode cX2_leastNumber 86 = .ok (.iload 7, 2) := by decide +kernel
theorem dX2_leastNumber_88 : decode cX2_leastNumber 88 = .ok (.iload 6, 2) := by decide +kernel
theorem dX2_leastNumber_90 : decode cX2_leastNumber 90 = .ok (.invokestatic 49, 3) := by decide +kernel
theorem dX2_leastNumber_93 : decode cX2_leastNumber 93 = .ok (.ifCond .ne 38, 3) := by decide +kernel
theorem dX2_leastNumber_96 : decode cX2_leastNumber 96 = .ok (.iload 6, 2) := by decide +kernel
theorem dX2_leastNumber_98 : decode cX2_leastNumber 98 = .ok (.iconst 1, 1) := by decide +kernel
theorem dX2_leastNumber_99 : decode cX2_leastNumber 99 = .ok (.iload 7, 2) := by decide +kernel
theorem dX2_leastNumber_101 : decode cX2_leastNumber 101 = .ok (.ishl, 1) := by decide +kernel
theorem dX2_leastNumber_102 : decode cX2_leastNumber 102 = .ok (.ior, 1) := by decide +kernel
theorem dX2_leastNumber_103 : decode cX2_leastNumber 103 = .ok (.istore 6, 2) := by decide +kernel
theorem dX2_leastNumber_105 : decode cX2_leastNumber 105 = .ok (.aload_n 1, 1) := by decide +kernel
theorem dX2_leastNumber_106 : decode cX2_leastNumber 106 = .ok (.iload_n 2, 1) := by decide +kernel
theorem dX2_leastNumber_107 : decode cX2_leastNumber 107 = .ok (.iload 7, 2) := by decide +kernel
theorem dX2_leastNumber_109 : decode cX2_leastNumber 109 = .ok (.iastore, 1) := by decide +kernel
theorem dX2_leastNumber_110 : decode cX2_leastNumber 110 = .ok (.iload 5, 2) := by decide +kernel
theorem dX2_leastNumber_112 : decode cX2_leastNumber 112 = .ok (.aload_n 0, 1) := by decide +kernel
theorem dX2_leastNumber_113 : decode cX2_leastNumber 113 = .ok (.aload_n 1, 1) := by decide +kernel
theorem dX2_leastNumber_114 : decode cX2_leastNumber 114 = .ok (.iload_n 2, 1) := by decide +kernel
theorem dX2_leastNumber_115 : decode cX2_leastNumber 115 = .ok (.iconst 1, 1) := by decide +kernel
theorem dX2_leastNumber_116 : decode cX2_leastNumber 116 = .ok (.iadd, 1) := by decide +kernel
theorem dX2_leastNumber_117 : decode cX2_leastNumber 117 = .ok (.iload_n 3, 1) := by decide +kernel
theorem dX2_leastNumber_118 : decode cX2_leastNumber 118 = .ok (.iconst 1, 1) := by decide +kernel
theorem dX2_leastNumber_119 : decode cX2_leastNumber 119 = .ok (.iload 7, 2) := by decide +kernel
theorem dX2_leastNumber_121 : decode cX2_leastNumber 121 = .ok (.ishl, 1) := by decide +kernel
theorem dX2_leastNumber_122 : decode cX2_leastNumber 122 = .ok (.ior, 1) := by decide +kernel
theorem dX2_leastNumber_123 : decode cX2_leastNumber 123 = .ok (.invokestatic 29, 3) := by decide +kernel
theorem dX2_leastNumber_126 : decode cX2_leastNumber 126 = .ok (.invokestatic 33, 3) := by decide +kernel
theorem dX2_leastNumber_129 : decode cX2_leastNumber 129 = .ok (.istore 5, 2) := by decide +kernel
theorem dX2_leastNumber_131 : decode cX2_leastNumber 131 = .ok (.iinc 7 1, 3) := by decide +kernel
theorem dX2_leastNumber_134 : decode cX2_leastNumber 134 = .ok (.goto (-92), 3) := by decide +kernel
theorem dX2_leastNumber_137 : decode cX2_leastNumber 137 = .ok (.iload 5, 2) := by decide +kernel
theorem dX2_leastNumber_139 : decode cX2_leastNumber 139 = .ok (.ireturn, 1) := by decide +kernel
set_option maxRecDepth 20000 in
theorem ggX2_lowestColumn_X2_column : GoodIn wsX2_lowestColumn wsX2_column := goodIn_r _ [8, 9, 10] (by decide +kernel) (by decide +kernel)
set_option maxRecDepth 20000 in
theorem gX2_lowestColumn_X2_column : GoodIn wsX2_lowestColumn (va_wsS RX2 46 yX2_column wsX2_column) := goodIn_app (goodIn_of _ (by decide +kernel)) ggX2_lowestColumn_X2_column
theorem dX2_lowestColumn_0 : decode cX2_lowestColumn 0 = .ok (.sipush 128, 3) := by decide +kernel
theorem dX2_lowestColumn_3 : decode cX2_lowestColumn 3 = .ok (.istore 4, 2) := by decide +kernel
theorem dX2_lowestColumn_5 : decode cX2_lowestColumn 5 = .ok (.iconst 0, 1) := by decide +kernel
theorem dX2_lowestColumn_6 : decode cX2_lowestColumn 6 = .ok (.istore 5, 2) := by decide +kernel
theorem dX2_lowestColumn_8 : decode cX2_lowestColumn 8 = .ok (.iload 5, 2) := by decide +kernel
theorem dX2_lowestColumn_10 : decode cX2_lowestColumn 10 = .ok (.aload_n 0, 1) := by decide +kernel
theorem dX2_lowestColumn_11 : decode cX2_lowestColumn 11 = .ok (.getfield 15, 3) := by decide +kernel
theorem dX2_lowestColumn_14 : decode cX2_lowestColumn 14 = .ok (.if_icmp .ge 33, 3) := by decide +kernel
theorem dX2_lowestColumn_17 : decode cX2_lowestColumn 17 = .ok (.iload_n 3, 1) := by decide +kernel
theorem dX2_lowestColumn_18 : decode cX2_lowestColumn 18 = .ok (.iload 5, 2) := by decide +kernel
theorem dX2_lowestColumn_20 : decode cX2_lowestColumn 20 = .ok (.ishr, 1) := by decide +kernel
theorem dX2_lowestColumn_21 : decode cX2_lowestColumn 21 = .ok (.iconst 1, 1) := by decide +kernel
theorem dX2_lowestColumn_22 : decode cX2_lowestColumn 22 = .ok (.iand, 1) := by decide +kernel
theorem dX2_lowestColumn_23 : decode cX2_lowestColumn 23 = .ok (.ifCond .ne 18, 3) := by decide +kernel
theorem dX2_lowestColumn_26 : decode cX2_lowestColumn 26 = .ok (.iload 4, 2) := by decide +kernel
theorem dX2_lowestColumn_28 : decode cX2_lowestColumn 28 = .ok (.aload_n 0, 1) := by decide +kernel
theorem dX2_lowestColumn_29 : decode cX2_lowestColumn 29 = .ok (.aload_n 1, 1) := by decide +kernel
theorem dX2_lowestColumn_30 : decode cX2_lowestColumn 30 = .ok (.iload_n 2, 1) := by decide +kernel
theorem dX2_lowestColumn_31 : decode cX2_lowestColumn 31 = .ok (.iload 5, 2) := by decide +kernel
theorem dX2_lowestColumn_33 : decode cX2_lowestColumn 33 = .ok (.invokestatic 46, 3) := by decide +kernel
theorem dX2_lowestColumn_36 : decode cX2_lowestColumn 36 = .ok (.invokestatic 33, 3) := by decide +kernel
theorem dX2_lowestColumn_39 : decode cX2_lowestColumn 39 = .ok (.istore 4, 2) := by decide +kernel
theorem dX2_lowestColumn_41 : decode cX2_lowestColumn 41 = .ok (.iinc 5 1, 3) := by decide +kernel
theorem dX2_lowestColumn_44 : decode cX2_lowestColumn 44 = .ok (.goto (-36), 3) := by decide +kernel
theorem dX2_lowestColumn_47 : decode cX2_lowestColumn 47 = .ok (.iload 4, 2) := by decide +kernel
theorem dX2_lowestColumn_49 : decode cX2_lowestColumn 49 = .ok (.ireturn, 1) := by decide +kernel
theorem dX2_column_0 : decode cX2_column 0 = .ok (.iconst 0, 1) := by decide +kernel
theorem dX2_column_1 : decode cX2_column 1 = .ok (.istore 4, 2) := by decide +kernel
theorem dX2_column_3 : decode cX2_column 3 = .ok (.iconst 0, 1) := by decide +kernel
theorem dX2_column_4 : decode cX2_column 4 = .ok (.istore 5, 2) := by decide +kernel
theorem dX2_column_6 : decode cX2_column 6 = .ok (.iload 5, 2) := by decide +kernel
theorem dX2_column_8 : decode cX2_column 8 = .ok (.iload_n 2, 1) := by decide +kernel
theorem dX2_column_9 : decode cX2_column 9 = .ok (.if_icmp .ge 29, 3) := by decide +kernel
theorem dX2_column_12 : decode cX2_column 12 = .ok (.iload 4, 2) := by decide +kernel
theorem dX2_column_14 : decode cX2_column 14 = .ok (.iconst 1, 1) := by decide +kernel
theorem dX2_column_15 : decode cX2_column 15 = .ok (.ishl, 1) := by decide +kernel
theorem dX2_column_16 : decode cX2_column 16 = .ok (.aload_n 0, 1) := by decide +kernel
theorem dX2_column_17 : decode cX2_column 17 = .ok (.getfield 53, 3) := by decide +kernel
theorem dX2_column_20 : decode cX2_column 20 = .ok (.aload_n 1, 1) := by decide +kernel
theorem dX2_column_21 : decode cX2_column 21 = .ok (.iload 5, 2) := by decide +kernel
theorem dX2_column_23 : decode cX2_column 23 = .ok (.iaload, 1) := by decide +kernel
theorem dX2_column_24 : decode cX2_column 24 = .ok (.iaload, 1) := by decide +kernel
theorem dX2_column_25 : decode cX2_column 25 = .ok (.iload_n 3, 1) := by decide +kernel
theorem dX2_column_26 : decode cX2_column 26 = .ok (.ishr, 1) := by decide +kernel
theorem dX2_column_27 : decode cX2_column 27 = .ok (.iconst 1, 1) := by decide +kernel
theorem dX2_column_28 : decode cX2_column 28 = .ok (.iand, 1) := by decide +kernel
theorem dX2_column_29 : decode cX2_column 29 = .ok (.ior, 1) := by decide +kernel
theorem dX2_column_30 : decode cX2_column 30 = .ok (.istore 4, 2) := by decide +kernel
theorem dX2_column_32 : decode cX2_column 32 = .ok (.iinc 5 1, 3) := by decide +kernel
theorem dX2_column_35 : decode cX2_column 35 = .ok (.goto (-29), 3) := by decide +kernel
theorem dX2_column_38 : decode cX2_column 38 = .ok (.iload 4, 2) := by decide +kernel
theorem dX2_column_40 : decode cX2_column 40 = .ok (.ireturn, 1) := by decide +kernel
set_option maxRecDepth 20000 in
theorem ggX2_hasTwin_X0_areTwins : GoodIn wsX2_hasTwin wsX0_areTwins := goodIn_r _ [4, 5, 6, 7] (by decide +kernel) (by decide +kernel)
set_option maxRecDepth 20000 in
theorem gX2_hasTwin_X0_areTwins_n56 : GoodIn wsX2_hasTwin (wsX0_areTwins) := ggX2_hasTwin_X0_areTwins
theorem dX2_hasTwin_0 : decode cX2_hasTwin 0 = .ok (.iconst 0, 1) := by decide +kernel
theorem dX2_hasTwin_1 : decode cX2_hasTwin 1 = .ok (.istore_n 3, 1) := by decide +kernel
theorem dX2_hasTwin_2 : decode cX2_hasTwin 2 = .ok (.iload_n 3, 1) := by decide +kernel
theorem dX2_hasTwin_3 : decode cX2_hasTwin 3 = .ok (.aload_n 0, 1) := by decide +kernel
theorem dX2_hasTwin_4 : decode cX2_hasTwin 4 = .ok (.getfield 15, 3) := by decide +kernel
theorem dX2_hasTwin_7 : decode cX2_hasTwin 7 = .ok (.if_icmp .ge 29, 3) := by decide +kernel
theorem dX2_hasTwin_10 : decode cX2_hasTwin 10 = .ok (.iload_n 2, 1) := by decide +kernel
theorem dX2_hasTwin_11 : decode cX2_hasTwin 11 = .ok (.iload_n 3, 1) := by decide +kernel
theorem dX2_hasTwin_12 : decode cX2_hasTwin 12 = .ok (.ishr, 1) := by decide +kernel
theorem dX2_hasTwin_13 : decode cX2_hasTwin 13 = .ok (.iconst 1, 1) := by decide +kernel
theorem dX2_hasTwin_14 : decode cX2_hasTwin 14 = .ok (.iand, 1) := by decide +kernel
theorem dX2_hasTwin_15 : decode cX2_hasTwin 15 = .ok (.iconst 1, 1) := by decide +kernel
theorem dX2_hasTwin_16 : decode cX2_hasTwin 16 = .ok (.if_icmp .ne 14, 3) := by decide +kernel
theorem dX2_hasTwin_19 : decode cX2_hasTwin 19 = .ok (.aload_n 0, 1) := by decide +kernel
theorem dX2_hasTwin_20 : decode cX2_hasTwin 20 = .ok (.iload_n 1, 1) := by decide +kernel
theorem dX2_hasTwin_21 : decode cX2_hasTwin 21 = .ok (.iload_n 3, 1) := by decide +kernel
theorem dX2_hasTwin_22 : decode cX2_hasTwin 22 = .ok (.invokevirtual 56, 3) := by decide +kernel
theorem dX2_hasTwin_25 : decode cX2_hasTwin 25 = .ok (.ifCond .eq 5, 3) := by decide +kernel
theorem dX2_hasTwin_28 : decode cX2_hasTwin 28 = .ok (.iconst 1, 1) := by decide +kernel
theorem dX2_hasTwin_29 : decode cX2_hasTwin 29 = .ok (.ireturn, 1) := by decide +kernel
theorem dX2_hasTwin_30 : decode cX2_hasTwin 30 = .ok (.iinc 3 1, 3) := by decide +kernel
theorem dX2_hasTwin_33 : decode cX2_hasTwin 33 = .ok (.goto (-31), 3) := by decide +kernel
theorem dX2_hasTwin_36 : decode cX2_hasTwin 36 = .ok (.iconst 0, 1) := by decide +kernel
theorem dX2_hasTwin_37 : decode cX2_hasTwin 37 = .ok (.ireturn, 1) := by decide +kernel
set_option maxRecDepth 20000 in
theorem ggX2_numberAsGiven_X0_joined : GoodIn wsX2_numberAsGiven wsX0_joined := goodIn_r _ [4, 5, 6, 7] (by decide +kernel) (by decide +kernel)
set_option maxRecDepth 20000 in
theorem gX2_numberAsGiven_X0_joined_n60 : GoodIn wsX2_numberAsGiven (wsX0_joined) := ggX2_numberAsGiven_X0_joined
theorem dX2_numberAsGiven_0 : decode cX2_numberAsGiven 0 = .ok (.iconst 0, 1) := by decide +kernel
theorem dX2_numberAsGiven_1 : decode cX2_numberAsGiven 1 = .ok (.istore_n 2, 1) := by decide +kernel
theorem dX2_numberAsGiven_2 : decode cX2_numberAsGiven 2 = .ok (.iconst 0, 1) := by decide +kernel
theorem dX2_numberAsGiven_3 : decode cX2_numberAsGiven 3 = .ok (.istore_n 3, 1) := by decide +kernel
theorem dX2_numberAsGiven_4 : decode cX2_numberAsGiven 4 = .ok (.iload_n 3, 1) := by decide +kernel
theorem dX2_numberAsGiven_5 : decode cX2_numberAsGiven 5 = .ok (.aload_n 0, 1) := by decide +kernel
theorem dX2_numberAsGiven_6 : decode cX2_numberAsGiven 6 = .ok (.getfield 15, 3) := by decide +kernel
theorem dX2_numberAsGiven_9 : decode cX2_numberAsGiven 9 = .ok (.if_icmp .ge 45, 3) := by decide +kernel
theorem dX2_numberAsGiven_12 : decode cX2_numberAsGiven 12 = .ok (.iload_n 3, 1) := by decide +kernel
theorem dX2_numberAsGiven_13 : decode cX2_numberAsGiven 13 = .ok (.iconst 1, 1) := by decide +kernel
theorem dX2_numberAsGiven_14 : decode cX2_numberAsGiven 14 = .ok (.iadd, 1) := by decide +kernel
theorem dX2_numberAsGiven_15 : decode cX2_numberAsGiven 15 = .ok (.istore 4, 2) := by decide +kernel
theorem dX2_numberAsGiven_17 : decode cX2_numberAsGiven 17 = .ok (.iload 4, 2) := by decide +kernel
theorem dX2_numberAsGiven_19 : decode cX2_numberAsGiven 19 = .ok (.aload_n 0, 1) := by decide +kernel
theorem dX2_numberAsGiven_20 : decode cX2_numberAsGiven 20 = .ok (.getfield 15, 3) := by decide +kernel
theorem dX2_numberAsGiven_23 : decode cX2_numberAsGiven 23 = .ok (.if_icmp .ge 25, 3) := by decide +kernel
theorem dX2_numberAsGiven_26 : decode cX2_numberAsGiven 26 = .ok (.iload_n 2, 1) := by decide +kernel
theorem dX2_numberAsGiven_27 : decode cX2_numberAsGiven 27 = .ok (.iconst 1, 1) := by decide +kernel
theorem dX2_numberAsGiven_28 : decode cX2_numberAsGiven 28 = .ok (.ishl, 1) := by decide +kernel
theorem dX2_numberAsGiven_29 : decode cX2_numberAsGiven 29 = .ok (.aload_n 0, 1) := by decide +kernel
theorem dX2_numberAsGiven_30 : decode cX2_numberAsGiven 30 = .ok (.aload_n 1, 1) := by decide +kernel
theorem dX2_numberAsGiven_31 : decode cX2_numberAsGiven 31 = .ok (.iload_n 3, 1) := by decide +kernel
theorem dX2_numberAsGiven_32 : decode cX2_numberAsGiven 32 = .ok (.iaload, 1) := by decide +kernel
theorem dX2_numberAsGiven_33 : decode cX2_numberAsGiven 33 = .ok (.aload_n 1, 1) := by decide +kernel
theorem dX2_numberAsGiven_34 : decode cX2_numberAsGiven 34 = .ok (.iload 4, 2) := by decide +kernel
theorem dX2_numberAsGiven_36 : decode cX2_numberAsGiven 36 = .ok (.iaload, 1) := by decide +kernel

