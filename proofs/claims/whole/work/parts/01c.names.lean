theorem dX5_differentClasses_33 : decode cX5_differentClasses 33 = .ok (.invokevirtual 85, 3) := by decide +kernel
theorem dX5_differentClasses_36 : decode cX5_differentClasses 36 = .ok (.iastore, 1) := by decide +kernel
theorem dX5_differentClasses_37 : decode cX5_differentClasses 37 = .ok (.iinc 1 1, 3) := by decide +kernel
theorem dX5_differentClasses_40 : decode cX5_differentClasses 40 = .ok (.goto (-38), 3) := by decide +kernel
theorem dX5_differentClasses_43 : decode cX5_differentClasses 43 = .ok (.aload_n 0, 1) := by decide +kernel
theorem dX5_differentClasses_44 : decode cX5_differentClasses 44 = .ok (.invokevirtual 233, 3) := by decide +kernel
theorem dX5_differentClasses_47 : decode cX5_differentClasses 47 = .ok (.ireturn, 1) := by decide +kernel
set_option maxRecDepth 20000 in
theorem ggX5_differentKinds_X5_kindOfSlot : GoodIn wsX5_differentKinds wsX5_kindOfSlot := goodIn_r _ [6, 7, 8, 9, 10, 11, 5, 12, 13, 14, 15, 16, 17, 18, 19, 20, 21, 22, 23, 24, 25, 26, 27, 28, 29, 30, 31, 32, 33, 34, 35, 36, 37, 38, 39, 40, 41, 42, 43, 44, 45, 46, 47, 48, 49, 50, 51, 52, 53, 54, 55, 56, 57, 58, 59, 60, 61, 62, 63, 64, 65, 66, 67, 68, 69, 70, 71, 72, 73, 82, 83, 84, 85, 86, 87, 88, 89, 90, 91, 92, 93, 94] (by decide +kernel) (by decide +kernel)
set_option maxRecDepth 20000 in
theorem gX5_differentKinds_X5_kindOfSlot : GoodIn wsX5_differentKinds (wsV RX5 168 RX5 yX5_kindOfSlot wsX5_kindOfSlot) := goodIn_app (goodIn_of _ (by decide +kernel)) ggX5_differentKinds_X5_kindOfSlot
set_option maxRecDepth 20000 in
theorem ggX5_differentKinds_X5_differentMarks : GoodIn wsX5_differentKinds wsX5_differentMarks := goodIn_r _ [77, 78, 79, 80, 5, 81, 1, 82, 83, 84, 85, 86, 87, 88, 89] (by decide +kernel) (by decide +kernel)
set_option maxRecDepth 20000 in
theorem gX5_differentKinds_X5_differentMarks : GoodIn wsX5_differentKinds (wsV RX5 233 RX5 yX5_differentMarks wsX5_differentMarks) := goodIn_app (goodIn_of _ (by decide +kernel)) ggX5_differentKinds_X5_differentMarks
theorem dX5_differentKinds_0 : decode cX5_differentKinds 0 = .ok (.iconst 0, 1) := by decide +kernel
theorem dX5_differentKinds_1 : decode cX5_differentKinds 1 = .ok (.istore_n 1, 1) := by decide +kernel
theorem dX5_differentKinds_2 : decode cX5_differentKinds 2 = .ok (.iload_n 1, 1) := by decide +kernel
theorem dX5_differentKinds_3 : decode cX5_differentKinds 3 = .ok (.iconst 3, 1) := by decide +kernel
theorem dX5_differentKinds_4 : decode cX5_differentKinds 4 = .ok (.if_icmp .ge 20, 3) := by decide +kernel
theorem dX5_differentKinds_7 : decode cX5_differentKinds 7 = .ok (.aload_n 0, 1) := by decide +kernel
theorem dX5_differentKinds_8 : decode cX5_differentKinds 8 = .ok (.getfield 51, 3) := by decide +kernel
theorem dX5_differentKinds_11 : decode cX5_differentKinds 11 = .ok (.iload_n 1, 1) := by decide +kernel
theorem dX5_differentKinds_12 : decode cX5_differentKinds 12 = .ok (.aload_n 0, 1) := by decide +kernel
theorem dX5_differentKinds_13 : decode cX5_differentKinds 13 = .ok (.iload_n 1, 1) := by decide +kernel
theorem dX5_differentKinds_14 : decode cX5_differentKinds 14 = .ok (.invokevirtual 168, 3) := by decide +kernel
theorem dX5_differentKinds_17 : decode cX5_differentKinds 17 = .ok (.iastore, 1) := by decide +kernel
theorem dX5_differentKinds_18 : decode cX5_differentKinds 18 = .ok (.iinc 1 1, 3) := by decide +kernel
theorem dX5_differentKinds_21 : decode cX5_differentKinds 21 = .ok (.goto (-19), 3) := by decide +kernel
theorem dX5_differentKinds_24 : decode cX5_differentKinds 24 = .ok (.aload_n 0, 1) := by decide +kernel
theorem dX5_differentKinds_25 : decode cX5_differentKinds 25 = .ok (.invokevirtual 233, 3) := by decide +kernel
theorem dX5_differentKinds_28 : decode cX5_differentKinds 28 = .ok (.ireturn, 1) := by decide +kernel
set_option maxRecDepth 20000 in
theorem ggX5_differentMarks_X5_isMarkedBefore : GoodIn wsX5_differentMarks wsX5_isMarkedBefore := goodIn_r _ [5, 6, 7, 8, 9, 10, 11, 12, 13, 14] (by decide +kernel) (by decide +kernel)
set_option maxRecDepth 20000 in
theorem gX5_differentMarks_X5_isMarkedBefore : GoodIn wsX5_differentMarks (wsV RX5 236 RX5 yX5_isMarkedBefore wsX5_isMarkedBefore) := goodIn_app (goodIn_of _ (by decide +kernel)) ggX5_differentMarks_X5_isMarkedBefore
theorem dX5_differentMarks_0 : decode cX5_differentMarks 0 = .ok (.iconst 0, 1) := by decide +kernel
theorem dX5_differentMarks_1 : decode cX5_differentMarks 1 = .ok (.istore_n 1, 1) := by decide +kernel
theorem dX5_differentMarks_2 : decode cX5_differentMarks 2 = .ok (.iconst 0, 1) := by decide +kernel
theorem dX5_differentMarks_3 : decode cX5_differentMarks 3 = .ok (.istore_n 2, 1) := by decide +kernel
theorem dX5_differentMarks_4 : decode cX5_differentMarks 4 = .ok (.iload_n 2, 1) := by decide +kernel
theorem dX5_differentMarks_5 : decode cX5_differentMarks 5 = .ok (.iconst 3, 1) := by decide +kernel
theorem dX5_differentMarks_6 : decode cX5_differentMarks 6 = .ok (.if_icmp .ge 20, 3) := by decide +kernel
theorem dX5_differentMarks_9 : decode cX5_differentMarks 9 = .ok (.aload_n 0, 1) := by decide +kernel
theorem dX5_differentMarks_10 : decode cX5_differentMarks 10 = .ok (.iload_n 2, 1) := by decide +kernel
theorem dX5_differentMarks_11 : decode cX5_differentMarks 11 = .ok (.invokevirtual 236, 3) := by decide +kernel
theorem dX5_differentMarks_14 : decode cX5_differentMarks 14 = .ok (.ifCond .ne 6, 3) := by decide +kernel
theorem dX5_differentMarks_17 : decode cX5_differentMarks 17 = .ok (.iinc 1 1, 3) := by decide +kernel
theorem dX5_differentMarks_20 : decode cX5_differentMarks 20 = .ok (.iinc 2 1, 3) := by decide +kernel
theorem dX5_differentMarks_23 : decode cX5_differentMarks 23 = .ok (.goto (-19), 3) := by decide +kernel
theorem dX5_differentMarks_26 : decode cX5_differentMarks 26 = .ok (.iload_n 1, 1) := by decide +kernel
theorem dX5_differentMarks_27 : decode cX5_differentMarks 27 = .ok (.ireturn, 1) := by decide +kernel
theorem dX5_isMarkedBefore_0 : decode cX5_isMarkedBefore 0 = .ok (.iconst 0, 1) := by decide +kernel
theorem dX5_isMarkedBefore_1 : decode cX5_isMarkedBefore 1 = .ok (.istore_n 2, 1) := by decide +kernel
theorem dX5_isMarkedBefore_2 : decode cX5_isMarkedBefore 2 = .ok (.iload_n 2, 1) := by decide +kernel
theorem dX5_isMarkedBefore_3 : decode cX5_isMarkedBefore 3 = .ok (.iload_n 1, 1) := by decide +kernel
theorem dX5_isMarkedBefore_4 : decode cX5_isMarkedBefore 4 = .ok (.if_icmp .ge 26, 3) := by decide +kernel
theorem dX5_isMarkedBefore_7 : decode cX5_isMarkedBefore 7 = .ok (.aload_n 0, 1) := by decide +kernel
theorem dX5_isMarkedBefore_8 : decode cX5_isMarkedBefore 8 = .ok (.getfield 51, 3) := by decide +kernel
theorem dX5_isMarkedBefore_11 : decode cX5_isMarkedBefore 11 = .ok (.iload_n 2, 1) := by decide +kernel
theorem dX5_isMarkedBefore_12 : decode cX5_isMarkedBefore 12 = .ok (.iaload, 1) := by decide +kernel
theorem dX5_isMarkedBefore_13 : decode cX5_isMarkedBefore 13 = .ok (.aload_n 0, 1) := by decide +kernel
theorem dX5_isMarkedBefore_14 : decode cX5_isMarkedBefore 14 = .ok (.getfield 51, 3) := by decide +kernel
theorem dX5_isMarkedBefore_17 : decode cX5_isMarkedBefore 17 = .ok (.iload_n 1, 1) := by decide +kernel
theorem dX5_isMarkedBefore_18 : decode cX5_isMarkedBefore 18 = .ok (.iaload, 1) := by decide +kernel
theorem dX5_isMarkedBefore_19 : decode cX5_isMarkedBefore 19 = .ok (.if_icmp .ne 5, 3) := by decide +kernel
theorem dX5_isMarkedBefore_22 : decode cX5_isMarkedBefore 22 = .ok (.iconst 1, 1) := by decide +kernel
theorem dX5_isMarkedBefore_23 : decode cX5_isMarkedBefore 23 = .ok (.ireturn, 1) := by decide +kernel
theorem dX5_isMarkedBefore_24 : decode cX5_isMarkedBefore 24 = .ok (.iinc 2 1, 3) := by decide +kernel
theorem dX5_isMarkedBefore_27 : decode cX5_isMarkedBefore 27 = .ok (.goto (-25), 3) := by decide +kernel
theorem dX5_isMarkedBefore_30 : decode cX5_isMarkedBefore 30 = .ok (.iconst 0, 1) := by decide +kernel
theorem dX5_isMarkedBefore_31 : decode cX5_isMarkedBefore 31 = .ok (.ireturn, 1) := by decide +kernel
set_option maxRecDepth 20000 in
theorem ggX5_keptImages_X3_isUnused : GoodIn wsX5_keptImages wsX3_isUnused := goodIn_r _ [5, 6, 15, 16] (by decide +kernel) (by decide +kernel)
set_option maxRecDepth 20000 in
theorem gX5_keptImages_X3_isUnused_n204 : GoodIn wsX5_keptImages (wsX3_isUnused) := ggX5_keptImages_X3_isUnused
theorem dX5_keptImages_0 : decode cX5_keptImages 0 = .ok (.iconst 0, 1) := by decide +kernel
theorem dX5_keptImages_1 : decode cX5_keptImages 1 = .ok (.istore_n 1, 1) := by decide +kernel
theorem dX5_keptImages_2 : decode cX5_keptImages 2 = .ok (.iconst 0, 1) := by decide +kernel
theorem dX5_keptImages_3 : decode cX5_keptImages 3 = .ok (.istore_n 2, 1) := by decide +kernel
theorem dX5_keptImages_4 : decode cX5_keptImages 4 = .ok (.iload_n 2, 1) := by decide +kernel
theorem dX5_keptImages_5 : decode cX5_keptImages 5 = .ok (.iconst 2, 1) := by decide +kernel
theorem dX5_keptImages_6 : decode cX5_keptImages 6 = .ok (.if_icmp .ge 27, 3) := by decide +kernel
theorem dX5_keptImages_9 : decode cX5_keptImages 9 = .ok (.aload_n 0, 1) := by decide +kernel
theorem dX5_keptImages_10 : decode cX5_keptImages 10 = .ok (.getfield 16, 3) := by decide +kernel
theorem dX5_keptImages_13 : decode cX5_keptImages 13 = .ok (.iload_n 2, 1) := by decide +kernel
theorem dX5_keptImages_14 : decode cX5_keptImages 14 = .ok (.aaload, 1) := by decide +kernel
theorem dX5_keptImages_15 : decode cX5_keptImages 15 = .ok (.invokevirtual 204, 3) := by decide +kernel
theorem dX5_keptImages_18 : decode cX5_keptImages 18 = .ok (.ifCond .ne 9, 3) := by decide +kernel
theorem dX5_keptImages_21 : decode cX5_keptImages 21 = .ok (.iload_n 1, 1) := by decide +kernel
theorem dX5_keptImages_22 : decode cX5_keptImages 22 = .ok (.iconst 1, 1) := by decide +kernel
theorem dX5_keptImages_23 : decode cX5_keptImages 23 = .ok (.iload_n 2, 1) := by decide +kernel
theorem dX5_keptImages_24 : decode cX5_keptImages 24 = .ok (.ishl, 1) := by decide +kernel
theorem dX5_keptImages_25 : decode cX5_keptImages 25 = .ok (.ior, 1) := by decide +kernel
theorem dX5_keptImages_26 : decode cX5_keptImages 26 = .ok (.istore_n 1, 1) := by decide +kernel
theorem dX5_keptImages_27 : decode cX5_keptImages 27 = .ok (.iinc 2 1, 3) := by decide +kernel
theorem dX5_keptImages_30 : decode cX5_keptImages 30 = .ok (.goto (-26), 3) := by decide +kernel
theorem dX5_keptImages_33 : decode cX5_keptImages 33 = .ok (.iload_n 1, 1) := by decide +kernel
theorem dX5_keptImages_34 : decode cX5_keptImages 34 = .ok (.ireturn, 1) := by decide +kernel
theorem dX6_init_0 : decode cX6_init 0 = .ok (.aload_n 0, 1) := by decide +kernel
theorem dX6_init_1 : decode cX6_init 1 = .ok (.invokespecial 1, 3) := by decide +kernel
theorem dX6_init_4 : decode cX6_init 4 = .ok (.aload_n 0, 1) := by decide +kernel
theorem dX6_init_5 : decode cX6_init 5 = .ok (.iconst 4, 1) := by decide +kernel
theorem dX6_init_6 : decode cX6_init 6 = .ok (.newarray .int, 2) := by decide +kernel
theorem dX6_init_8 : decode cX6_init 8 = .ok (.putfield 7, 3) := by decide +kernel
theorem dX6_init_11 : decode cX6_init 11 = .ok (.aload_n 0, 1) := by decide +kernel
theorem dX6_init_12 : decode cX6_init 12 = .ok (.bipush 8, 2) := by decide +kernel
theorem dX6_init_14 : decode cX6_init 14 = .ok (.newarray .int, 2) := by decide +kernel
theorem dX6_init_16 : decode cX6_init 16 = .ok (.putfield 13, 3) := by decide +kernel
theorem dX6_init_19 : decode cX6_init 19 = .ok (.aload_n 0, 1) := by decide +kernel
theorem dX6_init_20 : decode cX6_init 20 = .ok (.iconst 2, 1) := by decide +kernel
theorem dX6_init_21 : decode cX6_init 21 = .ok (.newarray .boolean, 2) := by decide +kernel
theorem dX6_init_23 : decode cX6_init 23 = .ok (.putfield 16, 3) := by decide +kernel
theorem dX6_init_26 : decode cX6_init 26 = .ok (.aload_n 0, 1) := by decide +kernel
theorem dX6_init_27 : decode cX6_init 27 = .ok (.bipush 35, 2) := by decide +kernel
theorem dX6_init_29 : decode cX6_init 29 = .ok (.newarray .int, 2) := by decide +kernel
theorem dX6_init_31 : decode cX6_init 31 = .ok (.putfield 20, 3) := by decide +kernel
theorem dX6_init_34 : decode cX6_init 34 = .ok (.aload_n 0, 1) := by decide +kernel
theorem dX6_init_35 : decode cX6_init 35 = .ok (.bipush 7, 2) := by decide +kernel
theorem dX6_init_37 : decode cX6_init 37 = .ok (.newarray .int, 2) := by decide +kernel
theorem dX6_init_39 : decode cX6_init 39 = .ok (.putfield 23, 3) := by decide +kernel
theorem dX6_init_42 : decode cX6_init 42 = .ok (.aload_n 0, 1) := by decide +kernel
theorem dX6_init_43 : decode cX6_init 43 = .ok (.bipush 7, 2) := by decide +kernel
theorem dX6_init_45 : decode cX6_init 45 = .ok (.newarray .boolean, 2) := by decide +kernel
theorem dX6_init_47 : decode cX6_init 47 = .ok (.putfield 26, 3) := by decide +kernel
theorem dX6_init_50 : decode cX6_init 50 = .ok (.aload_n 0, 1) := by decide +kernel
theorem dX6_init_51 : decode cX6_init 51 = .ok (.bipush 49, 2) := by decide +kernel
theorem dX6_init_53 : decode cX6_init 53 = .ok (.newarray .long, 2) := by decide +kernel
theorem dX6_init_55 : decode cX6_init 55 = .ok (.putfield 29, 3) := by decide +kernel
theorem dX6_init_58 : decode cX6_init 58 = .ok (.aload_n 0, 1) := by decide +kernel
theorem dX6_init_59 : decode cX6_init 59 = .ok (.getfield 7, 3) := by decide +kernel
theorem dX6_init_62 : decode cX6_init 62 = .ok (.iconst 0, 1) := by decide +kernel
theorem dX6_init_63 : decode cX6_init 63 = .ok (.iconst 5, 1) := by decide +kernel
theorem dX6_init_64 : decode cX6_init 64 = .ok (.iastore, 1) := by decide +kernel
theorem dX6_init_65 : decode cX6_init 65 = .ok (.return_, 1) := by decide +kernel
theorem dX6_in_0 : decode cX6_in 0 = .ok (.iload_n 0, 1) := by decide +kernel
theorem dX6_in_1 : decode cX6_in 1 = .ok (.iload_n 1, 1) := by decide +kernel
theorem dX6_in_2 : decode cX6_in 2 = .ok (.if_icmp .lt 12, 3) := by decide +kernel
theorem dX6_in_5 : decode cX6_in 5 = .ok (.iload_n 0, 1) := by decide +kernel
theorem dX6_in_6 : decode cX6_in 6 = .ok (.iload_n 2, 1) := by decide +kernel
theorem dX6_in_7 : decode cX6_in 7 = .ok (.if_icmp .gt 7, 3) := by decide +kernel
theorem dX6_in_10 : decode cX6_in 10 = .ok (.iconst 1, 1) := by decide +kernel
theorem dX6_in_11 : decode cX6_in 11 = .ok (.goto 4, 3) := by decide +kernel
theorem dX6_in_14 : decode cX6_in 14 = .ok (.iconst 0, 1) := by decide +kernel
theorem dX6_in_15 : decode cX6_in 15 = .ok (.ireturn, 1) := by decide +kernel
set_option maxRecDepth 20000 in
theorem ggX6_isSlot_X6_in : GoodIn wsX6_isSlot wsX6_in := goodIn_r _ [4] (by decide +kernel) (by decide +kernel)
set_option maxRecDepth 20000 in
theorem gX6_isSlot_X6_in : GoodIn wsX6_isSlot (va_wsS RX6 33 yX6_in wsX6_in) := goodIn_app (goodIn_of _ (by decide +kernel)) ggX6_isSlot_X6_in
theorem dX6_isSlot_0 : decode cX6_isSlot 0 = .ok (.iload_n 0, 1) := by decide +kernel
theorem dX6_isSlot_1 : decode cX6_isSlot 1 = .ok (.iconst 0, 1) := by decide +kernel
theorem dX6_isSlot_2 : decode cX6_isSlot 2 = .ok (.iconst 2, 1) := by decide +kernel
theorem dX6_isSlot_3 : decode cX6_isSlot 3 = .ok (.invokestatic 33, 3) := by decide +kernel
theorem dX6_isSlot_6 : decode cX6_isSlot 6 = .ok (.ireturn, 1) := by decide +kernel
set_option maxRecDepth 20000 in
theorem ggX6_isNode_X6_in : GoodIn wsX6_isNode wsX6_in := goodIn_r _ [5] (by decide +kernel) (by decide +kernel)
set_option maxRecDepth 20000 in
theorem gX6_isNode_X6_in : GoodIn wsX6_isNode (va_wsS RX6 33 yX6_in wsX6_in) := goodIn_app (goodIn_of _ (by decide +kernel)) ggX6_isNode_X6_in
theorem dX6_isNode_0 : decode cX6_isNode 0 = .ok (.iload_n 1, 1) := by decide +kernel
theorem dX6_isNode_1 : decode cX6_isNode 1 = .ok (.iconst 0, 1) := by decide +kernel
theorem dX6_isNode_2 : decode cX6_isNode 2 = .ok (.aload_n 0, 1) := by decide +kernel
theorem dX6_isNode_3 : decode cX6_isNode 3 = .ok (.getfield 7, 3) := by decide +kernel
theorem dX6_isNode_6 : decode cX6_isNode 6 = .ok (.iconst 0, 1) := by decide +kernel
theorem dX6_isNode_7 : decode cX6_isNode 7 = .ok (.iaload, 1) := by decide +kernel
theorem dX6_isNode_8 : decode cX6_isNode 8 = .ok (.iconst 1, 1) := by decide +kernel
theorem dX6_isNode_9 : decode cX6_isNode 9 = .ok (.isub, 1) := by decide +kernel
theorem dX6_isNode_10 : decode cX6_isNode 10 = .ok (.invokestatic 33, 3) := by decide +kernel
theorem dX6_isNode_13 : decode cX6_isNode 13 = .ok (.ireturn, 1) := by decide +kernel
theorem dX6_pairs_0 : decode cX6_pairs 0 = .ok (.iload_n 0, 1) := by decide +kernel
theorem dX6_pairs_1 : decode cX6_pairs 1 = .ok (.iload_n 0, 1) := by decide +kernel
theorem dX6_pairs_2 : decode cX6_pairs 2 = .ok (.iconst 1, 1) := by decide +kernel
theorem dX6_pairs_3 : decode cX6_pairs 3 = .ok (.isub, 1) := by decide +kernel
theorem dX6_pairs_4 : decode cX6_pairs 4 = .ok (.imul, 1) := by decide +kernel
theorem dX6_pairs_5 : decode cX6_pairs 5 = .ok (.iconst 2, 1) := by decide +kernel
theorem dX6_pairs_6 : decode cX6_pairs 6 = .ok (.idiv, 1) := by decide +kernel
theorem dX6_pairs_7 : decode cX6_pairs 7 = .ok (.ireturn, 1) := by decide +kernel
theorem dX6_triples_0 : decode cX6_triples 0 = .ok (.iload_n 0, 1) := by decide +kernel
theorem dX6_triples_1 : decode cX6_triples 1 = .ok (.iload_n 0, 1) := by decide +kernel
theorem dX6_triples_2 : decode cX6_triples 2 = .ok (.iconst 1, 1) := by decide +kernel
theorem dX6_triples_3 : decode cX6_triples 3 = .ok (.isub, 1) := by decide +kernel
theorem dX6_triples_4 : decode cX6_triples 4 = .ok (.imul, 1) := by decide +kernel
theorem dX6_triples_5 : decode cX6_triples 5 = .ok (.iload_n 0, 1) := by decide +kernel
theorem dX6_triples_6 : decode cX6_triples 6 = .ok (.iconst 2, 1) := by decide +kernel
theorem dX6_triples_7 : decode cX6_triples 7 = .ok (.isub, 1) := by decide +kernel
theorem dX6_triples_8 : decode cX6_triples 8 = .ok (.imul, 1) := by decide +kernel
theorem dX6_triples_9 : decode cX6_triples 9 = .ok (.bipush 6, 2) := by decide +kernel
theorem dX6_triples_11 : decode cX6_triples 11 = .ok (.idiv, 1) := by decide +kernel
theorem dX6_triples_12 : decode cX6_triples 12 = .ok (.ireturn, 1) := by decide +kernel
set_option maxRecDepth 20000 in
theorem ggX6_valueOf_X6_pairs : GoodIn wsX6_valueOf wsX6_pairs := goodIn_r _ [4] (by decide +kernel) (by decide +kernel)
set_option maxRecDepth 20000 in
theorem gX6_valueOf_X6_pairs : GoodIn wsX6_valueOf (va_wsS RX6 37 yX6_pairs wsX6_pairs) := goodIn_app (goodIn_of _ (by decide +kernel)) ggX6_valueOf_X6_pairs
theorem dX6_valueOf_0 : decode cX6_valueOf 0 = .ok (.iload_n 1, 1) := by decide +kernel
theorem dX6_valueOf_1 : decode cX6_valueOf 1 = .ok (.iload_n 2, 1) := by decide +kernel
theorem dX6_valueOf_2 : decode cX6_valueOf 2 = .ok (.if_icmp .ge 7, 3) := by decide +kernel
theorem dX6_valueOf_5 : decode cX6_valueOf 5 = .ok (.iload_n 1, 1) := by decide +kernel
theorem dX6_valueOf_6 : decode cX6_valueOf 6 = .ok (.goto 4, 3) := by decide +kernel
theorem dX6_valueOf_9 : decode cX6_valueOf 9 = .ok (.iload_n 2, 1) := by decide +kernel
theorem dX6_valueOf_10 : decode cX6_valueOf 10 = .ok (.istore_n 3, 1) := by decide +kernel
theorem dX6_valueOf_11 : decode cX6_valueOf 11 = .ok (.iload_n 1, 1) := by decide +kernel
theorem dX6_valueOf_12 : decode cX6_valueOf 12 = .ok (.iload_n 2, 1) := by decide +kernel
theorem dX6_valueOf_13 : decode cX6_valueOf 13 = .ok (.if_icmp .ge 7, 3) := by decide +kernel
theorem dX6_valueOf_16 : decode cX6_valueOf 16 = .ok (.iload_n 2, 1) := by decide +kernel
theorem dX6_valueOf_17 : decode cX6_valueOf 17 = .ok (.goto 4, 3) := by decide +kernel
theorem dX6_valueOf_20 : decode cX6_valueOf 20 = .ok (.iload_n 1, 1) := by decide +kernel
theorem dX6_valueOf_21 : decode cX6_valueOf 21 = .ok (.istore 4, 2) := by decide +kernel
theorem dX6_valueOf_23 : decode cX6_valueOf 23 = .ok (.iload_n 3, 1) := by decide +kernel
theorem dX6_valueOf_24 : decode cX6_valueOf 24 = .ok (.iconst 2, 1) := by decide +kernel
theorem dX6_valueOf_25 : decode cX6_valueOf 25 = .ok (.iload_n 0, 1) := by decide +kernel
theorem dX6_valueOf_26 : decode cX6_valueOf 26 = .ok (.imul, 1) := by decide +kernel
theorem dX6_valueOf_27 : decode cX6_valueOf 27 = .ok (.iload_n 3, 1) := by decide +kernel
theorem dX6_valueOf_28 : decode cX6_valueOf 28 = .ok (.isub, 1) := by decide +kernel
theorem dX6_valueOf_29 : decode cX6_valueOf 29 = .ok (.iconst 1, 1) := by decide +kernel
theorem dX6_valueOf_30 : decode cX6_valueOf 30 = .ok (.isub, 1) := by decide +kernel
theorem dX6_valueOf_31 : decode cX6_valueOf 31 = .ok (.imul, 1) := by decide +kernel
theorem dX6_valueOf_32 : decode cX6_valueOf 32 = .ok (.iconst 2, 1) := by decide +kernel
theorem dX6_valueOf_33 : decode cX6_valueOf 33 = .ok (.idiv, 1) := by decide +kernel
theorem dX6_valueOf_34 : decode cX6_valueOf 34 = .ok (.iload 4, 2) := by decide +kernel
theorem dX6_valueOf_36 : decode cX6_valueOf 36 = .ok (.iadd, 1) := by decide +kernel
theorem dX6_valueOf_37 : decode cX6_valueOf 37 = .ok (.iload_n 3, 1) := by decide +kernel
theorem dX6_valueOf_38 : decode cX6_valueOf 38 = .ok (.isub, 1) := by decide +kernel
theorem dX6_valueOf_39 : decode cX6_valueOf 39 = .ok (.iconst 1, 1) := by decide +kernel
theorem dX6_valueOf_40 : decode cX6_valueOf 40 = .ok (.isub, 1) := by decide +kernel
theorem dX6_valueOf_41 : decode cX6_valueOf 41 = .ok (.istore 5, 2) := by decide +kernel
theorem dX6_valueOf_43 : decode cX6_valueOf 43 = .ok (.iconst 1, 1) := by decide +kernel
theorem dX6_valueOf_44 : decode cX6_valueOf 44 = .ok (.iload_n 0, 1) := by decide +kernel
theorem dX6_valueOf_45 : decode cX6_valueOf 45 = .ok (.invokestatic 37, 3) := by decide +kernel
theorem dX6_valueOf_48 : decode cX6_valueOf 48 = .ok (.iconst 1, 1) := by decide +kernel
theorem dX6_valueOf_49 : decode cX6_valueOf 49 = .ok (.isub, 1) := by decide +kernel
theorem dX6_valueOf_50 : decode cX6_valueOf 50 = .ok (.iload 5, 2) := by decide +kernel
theorem dX6_valueOf_52 : decode cX6_valueOf 52 = .ok (.isub, 1) := by decide +kernel
theorem dX6_valueOf_53 : decode cX6_valueOf 53 = .ok (.ishl, 1) := by decide +kernel
theorem dX6_valueOf_54 : decode cX6_valueOf 54 = .ok (.ireturn, 1) := by decide +kernel
set_option maxRecDepth 20000 in
theorem ggX6_joined_X6_valueOf : GoodIn wsX6_joined wsX6_valueOf := goodIn_r _ [4, 5, 6, 3, 7] (by decide +kernel) (by decide +kernel)
set_option maxRecDepth 20000 in
theorem gX6_joined_X6_valueOf : GoodIn wsX6_joined (va_wsS RX6 41 yX6_valueOf wsX6_valueOf) := goodIn_app (goodIn_of _ (by decide +kernel)) ggX6_joined_X6_valueOf
theorem dX6_joined_0 : decode cX6_joined 0 = .ok (.iload_n 2, 1) := by decide +kernel
theorem dX6_joined_1 : decode cX6_joined 1 = .ok (.iload_n 3, 1) := by decide +kernel
theorem dX6_joined_2 : decode cX6_joined 2 = .ok (.if_icmp .eq 18, 3) := by decide +kernel
theorem dX6_joined_5 : decode cX6_joined 5 = .ok (.iload_n 1, 1) := by decide +kernel
theorem dX6_joined_6 : decode cX6_joined 6 = .ok (.iload_n 0, 1) := by decide +kernel
theorem dX6_joined_7 : decode cX6_joined 7 = .ok (.iload_n 2, 1) := by decide +kernel
theorem dX6_joined_8 : decode cX6_joined 8 = .ok (.iload_n 3, 1) := by decide +kernel
theorem dX6_joined_9 : decode cX6_joined 9 = .ok (.invokestatic 41, 3) := by decide +kernel
theorem dX6_joined_12 : decode cX6_joined 12 = .ok (.iand, 1) := by decide +kernel
theorem dX6_joined_13 : decode cX6_joined 13 = .ok (.ifCond .eq 7, 3) := by decide +kernel
theorem dX6_joined_16 : decode cX6_joined 16 = .ok (.iconst 1, 1) := by decide +kernel
theorem dX6_joined_17 : decode cX6_joined 17 = .ok (.goto 4, 3) := by decide +kernel
theorem dX6_joined_20 : decode cX6_joined 20 = .ok (.iconst 0, 1) := by decide +kernel
theorem dX6_joined_21 : decode cX6_joined 21 = .ok (.ireturn, 1) := by decide +kernel
theorem dX6_size_0 : decode cX6_size 0 = .ok (.iconst 0, 1) := by decide +kernel
theorem dX6_size_1 : decode cX6_size 1 = .ok (.istore_n 1, 1) := by decide +kernel
theorem dX6_size_2 : decode cX6_size 2 = .ok (.iconst 0, 1) := by decide +kernel
theorem dX6_size_3 : decode cX6_size 3 = .ok (.istore_n 2, 1) := by decide +kernel
theorem dX6_size_4 : decode cX6_size 4 = .ok (.iload_n 2, 1) := by decide +kernel
theorem dX6_size_5 : decode cX6_size 5 = .ok (.bipush 21, 2) := by decide +kernel
theorem dX6_size_7 : decode cX6_size 7 = .ok (.if_icmp .ge 17, 3) := by decide +kernel
theorem dX6_size_10 : decode cX6_size 10 = .ok (.iload_n 1, 1) := by decide +kernel
theorem dX6_size_11 : decode cX6_size 11 = .ok (.iload_n 0, 1) := by decide +kernel
theorem dX6_size_12 : decode cX6_size 12 = .ok (.iload_n 2, 1) := by decide +kernel
theorem dX6_size_13 : decode cX6_size 13 = .ok (.ishr, 1) := by decide +kernel
theorem dX6_size_14 : decode cX6_size 14 = .ok (.iconst 1, 1) := by decide +kernel
theorem dX6_size_15 : decode cX6_size 15 = .ok (.iand, 1) := by decide +kernel
theorem dX6_size_16 : decode cX6_size 16 = .ok (.iadd, 1) := by decide +kernel
theorem dX6_size_17 : decode cX6_size 17 = .ok (.istore_n 1, 1) := by decide +kernel
theorem dX6_size_18 : decode cX6_size 18 = .ok (.iinc 2 1, 3) := by decide +kernel
theorem dX6_size_21 : decode cX6_size 21 = .ok (.goto (-17), 3) := by decide +kernel
theorem dX6_size_24 : decode cX6_size 24 = .ok (.iload_n 1, 1) := by decide +kernel
theorem dX6_size_25 : decode cX6_size 25 = .ok (.ireturn, 1) := by decide +kernel
set_option maxRecDepth 20000 in
theorem ggX6_switched_X6_valueOf : GoodIn wsX6_switched wsX6_valueOf := goodIn_r _ [4, 5, 6, 3, 7] (by decide +kernel) (by decide +kernel)
set_option maxRecDepth 20000 in
theorem gX6_switched_X6_valueOf : GoodIn wsX6_switched (va_wsS RX6 41 yX6_valueOf wsX6_valueOf) := goodIn_app (goodIn_of _ (by decide +kernel)) ggX6_switched_X6_valueOf
theorem dX6_switched_0 : decode cX6_switched 0 = .ok (.iload_n 1, 1) := by decide +kernel
theorem dX6_switched_1 : decode cX6_switched 1 = .ok (.istore_n 3, 1) := by decide +kernel
theorem dX6_switched_2 : decode cX6_switched 2 = .ok (.iconst 0, 1) := by decide +kernel
theorem dX6_switched_3 : decode cX6_switched 3 = .ok (.istore 4, 2) := by decide +kernel
theorem dX6_switched_5 : decode cX6_switched 5 = .ok (.iload 4, 2) := by decide +kernel
theorem dX6_switched_7 : decode cX6_switched 7 = .ok (.iload_n 0, 1) := by decide +kernel
theorem dX6_switched_8 : decode cX6_switched 8 = .ok (.if_icmp .ge 57, 3) := by decide +kernel
theorem dX6_switched_11 : decode cX6_switched 11 = .ok (.iload 4, 2) := by decide +kernel
theorem dX6_switched_13 : decode cX6_switched 13 = .ok (.iconst 1, 1) := by decide +kernel
theorem dX6_switched_14 : decode cX6_switched 14 = .ok (.iadd, 1) := by decide +kernel
theorem dX6_switched_15 : decode cX6_switched 15 = .ok (.istore 5, 2) := by decide +kernel
theorem dX6_switched_17 : decode cX6_switched 17 = .ok (.iload 5, 2) := by decide +kernel
theorem dX6_switched_19 : decode cX6_switched 19 = .ok (.iload_n 0, 1) := by decide +kernel
theorem dX6_switched_20 : decode cX6_switched 20 = .ok (.if_icmp .ge 39, 3) := by decide +kernel
theorem dX6_switched_23 : decode cX6_switched 23 = .ok (.iload_n 3, 1) := by decide +kernel
theorem dX6_switched_24 : decode cX6_switched 24 = .ok (.iload_n 2, 1) := by decide +kernel
theorem dX6_switched_25 : decode cX6_switched 25 = .ok (.iload 4, 2) := by decide +kernel
theorem dX6_switched_27 : decode cX6_switched 27 = .ok (.ishr, 1) := by decide +kernel
theorem dX6_switched_28 : decode cX6_switched 28 = .ok (.iconst 1, 1) := by decide +kernel
theorem dX6_switched_29 : decode cX6_switched 29 = .ok (.iand, 1) := by decide +kernel
theorem dX6_switched_30 : decode cX6_switched 30 = .ok (.iload_n 2, 1) := by decide +kernel
theorem dX6_switched_31 : decode cX6_switched 31 = .ok (.iload 5, 2) := by decide +kernel
theorem dX6_switched_33 : decode cX6_switched 33 = .ok (.ishr, 1) := by decide +kernel
theorem dX6_switched_34 : decode cX6_switched 34 = .ok (.iconst 1, 1) := by decide +kernel
theorem dX6_switched_35 : decode cX6_switched 35 = .ok (.iand, 1) := by decide +kernel
theorem dX6_switched_36 : decode cX6_switched 36 = .ok (.if_icmp .ne 7, 3) := by decide +kernel
theorem dX6_switched_39 : decode cX6_switched 39 = .ok (.iconst 0, 1) := by decide +kernel
theorem dX6_switched_40 : decode cX6_switched 40 = .ok (.goto 11, 3) := by decide +kernel
theorem dX6_switched_43 : decode cX6_switched 43 = .ok (.iload_n 0, 1) := by decide +kernel
theorem dX6_switched_44 : decode cX6_switched 44 = .ok (.iload 4, 2) := by decide +kernel
theorem dX6_switched_46 : decode cX6_switched 46 = .ok (.iload 5, 2) := by decide +kernel
theorem dX6_switched_48 : decode cX6_switched 48 = .ok (.invokestatic 41, 3) := by decide +kernel
theorem dX6_switched_51 : decode cX6_switched 51 = .ok (.ixor, 1) := by decide +kernel
theorem dX6_switched_52 : decode cX6_switched 52 = .ok (.istore_n 3, 1) := by decide +kernel
theorem dX6_switched_53 : decode cX6_switched 53 = .ok (.iinc 5 1, 3) := by decide +kernel
theorem dX6_switched_56 : decode cX6_switched 56 = .ok (.goto (-39), 3) := by decide +kernel
theorem dX6_switched_59 : decode cX6_switched 59 = .ok (.iinc 4 1, 3) := by decide +kernel
theorem dX6_switched_62 : decode cX6_switched 62 = .ok (.goto (-57), 3) := by decide +kernel
theorem dX6_switched_65 : decode cX6_switched 65 = .ok (.iload_n 3, 1) := by decide +kernel
theorem dX6_switched_66 : decode cX6_switched 66 = .ok (.ireturn, 1) := by decide +kernel
set_option maxRecDepth 20000 in
theorem ggX6_neighbours_X6_joined : GoodIn wsX6_neighbours wsX6_joined := goodIn_r _ [4, 5, 6, 3, 7, 8, 9, 10] (by decide +kernel) (by decide +kernel)
set_option maxRecDepth 20000 in
theorem gX6_neighbours_X6_joined : GoodIn wsX6_neighbours (va_wsS RX6 45 yX6_joined wsX6_joined) := goodIn_app (goodIn_of _ (by decide +kernel)) ggX6_neighbours_X6_joined
theorem dX6_neighbours_0 : decode cX6_neighbours 0 = .ok (.iconst 0, 1) := by decide +kernel
theorem dX6_neighbours_1 : decode cX6_neighbours 1 = .ok (.istore_n 3, 1) := by decide +kernel
theorem dX6_neighbours_2 : decode cX6_neighbours 2 = .ok (.iconst 0, 1) := by decide +kernel
theorem dX6_neighbours_3 : decode cX6_neighbours 3 = .ok (.istore 4, 2) := by decide +kernel
theorem dX6_neighbours_5 : decode cX6_neighbours 5 = .ok (.iload 4, 2) := by decide +kernel
theorem dX6_neighbours_7 : decode cX6_neighbours 7 = .ok (.iload_n 0, 1) := by decide +kernel
theorem dX6_neighbours_8 : decode cX6_neighbours 8 = .ok (.if_icmp .ge 23, 3) := by decide +kernel
theorem dX6_neighbours_11 : decode cX6_neighbours 11 = .ok (.iload_n 3, 1) := by decide +kernel
theorem dX6_neighbours_12 : decode cX6_neighbours 12 = .ok (.iload_n 0, 1) := by decide +kernel
theorem dX6_neighbours_13 : decode cX6_neighbours 13 = .ok (.iload_n 1, 1) := by decide +kernel
theorem dX6_neighbours_14 : decode cX6_neighbours 14 = .ok (.iload_n 2, 1) := by decide +kernel
theorem dX6_neighbours_15 : decode cX6_neighbours 15 = .ok (.iload 4, 2) := by decide +kernel
theorem dX6_neighbours_17 : decode cX6_neighbours 17 = .ok (.invokestatic 45, 3) := by decide +kernel
theorem dX6_neighbours_20 : decode cX6_neighbours 20 = .ok (.iload 4, 2) := by decide +kernel
theorem dX6_neighbours_22 : decode cX6_neighbours 22 = .ok (.ishl, 1) := by decide +kernel
theorem dX6_neighbours_23 : decode cX6_neighbours 23 = .ok (.ior, 1) := by decide +kernel
theorem dX6_neighbours_24 : decode cX6_neighbours 24 = .ok (.istore_n 3, 1) := by decide +kernel
theorem dX6_neighbours_25 : decode cX6_neighbours 25 = .ok (.iinc 4 1, 3) := by decide +kernel
theorem dX6_neighbours_28 : decode cX6_neighbours 28 = .ok (.goto (-23), 3) := by decide +kernel
theorem dX6_neighbours_31 : decode cX6_neighbours 31 = .ok (.iload_n 3, 1) := by decide +kernel
theorem dX6_neighbours_32 : decode cX6_neighbours 32 = .ok (.ireturn, 1) := by decide +kernel
set_option maxRecDepth 20000 in
theorem ggX6_degree_X6_neighbours : GoodIn wsX6_degree wsX6_neighbours := goodIn_r _ [4, 5, 6, 3, 7, 8, 9, 10, 11, 12, 13] (by decide +kernel) (by decide +kernel)
set_option maxRecDepth 20000 in
theorem gX6_degree_X6_neighbours : GoodIn wsX6_degree (va_wsS RX6 49 yX6_neighbours wsX6_neighbours) := goodIn_app (goodIn_of _ (by decide +kernel)) ggX6_degree_X6_neighbours
set_option maxRecDepth 20000 in
theorem ggX6_degree_X6_size : GoodIn wsX6_degree wsX6_size := goodIn_r _ [16] (by decide +kernel) (by decide +kernel)
set_option maxRecDepth 20000 in
theorem gX6_degree_X6_size : GoodIn wsX6_degree (va_wsS RX6 52 yX6_size wsX6_size) := goodIn_app (goodIn_of _ (by decide +kernel)) ggX6_degree_X6_size
theorem dX6_degree_0 : decode cX6_degree 0 = .ok (.iload_n 0, 1) := by decide +kernel
theorem dX6_degree_1 : decode cX6_degree 1 = .ok (.iload_n 1, 1) := by decide +kernel
theorem dX6_degree_2 : decode cX6_degree 2 = .ok (.iload_n 2, 1) := by decide +kernel
theorem dX6_degree_3 : decode cX6_degree 3 = .ok (.invokestatic 49, 3) := by decide +kernel
theorem dX6_degree_6 : decode cX6_degree 6 = .ok (.invokestatic 52, 3) := by decide +kernel
theorem dX6_degree_9 : decode cX6_degree 9 = .ok (.ireturn, 1) := by decide +kernel
set_option maxRecDepth 20000 in
theorem ggX6_alone_X6_neighbours : GoodIn wsX6_alone wsX6_neighbours := goodIn_r _ [4, 5, 6, 3, 7, 8, 9, 10, 11, 12, 13] (by decide +kernel) (by decide +kernel)
set_option maxRecDepth 20000 in
theorem gX6_alone_X6_neighbours : GoodIn wsX6_alone (va_wsS RX6 49 yX6_neighbours wsX6_neighbours) := goodIn_app (goodIn_of _ (by decide +kernel)) ggX6_alone_X6_neighbours
set_option maxRecDepth 20000 in
theorem ggX6_alone_X6_switched : GoodIn wsX6_alone wsX6_switched := goodIn_r _ [16, 8, 9, 3, 10, 11, 12, 13] (by decide +kernel) (by decide +kernel)
set_option maxRecDepth 20000 in
theorem gX6_alone_X6_switched : GoodIn wsX6_alone (va_wsS RX6 55 yX6_switched wsX6_switched) := goodIn_app (goodIn_of _ (by decide +kernel)) ggX6_alone_X6_switched
theorem dX6_alone_0 : decode cX6_alone 0 = .ok (.iload_n 0, 1) := by decide +kernel
theorem dX6_alone_1 : decode cX6_alone 1 = .ok (.iload_n 1, 1) := by decide +kernel
theorem dX6_alone_2 : decode cX6_alone 2 = .ok (.iload_n 0, 1) := by decide +kernel
theorem dX6_alone_3 : decode cX6_alone 3 = .ok (.iload_n 1, 1) := by decide +kernel
theorem dX6_alone_4 : decode cX6_alone 4 = .ok (.iload_n 2, 1) := by decide +kernel
theorem dX6_alone_5 : decode cX6_alone 5 = .ok (.invokestatic 49, 3) := by decide +kernel
theorem dX6_alone_8 : decode cX6_alone 8 = .ok (.invokestatic 55, 3) := by decide +kernel
theorem dX6_alone_11 : decode cX6_alone 11 = .ok (.ireturn, 1) := by decide +kernel
set_option maxRecDepth 20000 in
theorem ggX6_isOdd_X6_joined : GoodIn wsX6_isOdd wsX6_joined := goodIn_r _ [4, 5, 6, 3, 7, 8, 9, 10] (by decide +kernel) (by decide +kernel)
set_option maxRecDepth 20000 in
theorem gX6_isOdd_X6_joined : GoodIn wsX6_isOdd (va_wsS RX6 45 yX6_joined wsX6_joined) := goodIn_app (goodIn_of _ (by decide +kernel)) ggX6_isOdd_X6_joined
theorem dX6_isOdd_0 : decode cX6_isOdd 0 = .ok (.iload_n 0, 1) := by decide +kernel
theorem dX6_isOdd_1 : decode cX6_isOdd 1 = .ok (.iload_n 1, 1) := by decide +kernel
theorem dX6_isOdd_2 : decode cX6_isOdd 2 = .ok (.iload_n 2, 1) := by decide +kernel
theorem dX6_isOdd_3 : decode cX6_isOdd 3 = .ok (.iload_n 3, 1) := by decide +kernel
theorem dX6_isOdd_4 : decode cX6_isOdd 4 = .ok (.invokestatic 45, 3) := by decide +kernel
theorem dX6_isOdd_7 : decode cX6_isOdd 7 = .ok (.iload_n 0, 1) := by decide +kernel
theorem dX6_isOdd_8 : decode cX6_isOdd 8 = .ok (.iload_n 1, 1) := by decide +kernel
theorem dX6_isOdd_9 : decode cX6_isOdd 9 = .ok (.iload_n 2, 1) := by decide +kernel
theorem dX6_isOdd_10 : decode cX6_isOdd 10 = .ok (.iload 4, 2) := by decide +kernel
theorem dX6_isOdd_12 : decode cX6_isOdd 12 = .ok (.invokestatic 45, 3) := by decide +kernel
theorem dX6_isOdd_15 : decode cX6_isOdd 15 = .ok (.iadd, 1) := by decide +kernel
theorem dX6_isOdd_16 : decode cX6_isOdd 16 = .ok (.iload_n 0, 1) := by decide +kernel
theorem dX6_isOdd_17 : decode cX6_isOdd 17 = .ok (.iload_n 1, 1) := by decide +kernel
theorem dX6_isOdd_18 : decode cX6_isOdd 18 = .ok (.iload_n 3, 1) := by decide +kernel
theorem dX6_isOdd_19 : decode cX6_isOdd 19 = .ok (.iload 4, 2) := by decide +kernel
theorem dX6_isOdd_21 : decode cX6_isOdd 21 = .ok (.invokestatic 45, 3) := by decide +kernel
theorem dX6_isOdd_24 : decode cX6_isOdd 24 = .ok (.iadd, 1) := by decide +kernel
theorem dX6_isOdd_25 : decode cX6_isOdd 25 = .ok (.iconst 2, 1) := by decide +kernel
theorem dX6_isOdd_26 : decode cX6_isOdd 26 = .ok (.irem, 1) := by decide +kernel
theorem dX6_isOdd_27 : decode cX6_isOdd 27 = .ok (.iconst 1, 1) := by decide +kernel
theorem dX6_isOdd_28 : decode cX6_isOdd 28 = .ok (.if_icmp .ne 7, 3) := by decide +kernel
theorem dX6_isOdd_31 : decode cX6_isOdd 31 = .ok (.iconst 1, 1) := by decide +kernel
theorem dX6_isOdd_32 : decode cX6_isOdd 32 = .ok (.goto 4, 3) := by decide +kernel
theorem dX6_isOdd_35 : decode cX6_isOdd 35 = .ok (.iconst 0, 1) := by decide +kernel
theorem dX6_isOdd_36 : decode cX6_isOdd 36 = .ok (.ireturn, 1) := by decide +kernel
set_option maxRecDepth 20000 in
theorem ggX6_oddOfPair_X6_isOdd : GoodIn wsX6_oddOfPair wsX6_isOdd := goodIn_r _ [4, 5, 6, 3, 7, 8, 9, 10, 11, 12, 13] (by decide +kernel) (by decide +kernel)
set_option maxRecDepth 20000 in
theorem gX6_oddOfPair_X6_isOdd : GoodIn wsX6_oddOfPair (va_wsS RX6 58 yX6_isOdd wsX6_isOdd) := goodIn_app (goodIn_of _ (by decide +kernel)) ggX6_oddOfPair_X6_isOdd
theorem dX6_oddOfPair_0 : decode cX6_oddOfPair 0 = .ok (.iconst 0, 1) := by decide +kernel
theorem dX6_oddOfPair_1 : decode cX6_oddOfPair 1 = .ok (.istore 4, 2) := by decide +kernel
theorem dX6_oddOfPair_3 : decode cX6_oddOfPair 3 = .ok (.iconst 0, 1) := by decide +kernel
theorem dX6_oddOfPair_4 : decode cX6_oddOfPair 4 = .ok (.istore 5, 2) := by decide +kernel
theorem dX6_oddOfPair_6 : decode cX6_oddOfPair 6 = .ok (.iload 5, 2) := by decide +kernel
theorem dX6_oddOfPair_8 : decode cX6_oddOfPair 8 = .ok (.iload_n 0, 1) := by decide +kernel
theorem dX6_oddOfPair_9 : decode cX6_oddOfPair 9 = .ok (.if_icmp .ge 43, 3) := by decide +kernel
theorem dX6_oddOfPair_12 : decode cX6_oddOfPair 12 = .ok (.iload 4, 2) := by decide +kernel
theorem dX6_oddOfPair_14 : decode cX6_oddOfPair 14 = .ok (.iload 5, 2) := by decide +kernel
theorem dX6_oddOfPair_16 : decode cX6_oddOfPair 16 = .ok (.iload_n 2, 1) := by decide +kernel
theorem dX6_oddOfPair_17 : decode cX6_oddOfPair 17 = .ok (.if_icmp .eq 25, 3) := by decide +kernel
theorem dX6_oddOfPair_20 : decode cX6_oddOfPair 20 = .ok (.iload 5, 2) := by decide +kernel
theorem dX6_oddOfPair_22 : decode cX6_oddOfPair 22 = .ok (.iload_n 3, 1) := by decide +kernel
theorem dX6_oddOfPair_23 : decode cX6_oddOfPair 23 = .ok (.if_icmp .eq 19, 3) := by decide +kernel
theorem dX6_oddOfPair_26 : decode cX6_oddOfPair 26 = .ok (.iload_n 0, 1) := by decide +kernel
theorem dX6_oddOfPair_27 : decode cX6_oddOfPair 27 = .ok (.iload_n 1, 1) := by decide +kernel
theorem dX6_oddOfPair_28 : decode cX6_oddOfPair 28 = .ok (.iload_n 2, 1) := by decide +kernel
theorem dX6_oddOfPair_29 : decode cX6_oddOfPair 29 = .ok (.iload_n 3, 1) := by decide +kernel
theorem dX6_oddOfPair_30 : decode cX6_oddOfPair 30 = .ok (.iload 5, 2) := by decide +kernel
theorem dX6_oddOfPair_32 : decode cX6_oddOfPair 32 = .ok (.invokestatic 58, 3) := by decide +kernel
theorem dX6_oddOfPair_35 : decode cX6_oddOfPair 35 = .ok (.ifCond .eq 7, 3) := by decide +kernel
theorem dX6_oddOfPair_38 : decode cX6_oddOfPair 38 = .ok (.iconst 1, 1) := by decide +kernel
theorem dX6_oddOfPair_39 : decode cX6_oddOfPair 39 = .ok (.goto 4, 3) := by decide +kernel
theorem dX6_oddOfPair_42 : decode cX6_oddOfPair 42 = .ok (.iconst 0, 1) := by decide +kernel
theorem dX6_oddOfPair_43 : decode cX6_oddOfPair 43 = .ok (.iadd, 1) := by decide +kernel
theorem dX6_oddOfPair_44 : decode cX6_oddOfPair 44 = .ok (.istore 4, 2) := by decide +kernel
theorem dX6_oddOfPair_46 : decode cX6_oddOfPair 46 = .ok (.iinc 5 1, 3) := by decide +kernel
theorem dX6_oddOfPair_49 : decode cX6_oddOfPair 49 = .ok (.goto (-43), 3) := by decide +kernel
theorem dX6_oddOfPair_52 : decode cX6_oddOfPair 52 = .ok (.iload 4, 2) := by decide +kernel
theorem dX6_oddOfPair_54 : decode cX6_oddOfPair 54 = .ok (.ireturn, 1) := by decide +kernel
set_option maxRecDepth 20000 in
theorem ggX6_oddOfNode_X6_oddOfPair : GoodIn wsX6_oddOfNode wsX6_oddOfPair := goodIn_r _ [4, 5, 6, 3, 7, 8, 9, 10, 11, 12, 13, 14, 15, 16] (by decide +kernel) (by decide +kernel)
set_option maxRecDepth 20000 in
theorem gX6_oddOfNode_X6_oddOfPair : GoodIn wsX6_oddOfNode (va_wsS RX6 62 yX6_oddOfPair wsX6_oddOfPair) := goodIn_app (goodIn_of _ (by decide +kernel)) ggX6_oddOfNode_X6_oddOfPair
theorem dX6_oddOfNode_0 : decode cX6_oddOfNode 0 = .ok (.iconst 0, 1) := by decide +kernel
theorem dX6_oddOfNode_1 : decode cX6_oddOfNode 1 = .ok (.istore_n 3, 1) := by decide +kernel
theorem dX6_oddOfNode_2 : decode cX6_oddOfNode 2 = .ok (.iconst 0, 1) := by decide +kernel
theorem dX6_oddOfNode_3 : decode cX6_oddOfNode 3 = .ok (.istore 4, 2) := by decide +kernel
theorem dX6_oddOfNode_5 : decode cX6_oddOfNode 5 = .ok (.iload 4, 2) := by decide +kernel
theorem dX6_oddOfNode_7 : decode cX6_oddOfNode 7 = .ok (.iload_n 0, 1) := by decide +kernel
theorem dX6_oddOfNode_8 : decode cX6_oddOfNode 8 = .ok (.if_icmp .ge 30, 3) := by decide +kernel
theorem dX6_oddOfNode_11 : decode cX6_oddOfNode 11 = .ok (.iload_n 3, 1) := by decide +kernel
theorem dX6_oddOfNode_12 : decode cX6_oddOfNode 12 = .ok (.iload 4, 2) := by decide +kernel
theorem dX6_oddOfNode_14 : decode cX6_oddOfNode 14 = .ok (.iload_n 2, 1) := by decide +kernel
theorem dX6_oddOfNode_15 : decode cX6_oddOfNode 15 = .ok (.if_icmp .eq 14, 3) := by decide +kernel
theorem dX6_oddOfNode_18 : decode cX6_oddOfNode 18 = .ok (.iload_n 0, 1) := by decide +kernel
theorem dX6_oddOfNode_19 : decode cX6_oddOfNode 19 = .ok (.iload_n 1, 1) := by decide +kernel
theorem dX6_oddOfNode_20 : decode cX6_oddOfNode 20 = .ok (.iload_n 2, 1) := by decide +kernel
theorem dX6_oddOfNode_21 : decode cX6_oddOfNode 21 = .ok (.iload 4, 2) := by decide +kernel
theorem dX6_oddOfNode_23 : decode cX6_oddOfNode 23 = .ok (.invokestatic 62, 3) := by decide +kernel
theorem dX6_oddOfNode_26 : decode cX6_oddOfNode 26 = .ok (.goto 4, 3) := by decide +kernel
theorem dX6_oddOfNode_29 : decode cX6_oddOfNode 29 = .ok (.iconst 0, 1) := by decide +kernel
theorem dX6_oddOfNode_30 : decode cX6_oddOfNode 30 = .ok (.iadd, 1) := by decide +kernel
theorem dX6_oddOfNode_31 : decode cX6_oddOfNode 31 = .ok (.istore_n 3, 1) := by decide +kernel
theorem dX6_oddOfNode_32 : decode cX6_oddOfNode 32 = .ok (.iinc 4 1, 3) := by decide +kernel
theorem dX6_oddOfNode_35 : decode cX6_oddOfNode 35 = .ok (.goto (-30), 3) := by decide +kernel
theorem dX6_oddOfNode_38 : decode cX6_oddOfNode 38 = .ok (.iload_n 3, 1) := by decide +kernel
theorem dX6_oddOfNode_39 : decode cX6_oddOfNode 39 = .ok (.iconst 2, 1) := by decide +kernel
theorem dX6_oddOfNode_40 : decode cX6_oddOfNode 40 = .ok (.idiv, 1) := by decide +kernel
theorem dX6_oddOfNode_41 : decode cX6_oddOfNode 41 = .ok (.ireturn, 1) := by decide +kernel
set_option maxRecDepth 20000 in
theorem ggX6_oddOfNet_X6_oddOfNode : GoodIn wsX6_oddOfNet wsX6_oddOfNode := goodIn_r _ [4, 5, 6, 3, 7, 8, 9, 10, 11, 12, 13, 14, 15, 16, 17, 18, 19] (by decide +kernel) (by decide +kernel)
set_option maxRecDepth 20000 in
theorem gX6_oddOfNet_X6_oddOfNode : GoodIn wsX6_oddOfNet (va_wsS RX6 65 yX6_oddOfNode wsX6_oddOfNode) := goodIn_app (goodIn_of _ (by decide +kernel)) ggX6_oddOfNet_X6_oddOfNode
theorem dX6_oddOfNet_0 : decode cX6_oddOfNet 0 = .ok (.iconst 0, 1) := by decide +kernel
theorem dX6_oddOfNet_1 : decode cX6_oddOfNet 1 = .ok (.istore_n 2, 1) := by decide +kernel
theorem dX6_oddOfNet_2 : decode cX6_oddOfNet 2 = .ok (.iconst 0, 1) := by decide +kernel
theorem dX6_oddOfNet_3 : decode cX6_oddOfNet 3 = .ok (.istore_n 3, 1) := by decide +kernel
theorem dX6_oddOfNet_4 : decode cX6_oddOfNet 4 = .ok (.iload_n 3, 1) := by decide +kernel
theorem dX6_oddOfNet_5 : decode cX6_oddOfNet 5 = .ok (.iload_n 0, 1) := by decide +kernel
theorem dX6_oddOfNet_6 : decode cX6_oddOfNet 6 = .ok (.if_icmp .ge 18, 3) := by decide +kernel
theorem dX6_oddOfNet_9 : decode cX6_oddOfNet 9 = .ok (.iload_n 2, 1) := by decide +kernel
theorem dX6_oddOfNet_10 : decode cX6_oddOfNet 10 = .ok (.iload_n 0, 1) := by decide +kernel
theorem dX6_oddOfNet_11 : decode cX6_oddOfNet 11 = .ok (.iload_n 1, 1) := by decide +kernel
theorem dX6_oddOfNet_12 : decode cX6_oddOfNet 12 = .ok (.iload_n 3, 1) := by decide +kernel
theorem dX6_oddOfNet_13 : decode cX6_oddOfNet 13 = .ok (.invokestatic 65, 3) := by decide +kernel
theorem dX6_oddOfNet_16 : decode cX6_oddOfNet 16 = .ok (.iadd, 1) := by decide +kernel
theorem dX6_oddOfNet_17 : decode cX6_oddOfNet 17 = .ok (.istore_n 2, 1) := by decide +kernel
theorem dX6_oddOfNet_18 : decode cX6_oddOfNet 18 = .ok (.iinc 3 1, 3) := by decide +kernel
theorem dX6_oddOfNet_21 : decode cX6_oddOfNet 21 = .ok (.goto (-17), 3) := by decide +kernel
theorem dX6_oddOfNet_24 : decode cX6_oddOfNet 24 = .ok (.iload_n 2, 1) := by decide +kernel
theorem dX6_oddOfNet_25 : decode cX6_oddOfNet 25 = .ok (.iconst 3, 1) := by decide +kernel
theorem dX6_oddOfNet_26 : decode cX6_oddOfNet 26 = .ok (.idiv, 1) := by decide +kernel
theorem dX6_oddOfNet_27 : decode cX6_oddOfNet 27 = .ok (.ireturn, 1) := by decide +kernel
set_option maxRecDepth 20000 in
theorem ggX6_without_X6_joined : GoodIn wsX6_without wsX6_joined := goodIn_r _ [4, 5, 6, 3, 7, 8, 9, 10] (by decide +kernel) (by decide +kernel)
set_option maxRecDepth 20000 in
theorem gX6_without_X6_joined : GoodIn wsX6_without (va_wsS RX6 45 yX6_joined wsX6_joined) := goodIn_app (goodIn_of _ (by decide +kernel)) ggX6_without_X6_joined
set_option maxRecDepth 20000 in
theorem ggX6_without_X6_valueOf : GoodIn wsX6_without wsX6_valueOf := goodIn_r _ [7, 8, 9, 3, 10] (by decide +kernel) (by decide +kernel)
set_option maxRecDepth 20000 in
theorem gX6_without_X6_valueOf : GoodIn wsX6_without (va_wsS RX6 41 yX6_valueOf wsX6_valueOf) := goodIn_app (goodIn_of _ (by decide +kernel)) ggX6_without_X6_valueOf
theorem dX6_without_0 : decode cX6_without 0 = .ok (.iconst 0, 1) := by decide +kernel
theorem dX6_without_1 : decode cX6_without 1 = .ok (.istore_n 3, 1) := by decide +kernel
theorem dX6_without_2 : decode cX6_without 2 = .ok (.iconst 0, 1) := by decide +kernel
theorem dX6_without_3 : decode cX6_without 3 = .ok (.istore 4, 2) := by decide +kernel
theorem dX6_without_5 : decode cX6_without 5 = .ok (.iload 4, 2) := by decide +kernel
theorem dX6_without_7 : decode cX6_without 7 = .ok (.iload_n 0, 1) := by decide +kernel
theorem dX6_without_8 : decode cX6_without 8 = .ok (.if_icmp .ge 91, 3) := by decide +kernel
theorem dX6_without_11 : decode cX6_without 11 = .ok (.iload 4, 2) := by decide +kernel
theorem dX6_without_13 : decode cX6_without 13 = .ok (.iconst 1, 1) := by decide +kernel
theorem dX6_without_14 : decode cX6_without 14 = .ok (.iadd, 1) := by decide +kernel
theorem dX6_without_15 : decode cX6_without 15 = .ok (.istore 5, 2) := by decide +kernel
theorem dX6_without_17 : decode cX6_without 17 = .ok (.iload 5, 2) := by decide +kernel
theorem dX6_without_19 : decode cX6_without 19 = .ok (.iload_n 0, 1) := by decide +kernel
theorem dX6_without_20 : decode cX6_without 20 = .ok (.if_icmp .ge 73, 3) := by decide +kernel
theorem dX6_without_23 : decode cX6_without 23 = .ok (.iload 4, 2) := by decide +kernel
theorem dX6_without_25 : decode cX6_without 25 = .ok (.iload_n 2, 1) := by decide +kernel
theorem dX6_without_26 : decode cX6_without 26 = .ok (.if_icmp .eq 61, 3) := by decide +kernel
theorem dX6_without_29 : decode cX6_without 29 = .ok (.iload 5, 2) := by decide +kernel
theorem dX6_without_31 : decode cX6_without 31 = .ok (.iload_n 2, 1) := by decide +kernel
theorem dX6_without_32 : decode cX6_without 32 = .ok (.if_icmp .eq 55, 3) := by decide +kernel
theorem dX6_without_35 : decode cX6_without 35 = .ok (.iload_n 0, 1) := by decide +kernel
theorem dX6_without_36 : decode cX6_without 36 = .ok (.iload_n 1, 1) := by decide +kernel
theorem dX6_without_37 : decode cX6_without 37 = .ok (.iload 4, 2) := by decide +kernel
theorem dX6_without_39 : decode cX6_without 39 = .ok (.iload 5, 2) := by decide +kernel
theorem dX6_without_41 : decode cX6_without 41 = .ok (.invokestatic 45, 3) := by decide +kernel
theorem dX6_without_44 : decode cX6_without 44 = .ok (.iconst 1, 1) := by decide +kernel
theorem dX6_without_45 : decode cX6_without 45 = .ok (.if_icmp .ne 42, 3) := by decide +kernel
theorem dX6_without_48 : decode cX6_without 48 = .ok (.iload_n 3, 1) := by decide +kernel
theorem dX6_without_49 : decode cX6_without 49 = .ok (.iload_n 0, 1) := by decide +kernel
theorem dX6_without_50 : decode cX6_without 50 = .ok (.iconst 1, 1) := by decide +kernel
theorem dX6_without_51 : decode cX6_without 51 = .ok (.isub, 1) := by decide +kernel
theorem dX6_without_52 : decode cX6_without 52 = .ok (.iload 4, 2) := by decide +kernel
theorem dX6_without_54 : decode cX6_without 54 = .ok (.iload_n 2, 1) := by decide +kernel
theorem dX6_without_55 : decode cX6_without 55 = .ok (.if_icmp .le 10, 3) := by decide +kernel
theorem dX6_without_58 : decode cX6_without 58 = .ok (.iload 4, 2) := by decide +kernel
theorem dX6_without_60 : decode cX6_without 60 = .ok (.iconst 1, 1) := by decide +kernel
theorem dX6_without_61 : decode cX6_without 61 = .ok (.isub, 1) := by decide +kernel
theorem dX6_without_62 : decode cX6_without 62 = .ok (.goto 5, 3) := by decide +kernel
theorem dX6_without_65 : decode cX6_without 65 = .ok (.iload 4, 2) := by decide +kernel
theorem dX6_without_67 : decode cX6_without 67 = .ok (.iload 5, 2) := by decide +kernel
theorem dX6_without_69 : decode cX6_without 69 = .ok (.iload_n 2, 1) := by decide +kernel
theorem dX6_without_70 : decode cX6_without 70 = .ok (.if_icmp .le 10, 3) := by decide +kernel
theorem dX6_without_73 : decode cX6_without 73 = .ok (.iload 5, 2) := by decide +kernel
theorem dX6_without_75 : decode cX6_without 75 = .ok (.iconst 1, 1) := by decide +kernel
theorem dX6_without_76 : decode cX6_without 76 = .ok (.isub, 1) := by decide +kernel
theorem dX6_without_77 : decode cX6_without 77 = .ok (.goto 5, 3) := by decide +kernel
theorem dX6_without_80 : decode cX6_without 80 = .ok (.iload 5, 2) := by decide +kernel
theorem dX6_without_82 : decode cX6_without 82 = .ok (.invokestatic 41, 3) := by decide +kernel
theorem dX6_without_85 : decode cX6_without 85 = .ok (.ior, 1) := by decide +kernel
theorem dX6_without_86 : decode cX6_without 86 = .ok (.istore_n 3, 1) := by decide +kernel
theorem dX6_without_87 : decode cX6_without 87 = .ok (.iinc 5 1, 3) := by decide +kernel
theorem dX6_without_90 : decode cX6_without 90 = .ok (.goto (-73), 3) := by decide +kernel
theorem dX6_without_93 : decode cX6_without 93 = .ok (.iinc 4 1, 3) := by decide +kernel
theorem dX6_without_96 : decode cX6_without 96 = .ok (.goto (-91), 3) := by decide +kernel
theorem dX6_without_99 : decode cX6_without 99 = .ok (.iload_n 3, 1) := by decide +kernel
theorem dX6_without_100 : decode cX6_without 100 = .ok (.ireturn, 1) := by decide +kernel
theorem dX6_netOf_0 : decode cX6_netOf 0 = .ok (.aload_n 0, 1) := by decide +kernel
theorem dX6_netOf_1 : decode cX6_netOf 1 = .ok (.getfield 7, 3) := by decide +kernel
theorem dX6_netOf_4 : decode cX6_netOf 4 = .ok (.iconst 1, 1) := by decide +kernel
theorem dX6_netOf_5 : decode cX6_netOf 5 = .ok (.iload_n 1, 1) := by decide +kernel
theorem dX6_netOf_6 : decode cX6_netOf 6 = .ok (.iadd, 1) := by decide +kernel
theorem dX6_netOf_7 : decode cX6_netOf 7 = .ok (.iaload, 1) := by decide +kernel
theorem dX6_netOf_8 : decode cX6_netOf 8 = .ok (.ireturn, 1) := by decide +kernel
theorem dX6_many_0 : decode cX6_many 0 = .ok (.aload_n 0, 1) := by decide +kernel
theorem dX6_many_1 : decode cX6_many 1 = .ok (.getfield 7, 3) := by decide +kernel
theorem dX6_many_4 : decode cX6_many 4 = .ok (.iconst 0, 1) := by decide +kernel
theorem dX6_many_5 : decode cX6_many 5 = .ok (.iaload, 1) := by decide +kernel
theorem dX6_many_6 : decode cX6_many 6 = .ok (.ireturn, 1) := by decide +kernel
set_option maxRecDepth 20000 in
theorem ggX6_nodes_X6_in : GoodIn wsX6_nodes wsX6_in := goodIn_r _ [5] (by decide +kernel) (by decide +kernel)
set_option maxRecDepth 20000 in
theorem gX6_nodes_X6_in : GoodIn wsX6_nodes (va_wsS RX6 33 yX6_in wsX6_in) := goodIn_app (goodIn_of _ (by decide +kernel)) ggX6_nodes_X6_in
set_option maxRecDepth 20000 in
theorem ggX6_nodes_X6_many : GoodIn wsX6_nodes wsX6_many := goodIn_r _ [9, 1, 10, 11, 12, 13, 14, 15, 16, 17, 18, 19, 20, 21, 22] (by decide +kernel) (by decide +kernel)
set_option maxRecDepth 20000 in
theorem gX6_nodes_X6_many : GoodIn wsX6_nodes (wsV RX6 68 RX6 yX6_many wsX6_many) := goodIn_app (goodIn_of _ (by decide +kernel)) ggX6_nodes_X6_many
theorem dX6_nodes_0 : decode cX6_nodes 0 = .ok (.iload_n 1, 1) := by decide +kernel
theorem dX6_nodes_1 : decode cX6_nodes 1 = .ok (.iconst 3, 1) := by decide +kernel
theorem dX6_nodes_2 : decode cX6_nodes 2 = .ok (.bipush 7, 2) := by decide +kernel
theorem dX6_nodes_4 : decode cX6_nodes 4 = .ok (.invokestatic 33, 3) := by decide +kernel
theorem dX6_nodes_7 : decode cX6_nodes 7 = .ok (.ifCond .ne 6, 3) := by decide +kernel
theorem dX6_nodes_10 : decode cX6_nodes 10 = .ok (.bipush (-2), 2) := by decide +kernel
theorem dX6_nodes_12 : decode cX6_nodes 12 = .ok (.ireturn, 1) := by decide +kernel
theorem dX6_nodes_13 : decode cX6_nodes 13 = .ok (.aload_n 0, 1) := by decide +kernel
theorem dX6_nodes_14 : decode cX6_nodes 14 = .ok (.invokevirtual 68, 3) := by decide +kernel
theorem dX6_nodes_17 : decode cX6_nodes 17 = .ok (.istore_n 2, 1) := by decide +kernel
theorem dX6_nodes_18 : decode cX6_nodes 18 = .ok (.aload_n 0, 1) := by decide +kernel
theorem dX6_nodes_19 : decode cX6_nodes 19 = .ok (.getfield 7, 3) := by decide +kernel
theorem dX6_nodes_22 : decode cX6_nodes 22 = .ok (.iconst 0, 1) := by decide +kernel
theorem dX6_nodes_23 : decode cX6_nodes 23 = .ok (.iload_n 1, 1) := by decide +kernel
theorem dX6_nodes_24 : decode cX6_nodes 24 = .ok (.iastore, 1) := by decide +kernel
theorem dX6_nodes_25 : decode cX6_nodes 25 = .ok (.iconst 0, 1) := by decide +kernel
theorem dX6_nodes_26 : decode cX6_nodes 26 = .ok (.istore_n 3, 1) := by decide +kernel
theorem dX6_nodes_27 : decode cX6_nodes 27 = .ok (.iload_n 3, 1) := by decide +kernel
theorem dX6_nodes_28 : decode cX6_nodes 28 = .ok (.iconst 3, 1) := by decide +kernel
theorem dX6_nodes_29 : decode cX6_nodes 29 = .ok (.if_icmp .ge 18, 3) := by decide +kernel
theorem dX6_nodes_32 : decode cX6_nodes 32 = .ok (.aload_n 0, 1) := by decide +kernel
theorem dX6_nodes_33 : decode cX6_nodes 33 = .ok (.getfield 7, 3) := by decide +kernel
theorem dX6_nodes_36 : decode cX6_nodes 36 = .ok (.iconst 1, 1) := by decide +kernel
theorem dX6_nodes_37 : decode cX6_nodes 37 = .ok (.iload_n 3, 1) := by decide +kernel
theorem dX6_nodes_38 : decode cX6_nodes 38 = .ok (.iadd, 1) := by decide +kernel
theorem dX6_nodes_39 : decode cX6_nodes 39 = .ok (.iconst 0, 1) := by decide +kernel
theorem dX6_nodes_40 : decode cX6_nodes 40 = .ok (.iastore, 1) := by decide +kernel
theorem dX6_nodes_41 : decode cX6_nodes 41 = .ok (.iinc 3 1, 3) := by decide +kernel
theorem dX6_nodes_44 : decode cX6_nodes 44 = .ok (.goto (-17), 3) := by decide +kernel
theorem dX6_nodes_47 : decode cX6_nodes 47 = .ok (.iload_n 2, 1) := by decide +kernel
theorem dX6_nodes_48 : decode cX6_nodes 48 = .ok (.ireturn, 1) := by decide +kernel
set_option maxRecDepth 20000 in
theorem ggX6_join_X6_isSlot : GoodIn wsX6_join wsX6_isSlot := goodIn_r _ [5, 6, 7, 4, 8] (by decide +kernel) (by decide +kernel)
set_option maxRecDepth 20000 in
theorem gX6_join_X6_isSlot : GoodIn wsX6_join (va_wsS RX6 72 yX6_isSlot wsX6_isSlot) := goodIn_app (goodIn_of _ (by decide +kernel)) ggX6_join_X6_isSlot
set_option maxRecDepth 20000 in
theorem ggX6_join_X6_isNode : GoodIn wsX6_join wsX6_isNode := goodIn_r _ [12, 1, 6, 7, 4, 8, 30, 31, 32, 33, 34, 35, 36, 37, 38, 39, 40, 41, 42] (by decide +kernel) (by decide +kernel)
set_option maxRecDepth 20000 in
theorem gX6_join_X6_isNode : GoodIn wsX6_join (wsV RX6 76 RX6 yX6_isNode wsX6_isNode) := goodIn_app (goodIn_of _ (by decide +kernel)) ggX6_join_X6_isNode
set_option maxRecDepth 20000 in
theorem ggX6_join_X6_in : GoodIn wsX6_join wsX6_in := goodIn_r _ [8] (by decide +kernel) (by decide +kernel)
set_option maxRecDepth 20000 in
theorem gX6_join_X6_in : GoodIn wsX6_join (va_wsS RX6 33 yX6_in wsX6_in) := goodIn_app (goodIn_of _ (by decide +kernel)) ggX6_join_X6_in
set_option maxRecDepth 20000 in
theorem ggX6_join_X6_many : GoodIn wsX6_join wsX6_many := goodIn_r _ [16, 1, 30, 31, 32, 33, 34, 35, 36, 37, 38, 39, 40, 41, 42] (by decide +kernel) (by decide +kernel)
set_option maxRecDepth 20000 in
theorem gX6_join_X6_many : GoodIn wsX6_join (wsV RX6 68 RX6 yX6_many wsX6_many) := goodIn_app (goodIn_of _ (by decide +kernel)) ggX6_join_X6_many
set_option maxRecDepth 20000 in
theorem ggX6_join_X6_valueOf : GoodIn wsX6_join wsX6_valueOf := goodIn_r _ [19, 20, 21, 4, 22] (by decide +kernel) (by decide +kernel)
set_option maxRecDepth 20000 in
theorem gX6_join_X6_valueOf : GoodIn wsX6_join (va_wsS RX6 41 yX6_valueOf wsX6_valueOf) := goodIn_app (goodIn_of _ (by decide +kernel)) ggX6_join_X6_valueOf
set_option maxRecDepth 20000 in
theorem ggX6_join_X6_netOf : GoodIn wsX6_join wsX6_netOf := goodIn_r _ [26, 1, 30, 31, 32, 33, 34, 35, 36, 37, 38, 39, 40, 41, 42] (by decide +kernel) (by decide +kernel)
set_option maxRecDepth 20000 in
theorem gX6_join_X6_netOf : GoodIn wsX6_join (wsV RX6 79 RX6 yX6_netOf wsX6_netOf) := goodIn_app (goodIn_of _ (by decide +kernel)) ggX6_join_X6_netOf
set_option maxRecDepth 20000 in
theorem ggX6_join_X6_size : GoodIn wsX6_join wsX6_size := goodIn_r _ [29] (by decide +kernel) (by decide +kernel)
set_option maxRecDepth 20000 in
theorem gX6_join_X6_size : GoodIn wsX6_join (va_wsS RX6 52 yX6_size wsX6_size) := goodIn_app (goodIn_of _ (by decide +kernel)) ggX6_join_X6_size
theorem dX6_join_0 : decode cX6_join 0 = .ok (.iload_n 1, 1) := by decide +kernel
theorem dX6_join_1 : decode cX6_join 1 = .ok (.invokestatic 72, 3) := by decide +kernel
theorem dX6_join_4 : decode cX6_join 4 = .ok (.ifCond .eq 19, 3) := by decide +kernel
theorem dX6_join_7 : decode cX6_join 7 = .ok (.aload_n 0, 1) := by decide +kernel
theorem dX6_join_8 : decode cX6_join 8 = .ok (.iload_n 2, 1) := by decide +kernel
theorem dX6_join_9 : decode cX6_join 9 = .ok (.invokevirtual 76, 3) := by decide +kernel
theorem dX6_join_12 : decode cX6_join 12 = .ok (.ifCond .eq 11, 3) := by decide +kernel
theorem dX6_join_15 : decode cX6_join 15 = .ok (.aload_n 0, 1) := by decide +kernel
theorem dX6_join_16 : decode cX6_join 16 = .ok (.iload_n 3, 1) := by decide +kernel
theorem dX6_join_17 : decode cX6_join 17 = .ok (.invokevirtual 76, 3) := by decide +kernel
theorem dX6_join_20 : decode cX6_join 20 = .ok (.ifCond .ne 5, 3) := by decide +kernel
theorem dX6_join_23 : decode cX6_join 23 = .ok (.iconst (-1), 1) := by decide +kernel
theorem dX6_join_24 : decode cX6_join 24 = .ok (.ireturn, 1) := by decide +kernel
theorem dX6_join_25 : decode cX6_join 25 = .ok (.iload_n 2, 1) := by decide +kernel
theorem dX6_join_26 : decode cX6_join 26 = .ok (.iload_n 3, 1) := by decide +kernel
theorem dX6_join_27 : decode cX6_join 27 = .ok (.if_icmp .eq 13, 3) := by decide +kernel
theorem dX6_join_30 : decode cX6_join 30 = .ok (.iload 4, 2) := by decide +kernel
theorem dX6_join_32 : decode cX6_join 32 = .ok (.iconst 0, 1) := by decide +kernel
theorem dX6_join_33 : decode cX6_join 33 = .ok (.iconst 1, 1) := by decide +kernel
theorem dX6_join_34 : decode cX6_join 34 = .ok (.invokestatic 33, 3) := by decide +kernel
theorem dX6_join_37 : decode cX6_join 37 = .ok (.ifCond .ne 6, 3) := by decide +kernel
theorem dX6_join_40 : decode cX6_join 40 = .ok (.bipush (-2), 2) := by decide +kernel
theorem dX6_join_42 : decode cX6_join 42 = .ok (.ireturn, 1) := by decide +kernel
theorem dX6_join_43 : decode cX6_join 43 = .ok (.aload_n 0, 1) := by decide +kernel
theorem dX6_join_44 : decode cX6_join 44 = .ok (.invokevirtual 68, 3) := by decide +kernel
theorem dX6_join_47 : decode cX6_join 47 = .ok (.iload_n 2, 1) := by decide +kernel
theorem dX6_join_48 : decode cX6_join 48 = .ok (.iload_n 3, 1) := by decide +kernel
theorem dX6_join_49 : decode cX6_join 49 = .ok (.invokestatic 41, 3) := by decide +kernel
theorem dX6_join_52 : decode cX6_join 52 = .ok (.istore 5, 2) := by decide +kernel
theorem dX6_join_54 : decode cX6_join 54 = .ok (.aload_n 0, 1) := by decide +kernel
theorem dX6_join_55 : decode cX6_join 55 = .ok (.getfield 7, 3) := by decide +kernel
theorem dX6_join_58 : decode cX6_join 58 = .ok (.iconst 1, 1) := by decide +kernel
theorem dX6_join_59 : decode cX6_join 59 = .ok (.iload_n 1, 1) := by decide +kernel
theorem dX6_join_60 : decode cX6_join 60 = .ok (.iadd, 1) := by decide +kernel
theorem dX6_join_61 : decode cX6_join 61 = .ok (.aload_n 0, 1) := by decide +kernel
theorem dX6_join_62 : decode cX6_join 62 = .ok (.iload_n 1, 1) := by decide +kernel
theorem dX6_join_63 : decode cX6_join 63 = .ok (.invokevirtual 79, 3) := by decide +kernel
theorem dX6_join_66 : decode cX6_join 66 = .ok (.iload 5, 2) := by decide +kernel
theorem dX6_join_68 : decode cX6_join 68 = .ok (.iconst (-1), 1) := by decide +kernel
theorem dX6_join_69 : decode cX6_join 69 = .ok (.ixor, 1) := by decide +kernel
theorem dX6_join_70 : decode cX6_join 70 = .ok (.iand, 1) := by decide +kernel
theorem dX6_join_71 : decode cX6_join 71 = .ok (.iload 4, 2) := by decide +kernel
theorem dX6_join_73 : decode cX6_join 73 = .ok (.iload 5, 2) := by decide +kernel
theorem dX6_join_75 : decode cX6_join 75 = .ok (.imul, 1) := by decide +kernel
theorem dX6_join_76 : decode cX6_join 76 = .ok (.iadd, 1) := by decide +kernel
theorem dX6_join_77 : decode cX6_join 77 = .ok (.iastore, 1) := by decide +kernel
theorem dX6_join_78 : decode cX6_join 78 = .ok (.aload_n 0, 1) := by decide +kernel
theorem dX6_join_79 : decode cX6_join 79 = .ok (.iload_n 1, 1) := by decide +kernel
theorem dX6_join_80 : decode cX6_join 80 = .ok (.invokevirtual 79, 3) := by decide +kernel
theorem dX6_join_83 : decode cX6_join 83 = .ok (.invokestatic 52, 3) := by decide +kernel
theorem dX6_join_86 : decode cX6_join 86 = .ok (.ireturn, 1) := by decide +kernel
theorem dX6_hold_0 : decode cX6_hold 0 = .ok (.aload_n 0, 1) := by decide +kernel
theorem dX6_hold_1 : decode cX6_hold 1 = .ok (.getfield 7, 3) := by decide +kernel
theorem dX6_hold_4 : decode cX6_hold 4 = .ok (.iconst 1, 1) := by decide +kernel
theorem dX6_hold_5 : decode cX6_hold 5 = .ok (.iload_n 1, 1) := by decide +kernel
theorem dX6_hold_6 : decode cX6_hold 6 = .ok (.iadd, 1) := by decide +kernel
theorem dX6_hold_7 : decode cX6_hold 7 = .ok (.iload_n 2, 1) := by decide +kernel
theorem dX6_hold_8 : decode cX6_hold 8 = .ok (.iastore, 1) := by decide +kernel
theorem dX6_hold_9 : decode cX6_hold 9 = .ok (.iload_n 2, 1) := by decide +kernel
theorem dX6_hold_10 : decode cX6_hold 10 = .ok (.ireturn, 1) := by decide +kernel
set_option maxRecDepth 20000 in
theorem ggX6_set_X6_isSlot : GoodIn wsX6_set wsX6_isSlot := goodIn_r _ [5, 6, 7, 4, 8] (by decide +kernel) (by decide +kernel)
set_option maxRecDepth 20000 in
theorem gX6_set_X6_isSlot : GoodIn wsX6_set (va_wsS RX6 72 yX6_isSlot wsX6_isSlot) := goodIn_app (goodIn_of _ (by decide +kernel)) ggX6_set_X6_isSlot
set_option maxRecDepth 20000 in
theorem ggX6_set_X6_many : GoodIn wsX6_set wsX6_many := goodIn_r _ [12, 1, 20, 21, 22, 23, 24, 25, 26, 27, 28, 29, 30, 31, 32] (by decide +kernel) (by decide +kernel)
set_option maxRecDepth 20000 in
theorem gX6_set_X6_many : GoodIn wsX6_set (wsV RX6 68 RX6 yX6_many wsX6_many) := goodIn_app (goodIn_of _ (by decide +kernel)) ggX6_set_X6_many
set_option maxRecDepth 20000 in
theorem ggX6_set_X6_pairs : GoodIn wsX6_set wsX6_pairs := goodIn_r _ [15] (by decide +kernel) (by decide +kernel)
set_option maxRecDepth 20000 in
theorem gX6_set_X6_pairs : GoodIn wsX6_set (va_wsS RX6 37 yX6_pairs wsX6_pairs) := goodIn_app (goodIn_of _ (by decide +kernel)) ggX6_set_X6_pairs
set_option maxRecDepth 20000 in
theorem ggX6_set_X6_in : GoodIn wsX6_set wsX6_in := goodIn_r _ [8] (by decide +kernel) (by decide +kernel)
set_option maxRecDepth 20000 in
theorem gX6_set_X6_in : GoodIn wsX6_set (va_wsS RX6 33 yX6_in wsX6_in) := goodIn_app (goodIn_of _ (by decide +kernel)) ggX6_set_X6_in
set_option maxRecDepth 20000 in
theorem ggX6_set_X6_netOf : GoodIn wsX6_set wsX6_netOf := goodIn_r _ [19, 1, 20, 21, 22, 23, 24, 25, 26, 27, 28, 29, 30, 31, 32] (by decide +kernel) (by decide +kernel)
set_option maxRecDepth 20000 in
theorem gX6_set_X6_netOf : GoodIn wsX6_set (wsV RX6 79 RX6 yX6_netOf wsX6_netOf) := goodIn_app (goodIn_of _ (by decide +kernel)) ggX6_set_X6_netOf
theorem dX6_set_0 : decode cX6_set 0 = .ok (.iload_n 1, 1) := by decide +kernel
theorem dX6_set_1 : decode cX6_set 1 = .ok (.invokestatic 72, 3) := by decide +kernel
theorem dX6_set_4 : decode cX6_set 4 = .ok (.ifCond .ne 5, 3) := by decide +kernel
theorem dX6_set_7 : decode cX6_set 7 = .ok (.iconst (-1), 1) := by decide +kernel
theorem dX6_set_8 : decode cX6_set 8 = .ok (.ireturn, 1) := by decide +kernel
theorem dX6_set_9 : decode cX6_set 9 = .ok (.iload_n 2, 1) := by decide +kernel
theorem dX6_set_10 : decode cX6_set 10 = .ok (.iconst 0, 1) := by decide +kernel
theorem dX6_set_11 : decode cX6_set 11 = .ok (.iconst 1, 1) := by decide +kernel
theorem dX6_set_12 : decode cX6_set 12 = .ok (.aload_n 0, 1) := by decide +kernel
theorem dX6_set_13 : decode cX6_set 13 = .ok (.invokevirtual 68, 3) := by decide +kernel
theorem dX6_set_16 : decode cX6_set 16 = .ok (.invokestatic 37, 3) := by decide +kernel
theorem dX6_set_19 : decode cX6_set 19 = .ok (.ishl, 1) := by decide +kernel
theorem dX6_set_20 : decode cX6_set 20 = .ok (.iconst 1, 1) := by decide +kernel
theorem dX6_set_21 : decode cX6_set 21 = .ok (.isub, 1) := by decide +kernel
theorem dX6_set_22 : decode cX6_set 22 = .ok (.invokestatic 33, 3) := by decide +kernel
theorem dX6_set_25 : decode cX6_set 25 = .ok (.ifCond .ne 6, 3) := by decide +kernel
theorem dX6_set_28 : decode cX6_set 28 = .ok (.bipush (-2), 2) := by decide +kernel
theorem dX6_set_30 : decode cX6_set 30 = .ok (.ireturn, 1) := by decide +kernel
theorem dX6_set_31 : decode cX6_set 31 = .ok (.aload_n 0, 1) := by decide +kernel
theorem dX6_set_32 : decode cX6_set 32 = .ok (.iload_n 1, 1) := by decide +kernel
theorem dX6_set_33 : decode cX6_set 33 = .ok (.invokevirtual 79, 3) := by decide +kernel
theorem dX6_set_36 : decode cX6_set 36 = .ok (.istore_n 3, 1) := by decide +kernel
theorem dX6_set_37 : decode cX6_set 37 = .ok (.aload_n 0, 1) := by decide +kernel
theorem dX6_set_38 : decode cX6_set 38 = .ok (.getfield 7, 3) := by decide +kernel
theorem dX6_set_41 : decode cX6_set 41 = .ok (.iconst 1, 1) := by decide +kernel
theorem dX6_set_42 : decode cX6_set 42 = .ok (.iload_n 1, 1) := by decide +kernel
theorem dX6_set_43 : decode cX6_set 43 = .ok (.iadd, 1) := by decide +kernel
theorem dX6_set_44 : decode cX6_set 44 = .ok (.iload_n 2, 1) := by decide +kernel
theorem dX6_set_45 : decode cX6_set 45 = .ok (.iastore, 1) := by decide +kernel
theorem dX6_set_46 : decode cX6_set 46 = .ok (.iload_n 3, 1) := by decide +kernel
theorem dX6_set_47 : decode cX6_set 47 = .ok (.ireturn, 1) := by decide +kernel
set_option maxRecDepth 20000 in
theorem ggX6_say_X6_in : GoodIn wsX6_say wsX6_in := goodIn_r _ [6] (by decide +kernel) (by decide +kernel)
set_option maxRecDepth 20000 in
theorem gX6_say_X6_in : GoodIn wsX6_say (va_wsS RX6 33 yX6_in wsX6_in) := goodIn_app (goodIn_of _ (by decide +kernel)) ggX6_say_X6_in
theorem dX6_say_0 : decode cX6_say 0 = .ok (.iload_n 1, 1) := by decide +kernel
theorem dX6_say_1 : decode cX6_say 1 = .ok (.bipush 33, 2) := by decide +kernel
theorem dX6_say_3 : decode cX6_say 3 = .ok (.bipush 126, 2) := by decide +kernel
theorem dX6_say_5 : decode cX6_say 5 = .ok (.invokestatic 33, 3) := by decide +kernel
theorem dX6_say_8 : decode cX6_say 8 = .ok (.ifCond .ne 6, 3) := by decide +kernel
theorem dX6_say_11 : decode cX6_say 11 = .ok (.bipush (-2), 2) := by decide +kernel
theorem dX6_say_13 : decode cX6_say 13 = .ok (.ireturn, 1) := by decide +kernel
theorem dX6_say_14 : decode cX6_say 14 = .ok (.aload_n 0, 1) := by decide +kernel
theorem dX6_say_15 : decode cX6_say 15 = .ok (.getfield 82, 3) := by decide +kernel
theorem dX6_say_18 : decode cX6_say 18 = .ok (.bipush 35, 2) := by decide +kernel
theorem dX6_say_20 : decode cX6_say 20 = .ok (.if_icmp .ne 6, 3) := by decide +kernel
theorem dX6_say_23 : decode cX6_say 23 = .ok (.bipush (-4), 2) := by decide +kernel
theorem dX6_say_25 : decode cX6_say 25 = .ok (.ireturn, 1) := by decide +kernel
theorem dX6_say_26 : decode cX6_say 26 = .ok (.aload_n 0, 1) := by decide +kernel
theorem dX6_say_27 : decode cX6_say 27 = .ok (.getfield 20, 3) := by decide +kernel
theorem dX6_say_30 : decode cX6_say 30 = .ok (.aload_n 0, 1) := by decide +kernel
theorem dX6_say_31 : decode cX6_say 31 = .ok (.getfield 82, 3) := by decide +kernel
theorem dX6_say_34 : decode cX6_say 34 = .ok (.iload_n 1, 1) := by decide +kernel
theorem dX6_say_35 : decode cX6_say 35 = .ok (.iastore, 1) := by decide +kernel
theorem dX6_say_36 : decode cX6_say 36 = .ok (.aload_n 0, 1) := by decide +kernel
theorem dX6_say_37 : decode cX6_say 37 = .ok (.dup, 1) := by decide +kernel
theorem dX6_say_38 : decode cX6_say 38 = .ok (.getfield 82, 3) := by decide +kernel
theorem dX6_say_41 : decode cX6_say 41 = .ok (.iconst 1, 1) := by decide +kernel
theorem dX6_say_42 : decode cX6_say 42 = .ok (.iadd, 1) := by decide +kernel
theorem dX6_say_43 : decode cX6_say 43 = .ok (.putfield 82, 3) := by decide +kernel
theorem dX6_say_46 : decode cX6_say 46 = .ok (.aload_n 0, 1) := by decide +kernel
theorem dX6_say_47 : decode cX6_say 47 = .ok (.getfield 82, 3) := by decide +kernel
theorem dX6_say_50 : decode cX6_say 50 = .ok (.ireturn, 1) := by decide +kernel
theorem dX6_wipe_0 : decode cX6_wipe 0 = .ok (.aload_n 0, 1) := by decide +kernel
theorem dX6_wipe_1 : decode cX6_wipe 1 = .ok (.getfield 82, 3) := by decide +kernel
theorem dX6_wipe_4 : decode cX6_wipe 4 = .ok (.istore_n 1, 1) := by decide +kernel
theorem dX6_wipe_5 : decode cX6_wipe 5 = .ok (.aload_n 0, 1) := by decide +kernel
theorem dX6_wipe_6 : decode cX6_wipe 6 = .ok (.iconst 0, 1) := by decide +kernel
theorem dX6_wipe_7 : decode cX6_wipe 7 = .ok (.putfield 82, 3) := by decide +kernel
theorem dX6_wipe_10 : decode cX6_wipe 10 = .ok (.iload_n 1, 1) := by decide +kernel
theorem dX6_wipe_11 : decode cX6_wipe 11 = .ok (.ireturn, 1) := by decide +kernel
set_option maxRecDepth 20000 in
theorem ggX6_faultAs_X6_many : GoodIn wsX6_faultAs wsX6_many := goodIn_r _ [7, 8, 18, 19, 20, 21, 22, 23, 24, 25, 26, 27, 28, 29, 30] (by decide +kernel) (by decide +kernel)
set_option maxRecDepth 20000 in
theorem gX6_faultAs_X6_many : GoodIn wsX6_faultAs (wsV RX6 68 RX6 yX6_many wsX6_many) := goodIn_app (goodIn_of _ (by decide +kernel)) ggX6_faultAs_X6_many
set_option maxRecDepth 20000 in
theorem ggX6_faultAs_X6_pairs : GoodIn wsX6_faultAs wsX6_pairs := goodIn_r _ [11] (by decide +kernel) (by decide +kernel)
set_option maxRecDepth 20000 in
theorem gX6_faultAs_X6_pairs : GoodIn wsX6_faultAs (va_wsS RX6 37 yX6_pairs wsX6_pairs) := goodIn_app (goodIn_of _ (by decide +kernel)) ggX6_faultAs_X6_pairs
set_option maxRecDepth 20000 in
theorem ggX6_faultAs_X6_triples : GoodIn wsX6_faultAs wsX6_triples := goodIn_r _ [14] (by decide +kernel) (by decide +kernel)
set_option maxRecDepth 20000 in
theorem gX6_faultAs_X6_triples : GoodIn wsX6_faultAs (va_wsS RX6 86 yX6_triples wsX6_triples) := goodIn_app (goodIn_of _ (by decide +kernel)) ggX6_faultAs_X6_triples
set_option maxRecDepth 20000 in
theorem ggX6_faultAs_X6_in : GoodIn wsX6_faultAs wsX6_in := goodIn_r _ [17] (by decide +kernel) (by decide +kernel)
set_option maxRecDepth 20000 in
theorem gX6_faultAs_X6_in : GoodIn wsX6_faultAs (va_wsS RX6 33 yX6_in wsX6_in) := goodIn_app (goodIn_of _ (by decide +kernel)) ggX6_faultAs_X6_in
theorem dX6_faultAs_0 : decode cX6_faultAs 0 = .ok (.iload_n 1, 1) := by decide +kernel
theorem dX6_faultAs_1 : decode cX6_faultAs 1 = .ok (.ifCond .ne 13, 3) := by decide +kernel
theorem dX6_faultAs_4 : decode cX6_faultAs 4 = .ok (.aload_n 0, 1) := by decide +kernel
theorem dX6_faultAs_5 : decode cX6_faultAs 5 = .ok (.invokevirtual 68, 3) := by decide +kernel
theorem dX6_faultAs_8 : decode cX6_faultAs 8 = .ok (.invokestatic 37, 3) := by decide +kernel
theorem dX6_faultAs_11 : decode cX6_faultAs 11 = .ok (.goto 10, 3) := by decide +kernel
theorem dX6_faultAs_14 : decode cX6_faultAs 14 = .ok (.aload_n 0, 1) := by decide +kernel
theorem dX6_faultAs_15 : decode cX6_faultAs 15 = .ok (.invokevirtual 68, 3) := by decide +kernel
theorem dX6_faultAs_18 : decode cX6_faultAs 18 = .ok (.invokestatic 86, 3) := by decide +kernel
theorem dX6_faultAs_21 : decode cX6_faultAs 21 = .ok (.istore_n 2, 1) := by decide +kernel
theorem dX6_faultAs_22 : decode cX6_faultAs 22 = .ok (.iconst 0, 1) := by decide +kernel
theorem dX6_faultAs_23 : decode cX6_faultAs 23 = .ok (.istore_n 3, 1) := by decide +kernel
theorem dX6_faultAs_24 : decode cX6_faultAs 24 = .ok (.iload_n 3, 1) := by decide +kernel
theorem dX6_faultAs_25 : decode cX6_faultAs 25 = .ok (.aload_n 0, 1) := by decide +kernel
theorem dX6_faultAs_26 : decode cX6_faultAs 26 = .ok (.getfield 82, 3) := by decide +kernel
theorem dX6_faultAs_29 : decode cX6_faultAs 29 = .ok (.if_icmp .ge 32, 3) := by decide +kernel
theorem dX6_faultAs_32 : decode cX6_faultAs 32 = .ok (.iload_n 3, 1) := by decide +kernel
theorem dX6_faultAs_33 : decode cX6_faultAs 33 = .ok (.iload_n 2, 1) := by decide +kernel
theorem dX6_faultAs_34 : decode cX6_faultAs 34 = .ok (.if_icmp .ge 19, 3) := by decide +kernel
theorem dX6_faultAs_37 : decode cX6_faultAs 37 = .ok (.aload_n 0, 1) := by decide +kernel
theorem dX6_faultAs_38 : decode cX6_faultAs 38 = .ok (.getfield 20, 3) := by decide +kernel
theorem dX6_faultAs_41 : decode cX6_faultAs 41 = .ok (.iload_n 3, 1) := by decide +kernel
theorem dX6_faultAs_42 : decode cX6_faultAs 42 = .ok (.iaload, 1) := by decide +kernel
theorem dX6_faultAs_43 : decode cX6_faultAs 43 = .ok (.bipush 48, 2) := by decide +kernel
theorem dX6_faultAs_45 : decode cX6_faultAs 45 = .ok (.bipush 49, 2) := by decide +kernel
theorem dX6_faultAs_47 : decode cX6_faultAs 47 = .ok (.invokestatic 33, 3) := by decide +kernel
theorem dX6_faultAs_50 : decode cX6_faultAs 50 = .ok (.ifCond .ne 5, 3) := by decide +kernel
theorem dX6_faultAs_53 : decode cX6_faultAs 53 = .ok (.iload_n 3, 1) := by decide +kernel
theorem dX6_faultAs_54 : decode cX6_faultAs 54 = .ok (.ireturn, 1) := by decide +kernel
theorem dX6_faultAs_55 : decode cX6_faultAs 55 = .ok (.iinc 3 1, 3) := by decide +kernel
theorem dX6_faultAs_58 : decode cX6_faultAs 58 = .ok (.goto (-34), 3) := by decide +kernel
theorem dX6_faultAs_61 : decode cX6_faultAs 61 = .ok (.aload_n 0, 1) := by decide +kernel
theorem dX6_faultAs_62 : decode cX6_faultAs 62 = .ok (.getfield 82, 3) := by decide +kernel
theorem dX6_faultAs_65 : decode cX6_faultAs 65 = .ok (.iload_n 2, 1) := by decide +kernel
theorem dX6_faultAs_66 : decode cX6_faultAs 66 = .ok (.if_icmp .ge 10, 3) := by decide +kernel
theorem dX6_faultAs_69 : decode cX6_faultAs 69 = .ok (.aload_n 0, 1) := by decide +kernel
theorem dX6_faultAs_70 : decode cX6_faultAs 70 = .ok (.getfield 82, 3) := by decide +kernel
theorem dX6_faultAs_73 : decode cX6_faultAs 73 = .ok (.goto 5, 3) := by decide +kernel
theorem dX6_faultAs_76 : decode cX6_faultAs 76 = .ok (.bipush (-6), 2) := by decide +kernel
theorem dX6_faultAs_78 : decode cX6_faultAs 78 = .ok (.ireturn, 1) := by decide +kernel
set_option maxRecDepth 20000 in
theorem ggX6_fault_X6_in : GoodIn wsX6_fault wsX6_in := goodIn_r _ [4] (by decide +kernel) (by decide +kernel)
set_option maxRecDepth 20000 in
theorem gX6_fault_X6_in : GoodIn wsX6_fault (va_wsS RX6 33 yX6_in wsX6_in) := goodIn_app (goodIn_of _ (by decide +kernel)) ggX6_fault_X6_in
set_option maxRecDepth 20000 in
theorem ggX6_fault_X6_faultAs : GoodIn wsX6_fault wsX6_faultAs := goodIn_r _ [8, 9, 10, 11, 12, 13, 3, 14, 15, 16, 17, 18, 19, 20, 21, 1, 2, 4, 22, 23, 24, 25, 26, 27, 28, 29, 30, 31, 32, 33, 34] (by decide +kernel) (by decide +kernel)
set_option maxRecDepth 20000 in
theorem gX6_fault_X6_faultAs : GoodIn wsX6_fault (wsV RX6 89 RX6 yX6_faultAs wsX6_faultAs) := goodIn_app (goodIn_of _ (by decide +kernel)) ggX6_fault_X6_faultAs
theorem dX6_fault_0 : decode cX6_fault 0 = .ok (.iload_n 1, 1) := by decide +kernel
theorem dX6_fault_1 : decode cX6_fault 1 = .ok (.iconst 0, 1) := by decide +kernel
theorem dX6_fault_2 : decode cX6_fault 2 = .ok (.iconst 1, 1) := by decide +kernel
theorem dX6_fault_3 : decode cX6_fault 3 = .ok (.invokestatic 33, 3) := by decide +kernel
theorem dX6_fault_6 : decode cX6_fault 6 = .ok (.ifCond .eq 11, 3) := by decide +kernel
theorem dX6_fault_9 : decode cX6_fault 9 = .ok (.aload_n 0, 1) := by decide +kernel
theorem dX6_fault_10 : decode cX6_fault 10 = .ok (.iload_n 1, 1) := by decide +kernel
theorem dX6_fault_11 : decode cX6_fault 11 = .ok (.invokevirtual 89, 3) := by decide +kernel
theorem dX6_fault_14 : decode cX6_fault 14 = .ok (.goto 5, 3) := by decide +kernel
theorem dX6_fault_17 : decode cX6_fault 17 = .ok (.bipush (-2), 2) := by decide +kernel
theorem dX6_fault_19 : decode cX6_fault 19 = .ok (.ireturn, 1) := by decide +kernel
set_option maxRecDepth 20000 in
theorem ggX6_placeOf_X6_many : GoodIn wsX6_placeOf wsX6_many := goodIn_r _ [5, 6, 7, 8, 9, 10, 11, 12, 13, 14, 15, 16, 17, 18, 19] (by decide +kernel) (by decide +kernel)
set_option maxRecDepth 20000 in
theorem gX6_placeOf_X6_many : GoodIn wsX6_placeOf (wsV RX6 68 RX6 yX6_many wsX6_many) := goodIn_app (goodIn_of _ (by decide +kernel)) ggX6_placeOf_X6_many
theorem dX6_placeOf_0 : decode cX6_placeOf 0 = .ok (.iconst 0, 1) := by decide +kernel
theorem dX6_placeOf_1 : decode cX6_placeOf 1 = .ok (.istore 4, 2) := by decide +kernel
theorem dX6_placeOf_3 : decode cX6_placeOf 3 = .ok (.iconst 0, 1) := by decide +kernel
theorem dX6_placeOf_4 : decode cX6_placeOf 4 = .ok (.istore 5, 2) := by decide +kernel
theorem dX6_placeOf_6 : decode cX6_placeOf 6 = .ok (.iload 5, 2) := by decide +kernel
theorem dX6_placeOf_8 : decode cX6_placeOf 8 = .ok (.aload_n 0, 1) := by decide +kernel
theorem dX6_placeOf_9 : decode cX6_placeOf 9 = .ok (.invokevirtual 68, 3) := by decide +kernel
theorem dX6_placeOf_12 : decode cX6_placeOf 12 = .ok (.if_icmp .ge 75, 3) := by decide +kernel
theorem dX6_placeOf_15 : decode cX6_placeOf 15 = .ok (.iload 5, 2) := by decide +kernel
theorem dX6_placeOf_17 : decode cX6_placeOf 17 = .ok (.iconst 1, 1) := by decide +kernel
theorem dX6_placeOf_18 : decode cX6_placeOf 18 = .ok (.iadd, 1) := by decide +kernel
theorem dX6_placeOf_19 : decode cX6_placeOf 19 = .ok (.istore 6, 2) := by decide +kernel
theorem dX6_placeOf_21 : decode cX6_placeOf 21 = .ok (.iload 6, 2) := by decide +kernel
theorem dX6_placeOf_23 : decode cX6_placeOf 23 = .ok (.aload_n 0, 1) := by decide +kernel
theorem dX6_placeOf_24 : decode cX6_placeOf 24 = .ok (.invokevirtual 68, 3) := by decide +kernel
theorem dX6_placeOf_27 : decode cX6_placeOf 27 = .ok (.if_icmp .ge 54, 3) := by decide +kernel
theorem dX6_placeOf_30 : decode cX6_placeOf 30 = .ok (.iload 6, 2) := by decide +kernel
theorem dX6_placeOf_32 : decode cX6_placeOf 32 = .ok (.iconst 1, 1) := by decide +kernel
theorem dX6_placeOf_33 : decode cX6_placeOf 33 = .ok (.iadd, 1) := by decide +kernel
theorem dX6_placeOf_34 : decode cX6_placeOf 34 = .ok (.istore 7, 2) := by decide +kernel
theorem dX6_placeOf_36 : decode cX6_placeOf 36 = .ok (.iload 7, 2) := by decide +kernel
theorem dX6_placeOf_38 : decode cX6_placeOf 38 = .ok (.aload_n 0, 1) := by decide +kernel
theorem dX6_placeOf_39 : decode cX6_placeOf 39 = .ok (.invokevirtual 68, 3) := by decide +kernel
theorem dX6_placeOf_42 : decode cX6_placeOf 42 = .ok (.if_icmp .ge 33, 3) := by decide +kernel
theorem dX6_placeOf_45 : decode cX6_placeOf 45 = .ok (.iload 5, 2) := by decide +kernel
theorem dX6_placeOf_47 : decode cX6_placeOf 47 = .ok (.iload_n 1, 1) := by decide +kernel
theorem dX6_placeOf_48 : decode cX6_placeOf 48 = .ok (.if_icmp .ne 18, 3) := by decide +kernel
theorem dX6_placeOf_51 : decode cX6_placeOf 51 = .ok (.iload 6, 2) := by decide +kernel
theorem dX6_placeOf_53 : decode cX6_placeOf 53 = .ok (.iload_n 2, 1) := by decide +kernel
theorem dX6_placeOf_54 : decode cX6_placeOf 54 = .ok (.if_icmp .ne 12, 3) := by decide +kernel
theorem dX6_placeOf_57 : decode cX6_placeOf 57 = .ok (.iload 7, 2) := by decide +kernel
theorem dX6_placeOf_59 : decode cX6_placeOf 59 = .ok (.iload_n 3, 1) := by decide +kernel
theorem dX6_placeOf_60 : decode cX6_placeOf 60 = .ok (.if_icmp .ne 6, 3) := by decide +kernel
theorem dX6_placeOf_63 : decode cX6_placeOf 63 = .ok (.iload 4, 2) := by decide +kernel
theorem dX6_placeOf_65 : decode cX6_placeOf 65 = .ok (.ireturn, 1) := by decide +kernel
theorem dX6_placeOf_66 : decode cX6_placeOf 66 = .ok (.iinc 4 1, 3) := by decide +kernel
theorem dX6_placeOf_69 : decode cX6_placeOf 69 = .ok (.iinc 7 1, 3) := by decide +kernel
theorem dX6_placeOf_72 : decode cX6_placeOf 72 = .ok (.goto (-36), 3) := by decide +kernel
theorem dX6_placeOf_75 : decode cX6_placeOf 75 = .ok (.iinc 6 1, 3) := by decide +kernel
theorem dX6_placeOf_78 : decode cX6_placeOf 78 = .ok (.goto (-57), 3) := by decide +kernel
theorem dX6_placeOf_81 : decode cX6_placeOf 81 = .ok (.iinc 5 1, 3) := by decide +kernel
theorem dX6_placeOf_84 : decode cX6_placeOf 84 = .ok (.goto (-78), 3) := by decide +kernel
theorem dX6_placeOf_87 : decode cX6_placeOf 87 = .ok (.bipush (-6), 2) := by decide +kernel
theorem dX6_placeOf_89 : decode cX6_placeOf 89 = .ok (.ireturn, 1) := by decide +kernel
set_option maxRecDepth 20000 in
theorem ggX6_told_X6_placeOf : GoodIn wsX6_told wsX6_placeOf := goodIn_r _ [6, 7, 8, 9, 5, 10, 11, 12, 13, 14, 15, 16, 17, 18, 19, 20, 21, 22, 23, 24] (by decide +kernel) (by decide +kernel)
set_option maxRecDepth 20000 in
theorem gX6_told_X6_placeOf : GoodIn wsX6_told (wsV RX6 92 RX6 yX6_placeOf wsX6_placeOf) := goodIn_app (goodIn_of _ (by decide +kernel)) ggX6_told_X6_placeOf
theorem dX6_told_0 : decode cX6_told 0 = .ok (.aload_n 0, 1) := by decide +kernel
theorem dX6_told_1 : decode cX6_told 1 = .ok (.getfield 20, 3) := by decide +kernel
theorem dX6_told_4 : decode cX6_told 4 = .ok (.aload_n 0, 1) := by decide +kernel
theorem dX6_told_5 : decode cX6_told 5 = .ok (.iload_n 1, 1) := by decide +kernel
theorem dX6_told_6 : decode cX6_told 6 = .ok (.iload_n 2, 1) := by decide +kernel
theorem dX6_told_7 : decode cX6_told 7 = .ok (.iload_n 3, 1) := by decide +kernel
theorem dX6_told_8 : decode cX6_told 8 = .ok (.invokevirtual 92, 3) := by decide +kernel
theorem dX6_told_11 : decode cX6_told 11 = .ok (.iaload, 1) := by decide +kernel
theorem dX6_told_12 : decode cX6_told 12 = .ok (.bipush 48, 2) := by decide +kernel
theorem dX6_told_14 : decode cX6_told 14 = .ok (.isub, 1) := by decide +kernel
theorem dX6_told_15 : decode cX6_told 15 = .ok (.ireturn, 1) := by decide +kernel
set_option maxRecDepth 20000 in
theorem ggX6_fitFour_X6_told : GoodIn wsX6_fitFour wsX6_told := goodIn_r _ [5, 6, 7, 8, 9, 4, 10, 11, 12, 13, 14, 15, 16, 17, 18, 19, 20, 21, 22, 23, 24, 25, 26, 27, 28] (by decide +kernel) (by decide +kernel)
set_option maxRecDepth 20000 in
theorem gX6_fitFour_X6_told : GoodIn wsX6_fitFour (wsV RX6 95 RX6 yX6_told wsX6_told) := goodIn_app (goodIn_of _ (by decide +kernel)) ggX6_fitFour_X6_told
theorem dX6_fitFour_0 : decode cX6_fitFour 0 = .ok (.aload_n 0, 1) := by decide +kernel
theorem dX6_fitFour_1 : decode cX6_fitFour 1 = .ok (.iload_n 1, 1) := by decide +kernel
theorem dX6_fitFour_2 : decode cX6_fitFour 2 = .ok (.iload_n 2, 1) := by decide +kernel
theorem dX6_fitFour_3 : decode cX6_fitFour 3 = .ok (.iload_n 3, 1) := by decide +kernel
theorem dX6_fitFour_4 : decode cX6_fitFour 4 = .ok (.invokevirtual 95, 3) := by decide +kernel
theorem dX6_fitFour_7 : decode cX6_fitFour 7 = .ok (.aload_n 0, 1) := by decide +kernel
theorem dX6_fitFour_8 : decode cX6_fitFour 8 = .ok (.iload_n 1, 1) := by decide +kernel
theorem dX6_fitFour_9 : decode cX6_fitFour 9 = .ok (.iload_n 2, 1) := by decide +kernel
theorem dX6_fitFour_10 : decode cX6_fitFour 10 = .ok (.iload 4, 2) := by decide +kernel
theorem dX6_fitFour_12 : decode cX6_fitFour 12 = .ok (.invokevirtual 95, 3) := by decide +kernel
theorem dX6_fitFour_15 : decode cX6_fitFour 15 = .ok (.iadd, 1) := by decide +kernel
theorem dX6_fitFour_16 : decode cX6_fitFour 16 = .ok (.aload_n 0, 1) := by decide +kernel
theorem dX6_fitFour_17 : decode cX6_fitFour 17 = .ok (.iload_n 1, 1) := by decide +kernel
theorem dX6_fitFour_18 : decode cX6_fitFour 18 = .ok (.iload_n 3, 1) := by decide +kernel
theorem dX6_fitFour_19 : decode cX6_fitFour 19 = .ok (.iload 4, 2) := by decide +kernel
theorem dX6_fitFour_21 : decode cX6_fitFour 21 = .ok (.invokevirtual 95, 3) := by decide +kernel
theorem dX6_fitFour_24 : decode cX6_fitFour 24 = .ok (.iadd, 1) := by decide +kernel
theorem dX6_fitFour_25 : decode cX6_fitFour 25 = .ok (.aload_n 0, 1) := by decide +kernel
theorem dX6_fitFour_26 : decode cX6_fitFour 26 = .ok (.iload_n 2, 1) := by decide +kernel
theorem dX6_fitFour_27 : decode cX6_fitFour 27 = .ok (.iload_n 3, 1) := by decide +kernel
theorem dX6_fitFour_28 : decode cX6_fitFour 28 = .ok (.iload 4, 2) := by decide +kernel
theorem dX6_fitFour_30 : decode cX6_fitFour 30 = .ok (.invokevirtual 95, 3) := by decide +kernel
theorem dX6_fitFour_33 : decode cX6_fitFour 33 = .ok (.iadd, 1) := by decide +kernel
theorem dX6_fitFour_34 : decode cX6_fitFour 34 = .ok (.iconst 2, 1) := by decide +kernel
theorem dX6_fitFour_35 : decode cX6_fitFour 35 = .ok (.irem, 1) := by decide +kernel
theorem dX6_fitFour_36 : decode cX6_fitFour 36 = .ok (.ifCond .ne 7, 3) := by decide +kernel
theorem dX6_fitFour_39 : decode cX6_fitFour 39 = .ok (.iconst 1, 1) := by decide +kernel
theorem dX6_fitFour_40 : decode cX6_fitFour 40 = .ok (.goto 4, 3) := by decide +kernel
theorem dX6_fitFour_43 : decode cX6_fitFour 43 = .ok (.iconst 0, 1) := by decide +kernel
theorem dX6_fitFour_44 : decode cX6_fitFour 44 = .ok (.ireturn, 1) := by decide +kernel
set_option maxRecDepth 20000 in
theorem ggX6_areFit_X6_many : GoodIn wsX6_areFit wsX6_many := goodIn_r _ [5, 6, 20, 21, 22, 23, 24, 25, 26, 27, 28, 29, 30, 31, 32] (by decide +kernel) (by decide +kernel)
set_option maxRecDepth 20000 in
theorem gX6_areFit_X6_many : GoodIn wsX6_areFit (wsV RX6 68 RX6 yX6_many wsX6_many) := goodIn_app (goodIn_of _ (by decide +kernel)) ggX6_areFit_X6_many
set_option maxRecDepth 20000 in
theorem ggX6_areFit_X6_fitFour : GoodIn wsX6_areFit wsX6_fitFour := goodIn_r _ [10, 11, 12, 13, 4, 14, 15, 16, 17, 18, 19, 1, 2, 3, 5, 6, 20, 21, 22, 23, 24, 25, 26, 27, 28, 29, 30, 31, 32] (by decide +kernel) (by decide +kernel)
set_option maxRecDepth 20000 in
theorem gX6_areFit_X6_fitFour : GoodIn wsX6_areFit (wsV RX6 98 RX6 yX6_fitFour wsX6_fitFour) := goodIn_app (goodIn_of _ (by decide +kernel)) ggX6_areFit_X6_fitFour
theorem dX6_areFit_0 : decode cX6_areFit 0 = .ok (.iconst 1, 1) := by decide +kernel
theorem dX6_areFit_1 : decode cX6_areFit 1 = .ok (.istore_n 1, 1) := by decide +kernel
theorem dX6_areFit_2 : decode cX6_areFit 2 = .ok (.iconst 0, 1) := by decide +kernel
theorem dX6_areFit_3 : decode cX6_areFit 3 = .ok (.istore_n 2, 1) := by decide +kernel
theorem dX6_areFit_4 : decode cX6_areFit 4 = .ok (.iload_n 2, 1) := by decide +kernel
theorem dX6_areFit_5 : decode cX6_areFit 5 = .ok (.aload_n 0, 1) := by decide +kernel
theorem dX6_areFit_6 : decode cX6_areFit 6 = .ok (.invokevirtual 68, 3) := by decide +kernel
theorem dX6_areFit_9 : decode cX6_areFit 9 = .ok (.if_icmp .ge 91, 3) := by decide +kernel
theorem dX6_areFit_12 : decode cX6_areFit 12 = .ok (.iload_n 2, 1) := by decide +kernel
theorem dX6_areFit_13 : decode cX6_areFit 13 = .ok (.iconst 1, 1) := by decide +kernel
theorem dX6_areFit_14 : decode cX6_areFit 14 = .ok (.iadd, 1) := by decide +kernel
theorem dX6_areFit_15 : decode cX6_areFit 15 = .ok (.istore_n 3, 1) := by decide +kernel
theorem dX6_areFit_16 : decode cX6_areFit 16 = .ok (.iload_n 3, 1) := by decide +kernel
theorem dX6_areFit_17 : decode cX6_areFit 17 = .ok (.aload_n 0, 1) := by decide +kernel
theorem dX6_areFit_18 : decode cX6_areFit 18 = .ok (.invokevirtual 68, 3) := by decide +kernel
theorem dX6_areFit_21 : decode cX6_areFit 21 = .ok (.if_icmp .ge 73, 3) := by decide +kernel
theorem dX6_areFit_24 : decode cX6_areFit 24 = .ok (.iload_n 3, 1) := by decide +kernel
theorem dX6_areFit_25 : decode cX6_areFit 25 = .ok (.iconst 1, 1) := by decide +kernel
theorem dX6_areFit_26 : decode cX6_areFit 26 = .ok (.iadd, 1) := by decide +kernel
theorem dX6_areFit_27 : decode cX6_areFit 27 = .ok (.istore 4, 2) := by decide +kernel
theorem dX6_areFit_29 : decode cX6_areFit 29 = .ok (.iload 4, 2) := by decide +kernel
theorem dX6_areFit_31 : decode cX6_areFit 31 = .ok (.aload_n 0, 1) := by decide +kernel
theorem dX6_areFit_32 : decode cX6_areFit 32 = .ok (.invokevirtual 68, 3) := by decide +kernel
theorem dX6_areFit_35 : decode cX6_areFit 35 = .ok (.if_icmp .ge 53, 3) := by decide +kernel
theorem dX6_areFit_38 : decode cX6_areFit 38 = .ok (.iload 4, 2) := by decide +kernel
theorem dX6_areFit_40 : decode cX6_areFit 40 = .ok (.iconst 1, 1) := by decide +kernel
theorem dX6_areFit_41 : decode cX6_areFit 41 = .ok (.iadd, 1) := by decide +kernel
theorem dX6_areFit_42 : decode cX6_areFit 42 = .ok (.istore 5, 2) := by decide +kernel
theorem dX6_areFit_44 : decode cX6_areFit 44 = .ok (.iload 5, 2) := by decide +kernel
theorem dX6_areFit_46 : decode cX6_areFit 46 = .ok (.aload_n 0, 1) := by decide +kernel
theorem dX6_areFit_47 : decode cX6_areFit 47 = .ok (.invokevirtual 68, 3) := by decide +kernel
theorem dX6_areFit_50 : decode cX6_areFit 50 = .ok (.if_icmp .ge 32, 3) := by decide +kernel
theorem dX6_areFit_53 : decode cX6_areFit 53 = .ok (.iload_n 1, 1) := by decide +kernel
theorem dX6_areFit_54 : decode cX6_areFit 54 = .ok (.ifCond .eq 20, 3) := by decide +kernel
theorem dX6_areFit_57 : decode cX6_areFit 57 = .ok (.aload_n 0, 1) := by decide +kernel
theorem dX6_areFit_58 : decode cX6_areFit 58 = .ok (.iload_n 2, 1) := by decide +kernel
theorem dX6_areFit_59 : decode cX6_areFit 59 = .ok (.iload_n 3, 1) := by decide +kernel
theorem dX6_areFit_60 : decode cX6_areFit 60 = .ok (.iload 4, 2) := by decide +kernel
theorem dX6_areFit_62 : decode cX6_areFit 62 = .ok (.iload 5, 2) := by decide +kernel
theorem dX6_areFit_64 : decode cX6_areFit 64 = .ok (.invokevirtual 98, 3) := by decide +kernel
theorem dX6_areFit_67 : decode cX6_areFit 67 = .ok (.ifCond .eq 7, 3) := by decide +kernel
theorem dX6_areFit_70 : decode cX6_areFit 70 = .ok (.iconst 1, 1) := by decide +kernel
theorem dX6_areFit_71 : decode cX6_areFit 71 = .ok (.goto 4, 3) := by decide +kernel
theorem dX6_areFit_74 : decode cX6_areFit 74 = .ok (.iconst 0, 1) := by decide +kernel
theorem dX6_areFit_75 : decode cX6_areFit 75 = .ok (.istore_n 1, 1) := by decide +kernel
theorem dX6_areFit_76 : decode cX6_areFit 76 = .ok (.iinc 5 1, 3) := by decide +kernel
theorem dX6_areFit_79 : decode cX6_areFit 79 = .ok (.goto (-35), 3) := by decide +kernel
theorem dX6_areFit_82 : decode cX6_areFit 82 = .ok (.iinc 4 1, 3) := by decide +kernel
theorem dX6_areFit_85 : decode cX6_areFit 85 = .ok (.goto (-56), 3) := by decide +kernel
theorem dX6_areFit_88 : decode cX6_areFit 88 = .ok (.iinc 3 1, 3) := by decide +kernel
theorem dX6_areFit_91 : decode cX6_areFit 91 = .ok (.goto (-75), 3) := by decide +kernel
theorem dX6_areFit_94 : decode cX6_areFit 94 = .ok (.iinc 2 1, 3) := by decide +kernel
theorem dX6_areFit_97 : decode cX6_areFit 97 = .ok (.goto (-93), 3) := by decide +kernel
theorem dX6_areFit_100 : decode cX6_areFit 100 = .ok (.iload_n 1, 1) := by decide +kernel
theorem dX6_areFit_101 : decode cX6_areFit 101 = .ok (.ireturn, 1) := by decide +kernel
theorem dX6_netOfPad_0 : decode cX6_netOfPad 0 = .ok (.iconst 0, 1) := by decide +kernel
theorem dX6_netOfPad_1 : decode cX6_netOfPad 1 = .ok (.istore_n 1, 1) := by decide +kernel
theorem dX6_netOfPad_2 : decode cX6_netOfPad 2 = .ok (.iconst 0, 1) := by decide +kernel
theorem dX6_netOfPad_3 : decode cX6_netOfPad 3 = .ok (.istore_n 2, 1) := by decide +kernel
theorem dX6_netOfPad_4 : decode cX6_netOfPad 4 = .ok (.iload_n 2, 1) := by decide +kernel
theorem dX6_netOfPad_5 : decode cX6_netOfPad 5 = .ok (.aload_n 0, 1) := by decide +kernel
theorem dX6_netOfPad_6 : decode cX6_netOfPad 6 = .ok (.getfield 82, 3) := by decide +kernel
theorem dX6_netOfPad_9 : decode cX6_netOfPad 9 = .ok (.if_icmp .ge 23, 3) := by decide +kernel
theorem dX6_netOfPad_12 : decode cX6_netOfPad 12 = .ok (.iconst 2, 1) := by decide +kernel
theorem dX6_netOfPad_13 : decode cX6_netOfPad 13 = .ok (.iload_n 1, 1) := by decide +kernel
theorem dX6_netOfPad_14 : decode cX6_netOfPad 14 = .ok (.imul, 1) := by decide +kernel
theorem dX6_netOfPad_15 : decode cX6_netOfPad 15 = .ok (.aload_n 0, 1) := by decide +kernel
theorem dX6_netOfPad_16 : decode cX6_netOfPad 16 = .ok (.getfield 20, 3) := by decide +kernel
theorem dX6_netOfPad_19 : decode cX6_netOfPad 19 = .ok (.iload_n 2, 1) := by decide +kernel
theorem dX6_netOfPad_20 : decode cX6_netOfPad 20 = .ok (.iaload, 1) := by decide +kernel
theorem dX6_netOfPad_21 : decode cX6_netOfPad 21 = .ok (.iadd, 1) := by decide +kernel
theorem dX6_netOfPad_22 : decode cX6_netOfPad 22 = .ok (.bipush 48, 2) := by decide +kernel
theorem dX6_netOfPad_24 : decode cX6_netOfPad 24 = .ok (.isub, 1) := by decide +kernel
theorem dX6_netOfPad_25 : decode cX6_netOfPad 25 = .ok (.istore_n 1, 1) := by decide +kernel
theorem dX6_netOfPad_26 : decode cX6_netOfPad 26 = .ok (.iinc 2 1, 3) := by decide +kernel
theorem dX6_netOfPad_29 : decode cX6_netOfPad 29 = .ok (.goto (-25), 3) := by decide +kernel
theorem dX6_netOfPad_32 : decode cX6_netOfPad 32 = .ok (.iload_n 1, 1) := by decide +kernel
theorem dX6_netOfPad_33 : decode cX6_netOfPad 33 = .ok (.ireturn, 1) := by decide +kernel
set_option maxRecDepth 20000 in
theorem ggX6_netOfTriples_X6_many : GoodIn wsX6_netOfTriples wsX6_many := goodIn_r _ [5, 6, 22, 23, 24, 25, 26, 27, 28, 29, 30, 31, 32, 33, 34] (by decide +kernel) (by decide +kernel)
set_option maxRecDepth 20000 in
theorem gX6_netOfTriples_X6_many : GoodIn wsX6_netOfTriples (wsV RX6 68 RX6 yX6_many wsX6_many) := goodIn_app (goodIn_of _ (by decide +kernel)) ggX6_netOfTriples_X6_many
set_option maxRecDepth 20000 in
theorem ggX6_netOfTriples_X6_told : GoodIn wsX6_netOfTriples wsX6_told := goodIn_r _ [10, 11, 12, 13, 14, 4, 15, 1, 2, 3, 5, 6, 22, 23, 24, 25, 26, 27, 28, 29, 30, 31, 32, 33, 34] (by decide +kernel) (by decide +kernel)
set_option maxRecDepth 20000 in
theorem gX6_netOfTriples_X6_told : GoodIn wsX6_netOfTriples (wsV RX6 95 RX6 yX6_told wsX6_told) := goodIn_app (goodIn_of _ (by decide +kernel)) ggX6_netOfTriples_X6_told
set_option maxRecDepth 20000 in
theorem ggX6_netOfTriples_X6_valueOf : GoodIn wsX6_netOfTriples wsX6_valueOf := goodIn_r _ [18, 19, 20, 4, 21] (by decide +kernel) (by decide +kernel)
set_option maxRecDepth 20000 in
theorem gX6_netOfTriples_X6_valueOf : GoodIn wsX6_netOfTriples (va_wsS RX6 41 yX6_valueOf wsX6_valueOf) := goodIn_app (goodIn_of _ (by decide +kernel)) ggX6_netOfTriples_X6_valueOf
theorem dX6_netOfTriples_0 : decode cX6_netOfTriples 0 = .ok (.iconst 0, 1) := by decide +kernel
theorem dX6_netOfTriples_1 : decode cX6_netOfTriples 1 = .ok (.istore_n 1, 1) := by decide +kernel
theorem dX6_netOfTriples_2 : decode cX6_netOfTriples 2 = .ok (.iconst 1, 1) := by decide +kernel
theorem dX6_netOfTriples_3 : decode cX6_netOfTriples 3 = .ok (.istore_n 2, 1) := by decide +kernel
theorem dX6_netOfTriples_4 : decode cX6_netOfTriples 4 = .ok (.iload_n 2, 1) := by decide +kernel
theorem dX6_netOfTriples_5 : decode cX6_netOfTriples 5 = .ok (.aload_n 0, 1) := by decide +kernel
theorem dX6_netOfTriples_6 : decode cX6_netOfTriples 6 = .ok (.invokevirtual 68, 3) := by decide +kernel
theorem dX6_netOfTriples_9 : decode cX6_netOfTriples 9 = .ok (.if_icmp .ge 54, 3) := by decide +kernel
theorem dX6_netOfTriples_12 : decode cX6_netOfTriples 12 = .ok (.iload_n 2, 1) := by decide +kernel
theorem dX6_netOfTriples_13 : decode cX6_netOfTriples 13 = .ok (.iconst 1, 1) := by decide +kernel
theorem dX6_netOfTriples_14 : decode cX6_netOfTriples 14 = .ok (.iadd, 1) := by decide +kernel
theorem dX6_netOfTriples_15 : decode cX6_netOfTriples 15 = .ok (.istore_n 3, 1) := by decide +kernel
theorem dX6_netOfTriples_16 : decode cX6_netOfTriples 16 = .ok (.iload_n 3, 1) := by decide +kernel
theorem dX6_netOfTriples_17 : decode cX6_netOfTriples 17 = .ok (.aload_n 0, 1) := by decide +kernel
theorem dX6_netOfTriples_18 : decode cX6_netOfTriples 18 = .ok (.invokevirtual 68, 3) := by decide +kernel
theorem dX6_netOfTriples_21 : decode cX6_netOfTriples 21 = .ok (.if_icmp .ge 36, 3) := by decide +kernel
theorem dX6_netOfTriples_24 : decode cX6_netOfTriples 24 = .ok (.iload_n 1, 1) := by decide +kernel
theorem dX6_netOfTriples_25 : decode cX6_netOfTriples 25 = .ok (.aload_n 0, 1) := by decide +kernel
theorem dX6_netOfTriples_26 : decode cX6_netOfTriples 26 = .ok (.iconst 0, 1) := by decide +kernel
theorem dX6_netOfTriples_27 : decode cX6_netOfTriples 27 = .ok (.iload_n 2, 1) := by decide +kernel
theorem dX6_netOfTriples_28 : decode cX6_netOfTriples 28 = .ok (.iload_n 3, 1) := by decide +kernel
theorem dX6_netOfTriples_29 : decode cX6_netOfTriples 29 = .ok (.invokevirtual 95, 3) := by decide +kernel
theorem dX6_netOfTriples_32 : decode cX6_netOfTriples 32 = .ok (.iconst 1, 1) := by decide +kernel
theorem dX6_netOfTriples_33 : decode cX6_netOfTriples 33 = .ok (.if_icmp .ne 15, 3) := by decide +kernel
theorem dX6_netOfTriples_36 : decode cX6_netOfTriples 36 = .ok (.aload_n 0, 1) := by decide +kernel
theorem dX6_netOfTriples_37 : decode cX6_netOfTriples 37 = .ok (.invokevirtual 68, 3) := by decide +kernel
theorem dX6_netOfTriples_40 : decode cX6_netOfTriples 40 = .ok (.iload_n 2, 1) := by decide +kernel
theorem dX6_netOfTriples_41 : decode cX6_netOfTriples 41 = .ok (.iload_n 3, 1) := by decide +kernel
theorem dX6_netOfTriples_42 : decode cX6_netOfTriples 42 = .ok (.invokestatic 41, 3) := by decide +kernel
theorem dX6_netOfTriples_45 : decode cX6_netOfTriples 45 = .ok (.goto 4, 3) := by decide +kernel
theorem dX6_netOfTriples_48 : decode cX6_netOfTriples 48 = .ok (.iconst 0, 1) := by decide +kernel
theorem dX6_netOfTriples_49 : decode cX6_netOfTriples 49 = .ok (.ior, 1) := by decide +kernel
theorem dX6_netOfTriples_50 : decode cX6_netOfTriples 50 = .ok (.istore_n 1, 1) := by decide +kernel
theorem dX6_netOfTriples_51 : decode cX6_netOfTriples 51 = .ok (.iinc 3 1, 3) := by decide +kernel
theorem dX6_netOfTriples_54 : decode cX6_netOfTriples 54 = .ok (.goto (-38), 3) := by decide +kernel
theorem dX6_netOfTriples_57 : decode cX6_netOfTriples 57 = .ok (.iinc 2 1, 3) := by decide +kernel
theorem dX6_netOfTriples_60 : decode cX6_netOfTriples 60 = .ok (.goto (-56), 3) := by decide +kernel
theorem dX6_netOfTriples_63 : decode cX6_netOfTriples 63 = .ok (.iload_n 1, 1) := by decide +kernel
theorem dX6_netOfTriples_64 : decode cX6_netOfTriples 64 = .ok (.ireturn, 1) := by decide +kernel
set_option maxRecDepth 20000 in
theorem ggX6_read_X6_isSlot : GoodIn wsX6_read wsX6_isSlot := goodIn_r _ [5, 6, 7, 4, 8] (by decide +kernel) (by decide +kernel)
set_option maxRecDepth 20000 in
theorem gX6_read_X6_isSlot : GoodIn wsX6_read (va_wsS RX6 72 yX6_isSlot wsX6_isSlot) := goodIn_app (goodIn_of _ (by decide +kernel)) ggX6_read_X6_isSlot
set_option maxRecDepth 20000 in
theorem ggX6_read_X6_in : GoodIn wsX6_read wsX6_in := goodIn_r _ [8] (by decide +kernel) (by decide +kernel)
set_option maxRecDepth 20000 in
theorem gX6_read_X6_in : GoodIn wsX6_read (va_wsS RX6 33 yX6_in wsX6_in) := goodIn_app (goodIn_of _ (by decide +kernel)) ggX6_read_X6_in
set_option maxRecDepth 20000 in
theorem ggX6_read_X6_faultAs : GoodIn wsX6_read wsX6_faultAs := goodIn_r _ [12, 1, 13, 14, 15, 16, 4, 17, 18, 19, 20, 21, 22, 23, 24, 6, 7, 8, 56, 57, 58, 59, 60, 61, 62, 63, 64, 65, 66, 67, 68] (by decide +kernel) (by decide +kernel)
set_option maxRecDepth 20000 in
theorem gX6_read_X6_faultAs : GoodIn wsX6_read (wsV RX6 89 RX6 yX6_faultAs wsX6_faultAs) := goodIn_app (goodIn_of _ (by decide +kernel)) ggX6_read_X6_faultAs
set_option maxRecDepth 20000 in
theorem ggX6_read_X6_areFit : GoodIn wsX6_read wsX6_areFit := goodIn_r _ [28, 14, 15, 16, 4, 17, 18, 29, 30, 31, 32, 33, 34, 35, 36, 13, 37, 38, 39, 40, 56, 57, 58, 59, 60, 61, 62, 63, 64, 65, 66, 67, 68] (by decide +kernel) (by decide +kernel)
set_option maxRecDepth 20000 in
theorem gX6_read_X6_areFit : GoodIn wsX6_read (wsV RX6 102 RX6 yX6_areFit wsX6_areFit) := goodIn_app (goodIn_of _ (by decide +kernel)) ggX6_read_X6_areFit
set_option maxRecDepth 20000 in
theorem ggX6_read_X6_netOfPad : GoodIn wsX6_read wsX6_netOfPad := goodIn_r _ [44, 1, 13, 56, 57, 58, 59, 60, 61, 62, 63, 64, 65, 66, 67, 68] (by decide +kernel) (by decide +kernel)
set_option maxRecDepth 20000 in
theorem gX6_read_X6_netOfPad : GoodIn wsX6_read (wsV RX6 106 RX6 yX6_netOfPad wsX6_netOfPad) := goodIn_app (goodIn_of _ (by decide +kernel)) ggX6_read_X6_netOfPad
set_option maxRecDepth 20000 in
theorem ggX6_read_X6_netOfTriples : GoodIn wsX6_read wsX6_netOfTriples := goodIn_r _ [48, 14, 15, 16, 4, 17, 18, 33, 34, 35, 36, 13, 37, 38, 39, 40, 49, 50, 51, 19, 20, 21, 56, 57, 58, 59, 60, 61, 62, 63, 64, 65, 66, 67, 68] (by decide +kernel) (by decide +kernel)
set_option maxRecDepth 20000 in
theorem gX6_read_X6_netOfTriples : GoodIn wsX6_read (wsV RX6 109 RX6 yX6_netOfTriples wsX6_netOfTriples) := goodIn_app (goodIn_of _ (by decide +kernel)) ggX6_read_X6_netOfTriples
set_option maxRecDepth 20000 in
theorem ggX6_read_X6_hold : GoodIn wsX6_read wsX6_hold := goodIn_r _ [55, 18, 56, 57, 58, 59, 60, 61, 62, 63, 64, 65, 66, 67, 68] (by decide +kernel) (by decide +kernel)
set_option maxRecDepth 20000 in
theorem gX6_read_X6_hold : GoodIn wsX6_read (wsV RX6 112 RX6 yX6_hold wsX6_hold) := goodIn_app (goodIn_of _ (by decide +kernel)) ggX6_read_X6_hold
theorem dX6_read_0 : decode cX6_read 0 = .ok (.iload_n 1, 1) := by decide +kernel
theorem dX6_read_1 : decode cX6_read 1 = .ok (.invokestatic 72, 3) := by decide +kernel
theorem dX6_read_4 : decode cX6_read 4 = .ok (.ifCond .ne 5, 3) := by decide +kernel
theorem dX6_read_7 : decode cX6_read 7 = .ok (.iconst (-1), 1) := by decide +kernel
theorem dX6_read_8 : decode cX6_read 8 = .ok (.ireturn, 1) := by decide +kernel
theorem dX6_read_9 : decode cX6_read 9 = .ok (.iload_n 2, 1) := by decide +kernel
theorem dX6_read_10 : decode cX6_read 10 = .ok (.iconst 0, 1) := by decide +kernel
theorem dX6_read_11 : decode cX6_read 11 = .ok (.iconst 1, 1) := by decide +kernel
theorem dX6_read_12 : decode cX6_read 12 = .ok (.invokestatic 33, 3) := by decide +kernel
theorem dX6_read_15 : decode cX6_read 15 = .ok (.ifCond .ne 6, 3) := by decide +kernel
theorem dX6_read_18 : decode cX6_read 18 = .ok (.bipush (-2), 2) := by decide +kernel
theorem dX6_read_20 : decode cX6_read 20 = .ok (.ireturn, 1) := by decide +kernel
theorem dX6_read_21 : decode cX6_read 21 = .ok (.aload_n 0, 1) := by decide +kernel
theorem dX6_read_22 : decode cX6_read 22 = .ok (.iload_n 2, 1) := by decide +kernel
theorem dX6_read_23 : decode cX6_read 23 = .ok (.invokevirtual 89, 3) := by decide +kernel
theorem dX6_read_26 : decode cX6_read 26 = .ok (.ifCond .lt 6, 3) := by decide +kernel
theorem dX6_read_29 : decode cX6_read 29 = .ok (.bipush (-7), 2) := by decide +kernel
theorem dX6_read_31 : decode cX6_read 31 = .ok (.ireturn, 1) := by decide +kernel
theorem dX6_read_32 : decode cX6_read 32 = .ok (.iload_n 2, 1) := by decide +kernel
theorem dX6_read_33 : decode cX6_read 33 = .ok (.iconst 1, 1) := by decide +kernel
theorem dX6_read_34 : decode cX6_read 34 = .ok (.if_icmp .ne 13, 3) := by decide +kernel
theorem dX6_read_37 : decode cX6_read 37 = .ok (.aload_n 0, 1) := by decide +kernel
theorem dX6_read_38 : decode cX6_read 38 = .ok (.invokevirtual 102, 3) := by decide +kernel
theorem dX6_read_41 : decode cX6_read 41 = .ok (.ifCond .ne 6, 3) := by decide +kernel
theorem dX6_read_44 : decode cX6_read 44 = .ok (.bipush (-3), 2) := by decide +kernel
theorem dX6_read_46 : decode cX6_read 46 = .ok (.ireturn, 1) := by decide +kernel
theorem dX6_read_47 : decode cX6_read 47 = .ok (.iload_n 2, 1) := by decide +kernel
theorem dX6_read_48 : decode cX6_read 48 = .ok (.ifCond .ne 10, 3) := by decide +kernel
theorem dX6_read_51 : decode cX6_read 51 = .ok (.aload_n 0, 1) := by decide +kernel
theorem dX6_read_52 : decode cX6_read 52 = .ok (.invokevirtual 106, 3) := by decide +kernel
theorem dX6_read_55 : decode cX6_read 55 = .ok (.goto 7, 3) := by decide +kernel
theorem dX6_read_58 : decode cX6_read 58 = .ok (.aload_n 0, 1) := by decide +kernel
theorem dX6_read_59 : decode cX6_read 59 = .ok (.invokevirtual 109, 3) := by decide +kernel
theorem dX6_read_62 : decode cX6_read 62 = .ok (.istore_n 3, 1) := by decide +kernel
theorem dX6_read_63 : decode cX6_read 63 = .ok (.aload_n 0, 1) := by decide +kernel
theorem dX6_read_64 : decode cX6_read 64 = .ok (.iconst 0, 1) := by decide +kernel
theorem dX6_read_65 : decode cX6_read 65 = .ok (.putfield 82, 3) := by decide +kernel
theorem dX6_read_68 : decode cX6_read 68 = .ok (.aload_n 0, 1) := by decide +kernel
theorem dX6_read_69 : decode cX6_read 69 = .ok (.iload_n 1, 1) := by decide +kernel
theorem dX6_read_70 : decode cX6_read 70 = .ok (.iload_n 3, 1) := by decide +kernel
theorem dX6_read_71 : decode cX6_read 71 = .ok (.invokevirtual 112, 3) := by decide +kernel
theorem dX6_read_74 : decode cX6_read 74 = .ok (.ireturn, 1) := by decide +kernel
set_option maxRecDepth 20000 in
theorem ggX6_turn_X6_isSlot : GoodIn wsX6_turn wsX6_isSlot := goodIn_r _ [4, 5, 6, 3, 7] (by decide +kernel) (by decide +kernel)
set_option maxRecDepth 20000 in
theorem gX6_turn_X6_isSlot : GoodIn wsX6_turn (va_wsS RX6 72 yX6_isSlot wsX6_isSlot) := goodIn_app (goodIn_of _ (by decide +kernel)) ggX6_turn_X6_isSlot
set_option maxRecDepth 20000 in
theorem ggX6_turn_X6_many : GoodIn wsX6_turn wsX6_many := goodIn_r _ [11, 12, 30, 31, 32, 33, 34, 35, 36, 37, 38, 39, 40, 41, 42] (by decide +kernel) (by decide +kernel)
set_option maxRecDepth 20000 in
theorem gX6_turn_X6_many : GoodIn wsX6_turn (wsV RX6 68 RX6 yX6_many wsX6_many) := goodIn_app (goodIn_of _ (by decide +kernel)) ggX6_turn_X6_many
set_option maxRecDepth 20000 in
theorem ggX6_turn_X6_in : GoodIn wsX6_turn wsX6_in := goodIn_r _ [7] (by decide +kernel) (by decide +kernel)
set_option maxRecDepth 20000 in
theorem gX6_turn_X6_in : GoodIn wsX6_turn (va_wsS RX6 33 yX6_in wsX6_in) := goodIn_app (goodIn_of _ (by decide +kernel)) ggX6_turn_X6_in
set_option maxRecDepth 20000 in
theorem ggX6_turn_X6_netOf : GoodIn wsX6_turn wsX6_netOf := goodIn_r _ [16, 12, 30, 31, 32, 33, 34, 35, 36, 37, 38, 39, 40, 41, 42] (by decide +kernel) (by decide +kernel)
set_option maxRecDepth 20000 in
theorem gX6_turn_X6_netOf : GoodIn wsX6_turn (wsV RX6 79 RX6 yX6_netOf wsX6_netOf) := goodIn_app (goodIn_of _ (by decide +kernel)) ggX6_turn_X6_netOf
set_option maxRecDepth 20000 in
theorem ggX6_turn_X6_switched : GoodIn wsX6_turn wsX6_switched := goodIn_r _ [19, 20, 21, 3, 22, 23, 24, 25] (by decide +kernel) (by decide +kernel)
set_option maxRecDepth 20000 in
theorem gX6_turn_X6_switched : GoodIn wsX6_turn (va_wsS RX6 55 yX6_switched wsX6_switched) := goodIn_app (goodIn_of _ (by decide +kernel)) ggX6_turn_X6_switched
set_option maxRecDepth 20000 in
theorem ggX6_turn_X6_hold : GoodIn wsX6_turn wsX6_hold := goodIn_r _ [29, 12, 30, 31, 32, 33, 34, 35, 36, 37, 38, 39, 40, 41, 42] (by decide +kernel) (by decide +kernel)
set_option maxRecDepth 20000 in
theorem gX6_turn_X6_hold : GoodIn wsX6_turn (wsV RX6 112 RX6 yX6_hold wsX6_hold) := goodIn_app (goodIn_of _ (by decide +kernel)) ggX6_turn_X6_hold
theorem dX6_turn_0 : decode cX6_turn 0 = .ok (.iload_n 1, 1) := by decide +kernel
theorem dX6_turn_1 : decode cX6_turn 1 = .ok (.invokestatic 72, 3) := by decide +kernel
theorem dX6_turn_4 : decode cX6_turn 4 = .ok (.ifCond .eq 10, 3) := by decide +kernel
theorem dX6_turn_7 : decode cX6_turn 7 = .ok (.iload_n 2, 1) := by decide +kernel
theorem dX6_turn_8 : decode cX6_turn 8 = .ok (.invokestatic 72, 3) := by decide +kernel
theorem dX6_turn_11 : decode cX6_turn 11 = .ok (.ifCond .ne 5, 3) := by decide +kernel
theorem dX6_turn_14 : decode cX6_turn 14 = .ok (.iconst (-1), 1) := by decide +kernel
theorem dX6_turn_15 : decode cX6_turn 15 = .ok (.ireturn, 1) := by decide +kernel
theorem dX6_turn_16 : decode cX6_turn 16 = .ok (.iload_n 3, 1) := by decide +kernel
theorem dX6_turn_17 : decode cX6_turn 17 = .ok (.iconst 0, 1) := by decide +kernel
theorem dX6_turn_18 : decode cX6_turn 18 = .ok (.iconst 1, 1) := by decide +kernel
theorem dX6_turn_19 : decode cX6_turn 19 = .ok (.aload_n 0, 1) := by decide +kernel
theorem dX6_turn_20 : decode cX6_turn 20 = .ok (.invokevirtual 68, 3) := by decide +kernel
theorem dX6_turn_23 : decode cX6_turn 23 = .ok (.ishl, 1) := by decide +kernel
theorem dX6_turn_24 : decode cX6_turn 24 = .ok (.iconst 1, 1) := by decide +kernel
theorem dX6_turn_25 : decode cX6_turn 25 = .ok (.isub, 1) := by decide +kernel
theorem dX6_turn_26 : decode cX6_turn 26 = .ok (.invokestatic 33, 3) := by decide +kernel
theorem dX6_turn_29 : decode cX6_turn 29 = .ok (.ifCond .eq 24, 3) := by decide +kernel
theorem dX6_turn_32 : decode cX6_turn 32 = .ok (.aload_n 0, 1) := by decide +kernel
theorem dX6_turn_33 : decode cX6_turn 33 = .ok (.iload_n 1, 1) := by decide +kernel
theorem dX6_turn_34 : decode cX6_turn 34 = .ok (.aload_n 0, 1) := by decide +kernel
theorem dX6_turn_35 : decode cX6_turn 35 = .ok (.invokevirtual 68, 3) := by decide +kernel
theorem dX6_turn_38 : decode cX6_turn 38 = .ok (.aload_n 0, 1) := by decide +kernel
theorem dX6_turn_39 : decode cX6_turn 39 = .ok (.iload_n 2, 1) := by decide +kernel
theorem dX6_turn_40 : decode cX6_turn 40 = .ok (.invokevirtual 79, 3) := by decide +kernel
theorem dX6_turn_43 : decode cX6_turn 43 = .ok (.iload_n 3, 1) := by decide +kernel
theorem dX6_turn_44 : decode cX6_turn 44 = .ok (.invokestatic 55, 3) := by decide +kernel
theorem dX6_turn_47 : decode cX6_turn 47 = .ok (.invokevirtual 112, 3) := by decide +kernel
theorem dX6_turn_50 : decode cX6_turn 50 = .ok (.goto 5, 3) := by decide +kernel
theorem dX6_turn_53 : decode cX6_turn 53 = .ok (.bipush (-2), 2) := by decide +kernel
theorem dX6_turn_55 : decode cX6_turn 55 = .ok (.ireturn, 1) := by decide +kernel
set_option maxRecDepth 20000 in
theorem ggX6_regular_X6_many : GoodIn wsX6_regular wsX6_many := goodIn_r _ [5, 6, 22, 23, 24, 25, 26, 27, 28, 29, 30, 31, 32, 33, 34] (by decide +kernel) (by decide +kernel)
set_option maxRecDepth 20000 in
theorem gX6_regular_X6_many : GoodIn wsX6_regular (wsV RX6 68 RX6 yX6_many wsX6_many) := goodIn_app (goodIn_of _ (by decide +kernel)) ggX6_regular_X6_many
set_option maxRecDepth 20000 in
theorem ggX6_regular_X6_oddOfPair : GoodIn wsX6_regular wsX6_oddOfPair := goodIn_r _ [9, 10, 11, 4, 12, 13, 14, 15, 16, 17, 18, 19, 20, 21] (by decide +kernel) (by decide +kernel)
set_option maxRecDepth 20000 in
theorem gX6_regular_X6_oddOfPair : GoodIn wsX6_regular (va_wsS RX6 62 yX6_oddOfPair wsX6_oddOfPair) := goodIn_app (goodIn_of _ (by decide +kernel)) ggX6_regular_X6_oddOfPair
theorem dX6_regular_0 : decode cX6_regular 0 = .ok (.aload_n 0, 1) := by decide +kernel
theorem dX6_regular_1 : decode cX6_regular 1 = .ok (.invokevirtual 68, 3) := by decide +kernel
theorem dX6_regular_4 : decode cX6_regular 4 = .ok (.iload_n 1, 1) := by decide +kernel
theorem dX6_regular_5 : decode cX6_regular 5 = .ok (.iconst 0, 1) := by decide +kernel
theorem dX6_regular_6 : decode cX6_regular 6 = .ok (.iconst 1, 1) := by decide +kernel
theorem dX6_regular_7 : decode cX6_regular 7 = .ok (.invokestatic 62, 3) := by decide +kernel
theorem dX6_regular_10 : decode cX6_regular 10 = .ok (.istore_n 2, 1) := by decide +kernel
theorem dX6_regular_11 : decode cX6_regular 11 = .ok (.iconst 1, 1) := by decide +kernel
theorem dX6_regular_12 : decode cX6_regular 12 = .ok (.istore_n 3, 1) := by decide +kernel
theorem dX6_regular_13 : decode cX6_regular 13 = .ok (.iconst 0, 1) := by decide +kernel
theorem dX6_regular_14 : decode cX6_regular 14 = .ok (.istore 4, 2) := by decide +kernel
theorem dX6_regular_16 : decode cX6_regular 16 = .ok (.iload 4, 2) := by decide +kernel
theorem dX6_regular_18 : decode cX6_regular 18 = .ok (.aload_n 0, 1) := by decide +kernel
theorem dX6_regular_19 : decode cX6_regular 19 = .ok (.invokevirtual 68, 3) := by decide +kernel
theorem dX6_regular_22 : decode cX6_regular 22 = .ok (.if_icmp .ge 56, 3) := by decide +kernel
theorem dX6_regular_25 : decode cX6_regular 25 = .ok (.iload 4, 2) := by decide +kernel
theorem dX6_regular_27 : decode cX6_regular 27 = .ok (.iconst 1, 1) := by decide +kernel
theorem dX6_regular_28 : decode cX6_regular 28 = .ok (.iadd, 1) := by decide +kernel
theorem dX6_regular_29 : decode cX6_regular 29 = .ok (.istore 5, 2) := by decide +kernel
theorem dX6_regular_31 : decode cX6_regular 31 = .ok (.iload 5, 2) := by decide +kernel
theorem dX6_regular_33 : decode cX6_regular 33 = .ok (.aload_n 0, 1) := by decide +kernel
theorem dX6_regular_34 : decode cX6_regular 34 = .ok (.invokevirtual 68, 3) := by decide +kernel
theorem dX6_regular_37 : decode cX6_regular 37 = .ok (.if_icmp .ge 35, 3) := by decide +kernel
theorem dX6_regular_40 : decode cX6_regular 40 = .ok (.iload_n 3, 1) := by decide +kernel
theorem dX6_regular_41 : decode cX6_regular 41 = .ok (.ifCond .eq 23, 3) := by decide +kernel
theorem dX6_regular_44 : decode cX6_regular 44 = .ok (.aload_n 0, 1) := by decide +kernel
theorem dX6_regular_45 : decode cX6_regular 45 = .ok (.invokevirtual 68, 3) := by decide +kernel
theorem dX6_regular_48 : decode cX6_regular 48 = .ok (.iload_n 1, 1) := by decide +kernel
theorem dX6_regular_49 : decode cX6_regular 49 = .ok (.iload 4, 2) := by decide +kernel
theorem dX6_regular_51 : decode cX6_regular 51 = .ok (.iload 5, 2) := by decide +kernel
theorem dX6_regular_53 : decode cX6_regular 53 = .ok (.invokestatic 62, 3) := by decide +kernel
theorem dX6_regular_56 : decode cX6_regular 56 = .ok (.iload_n 2, 1) := by decide +kernel
theorem dX6_regular_57 : decode cX6_regular 57 = .ok (.if_icmp .ne 7, 3) := by decide +kernel
theorem dX6_regular_60 : decode cX6_regular 60 = .ok (.iconst 1, 1) := by decide +kernel
theorem dX6_regular_61 : decode cX6_regular 61 = .ok (.goto 4, 3) := by decide +kernel
theorem dX6_regular_64 : decode cX6_regular 64 = .ok (.iconst 0, 1) := by decide +kernel
theorem dX6_regular_65 : decode cX6_regular 65 = .ok (.istore_n 3, 1) := by decide +kernel
theorem dX6_regular_66 : decode cX6_regular 66 = .ok (.iinc 5 1, 3) := by decide +kernel
theorem dX6_regular_69 : decode cX6_regular 69 = .ok (.goto (-38), 3) := by decide +kernel
theorem dX6_regular_72 : decode cX6_regular 72 = .ok (.iinc 4 1, 3) := by decide +kernel
theorem dX6_regular_75 : decode cX6_regular 75 = .ok (.goto (-59), 3) := by decide +kernel
theorem dX6_regular_78 : decode cX6_regular 78 = .ok (.iload_n 3, 1) := by decide +kernel
theorem dX6_regular_79 : decode cX6_regular 79 = .ok (.ifCond .eq 7, 3) := by decide +kernel
theorem dX6_regular_82 : decode cX6_regular 82 = .ok (.iload_n 2, 1) := by decide +kernel
theorem dX6_regular_83 : decode cX6_regular 83 = .ok (.goto 5, 3) := by decide +kernel
theorem dX6_regular_86 : decode cX6_regular 86 = .ok (.bipush (-6), 2) := by decide +kernel
theorem dX6_regular_88 : decode cX6_regular 88 = .ok (.ireturn, 1) := by decide +kernel
set_option maxRecDepth 20000 in
theorem ggX6_oddNodes_X6_many : GoodIn wsX6_oddNodes wsX6_many := goodIn_r _ [5, 6, 25, 26, 27, 28, 29, 30, 31, 32, 33, 34, 35, 36, 37] (by decide +kernel) (by decide +kernel)
set_option maxRecDepth 20000 in
theorem gX6_oddNodes_X6_many : GoodIn wsX6_oddNodes (wsV RX6 68 RX6 yX6_many wsX6_many) := goodIn_app (goodIn_of _ (by decide +kernel)) ggX6_oddNodes_X6_many
set_option maxRecDepth 20000 in
theorem ggX6_oddNodes_X6_degree : GoodIn wsX6_oddNodes wsX6_degree := goodIn_r _ [9, 10, 11, 4, 12, 13, 14, 15, 16, 17, 18, 19, 20, 21, 22, 23, 24] (by decide +kernel) (by decide +kernel)
set_option maxRecDepth 20000 in
theorem gX6_oddNodes_X6_degree : GoodIn wsX6_oddNodes (va_wsS RX6 116 yX6_degree wsX6_degree) := goodIn_app (goodIn_of _ (by decide +kernel)) ggX6_oddNodes_X6_degree
theorem dX6_oddNodes_0 : decode cX6_oddNodes 0 = .ok (.iconst 0, 1) := by decide +kernel
theorem dX6_oddNodes_1 : decode cX6_oddNodes 1 = .ok (.istore_n 2, 1) := by decide +kernel
theorem dX6_oddNodes_2 : decode cX6_oddNodes 2 = .ok (.iconst 0, 1) := by decide +kernel
theorem dX6_oddNodes_3 : decode cX6_oddNodes 3 = .ok (.istore_n 3, 1) := by decide +kernel
theorem dX6_oddNodes_4 : decode cX6_oddNodes 4 = .ok (.iload_n 3, 1) := by decide +kernel
theorem dX6_oddNodes_5 : decode cX6_oddNodes 5 = .ok (.aload_n 0, 1) := by decide +kernel
theorem dX6_oddNodes_6 : decode cX6_oddNodes 6 = .ok (.invokevirtual 68, 3) := by decide +kernel
theorem dX6_oddNodes_9 : decode cX6_oddNodes 9 = .ok (.if_icmp .ge 25, 3) := by decide +kernel
theorem dX6_oddNodes_12 : decode cX6_oddNodes 12 = .ok (.iload_n 2, 1) := by decide +kernel
theorem dX6_oddNodes_13 : decode cX6_oddNodes 13 = .ok (.aload_n 0, 1) := by decide +kernel
theorem dX6_oddNodes_14 : decode cX6_oddNodes 14 = .ok (.invokevirtual 68, 3) := by decide +kernel
theorem dX6_oddNodes_17 : decode cX6_oddNodes 17 = .ok (.iload_n 1, 1) := by decide +kernel
theorem dX6_oddNodes_18 : decode cX6_oddNodes 18 = .ok (.iload_n 3, 1) := by decide +kernel
theorem dX6_oddNodes_19 : decode cX6_oddNodes 19 = .ok (.invokestatic 116, 3) := by decide +kernel
theorem dX6_oddNodes_22 : decode cX6_oddNodes 22 = .ok (.iconst 2, 1) := by decide +kernel
theorem dX6_oddNodes_23 : decode cX6_oddNodes 23 = .ok (.irem, 1) := by decide +kernel
theorem dX6_oddNodes_24 : decode cX6_oddNodes 24 = .ok (.iload_n 3, 1) := by decide +kernel
theorem dX6_oddNodes_25 : decode cX6_oddNodes 25 = .ok (.ishl, 1) := by decide +kernel
theorem dX6_oddNodes_26 : decode cX6_oddNodes 26 = .ok (.ior, 1) := by decide +kernel
theorem dX6_oddNodes_27 : decode cX6_oddNodes 27 = .ok (.istore_n 2, 1) := by decide +kernel
theorem dX6_oddNodes_28 : decode cX6_oddNodes 28 = .ok (.iinc 3 1, 3) := by decide +kernel
theorem dX6_oddNodes_31 : decode cX6_oddNodes 31 = .ok (.goto (-27), 3) := by decide +kernel
theorem dX6_oddNodes_34 : decode cX6_oddNodes 34 = .ok (.iload_n 2, 1) := by decide +kernel
theorem dX6_oddNodes_35 : decode cX6_oddNodes 35 = .ok (.ireturn, 1) := by decide +kernel
set_option maxRecDepth 20000 in
theorem ggX6_of_X6_isSlot : GoodIn wsX6_of wsX6_isSlot := goodIn_r _ [4, 5, 6, 3, 7] (by decide +kernel) (by decide +kernel)
set_option maxRecDepth 20000 in
theorem gX6_of_X6_isSlot : GoodIn wsX6_of (va_wsS RX6 72 yX6_isSlot wsX6_isSlot) := goodIn_app (goodIn_of _ (by decide +kernel)) ggX6_of_X6_isSlot
set_option maxRecDepth 20000 in
theorem ggX6_of_X6_netOf : GoodIn wsX6_of wsX6_netOf := goodIn_r _ [11, 12, 55, 56, 57, 58, 59, 60, 61, 62, 63, 64, 65, 66, 67] (by decide +kernel) (by decide +kernel)
set_option maxRecDepth 20000 in
theorem gX6_of_X6_netOf : GoodIn wsX6_of (wsV RX6 79 RX6 yX6_netOf wsX6_netOf) := goodIn_app (goodIn_of _ (by decide +kernel)) ggX6_of_X6_netOf
set_option maxRecDepth 20000 in
theorem ggX6_of_X6_size : GoodIn wsX6_of wsX6_size := goodIn_r _ [15] (by decide +kernel) (by decide +kernel)
set_option maxRecDepth 20000 in
theorem gX6_of_X6_size : GoodIn wsX6_of (va_wsS RX6 52 yX6_size wsX6_size) := goodIn_app (goodIn_of _ (by decide +kernel)) ggX6_of_X6_size
set_option maxRecDepth 20000 in
theorem ggX6_of_X6_many : GoodIn wsX6_of wsX6_many := goodIn_r _ [19, 12, 55, 56, 57, 58, 59, 60, 61, 62, 63, 64, 65, 66, 67] (by decide +kernel) (by decide +kernel)
set_option maxRecDepth 20000 in
theorem gX6_of_X6_many : GoodIn wsX6_of (wsV RX6 68 RX6 yX6_many wsX6_many) := goodIn_app (goodIn_of _ (by decide +kernel)) ggX6_of_X6_many
set_option maxRecDepth 20000 in
theorem ggX6_of_X6_oddOfNet : GoodIn wsX6_of wsX6_oddOfNet := goodIn_r _ [22, 23, 24, 3, 25, 26, 27, 28, 29, 30, 31, 32, 33, 34, 35, 36, 37, 38, 39, 40] (by decide +kernel) (by decide +kernel)
set_option maxRecDepth 20000 in
theorem gX6_of_X6_oddOfNet : GoodIn wsX6_of (va_wsS RX6 119 yX6_oddOfNet wsX6_oddOfNet) := goodIn_app (goodIn_of _ (by decide +kernel)) ggX6_of_X6_oddOfNet
set_option maxRecDepth 20000 in
theorem ggX6_of_X6_regular : GoodIn wsX6_of wsX6_regular := goodIn_r _ [44, 16, 17, 18, 3, 19, 12, 26, 27, 28, 29, 30, 31, 32, 33, 34, 35, 36, 37, 38, 39, 40, 55, 56, 57, 58, 59, 60, 61, 62, 63, 64, 65, 66, 67] (by decide +kernel) (by decide +kernel)
set_option maxRecDepth 20000 in
theorem gX6_of_X6_regular : GoodIn wsX6_of (wsV RX6 122 RX6 yX6_regular wsX6_regular) := goodIn_app (goodIn_of _ (by decide +kernel)) ggX6_of_X6_regular
set_option maxRecDepth 20000 in
theorem ggX6_of_X6_oddNodes : GoodIn wsX6_of wsX6_oddNodes := goodIn_r _ [48, 16, 17, 18, 3, 19, 12, 49, 50, 51, 52, 53, 54, 32, 33, 34, 35, 36, 37, 38, 39, 40, 13, 14, 15, 55, 56, 57, 58, 59, 60, 61, 62, 63, 64, 65, 66, 67] (by decide +kernel) (by decide +kernel)
set_option maxRecDepth 20000 in
theorem gX6_of_X6_oddNodes : GoodIn wsX6_of (wsV RX6 125 RX6 yX6_oddNodes wsX6_oddNodes) := goodIn_app (goodIn_of _ (by decide +kernel)) ggX6_of_X6_oddNodes
theorem dX6_of_0 : decode cX6_of 0 = .ok (.iload_n 1, 1) := by decide +kernel
theorem dX6_of_1 : decode cX6_of 1 = .ok (.invokestatic 72, 3) := by decide +kernel
theorem dX6_of_4 : decode cX6_of 4 = .ok (.ifCond .ne 5, 3) := by decide +kernel
theorem dX6_of_7 : decode cX6_of 7 = .ok (.iconst (-1), 1) := by decide +kernel
theorem dX6_of_8 : decode cX6_of 8 = .ok (.ireturn, 1) := by decide +kernel
theorem dX6_of_9 : decode cX6_of 9 = .ok (.aload_n 0, 1) := by decide +kernel
theorem dX6_of_10 : decode cX6_of 10 = .ok (.iload_n 1, 1) := by decide +kernel
theorem dX6_of_11 : decode cX6_of 11 = .ok (.invokevirtual 79, 3) := by decide +kernel
theorem dX6_of_14 : decode cX6_of 14 = .ok (.istore_n 3, 1) := by decide +kernel
theorem dX6_of_15 : decode cX6_of 15 = .ok (.iload_n 2, 1) := by decide +kernel
theorem dX6_of_16 : decode cX6_of 16 = .ok (.tableswitch 64 0 4 #[36, 38, 43, 52, 58], 36) := by decide +kernel
theorem dX6_of_52 : decode cX6_of 52 = .ok (.iload_n 3, 1) := by decide +kernel
theorem dX6_of_53 : decode cX6_of 53 = .ok (.ireturn, 1) := by decide +kernel
theorem dX6_of_54 : decode cX6_of 54 = .ok (.iload_n 3, 1) := by decide +kernel
theorem dX6_of_55 : decode cX6_of 55 = .ok (.invokestatic 52, 3) := by decide +kernel
theorem dX6_of_58 : decode cX6_of 58 = .ok (.ireturn, 1) := by decide +kernel
theorem dX6_of_59 : decode cX6_of 59 = .ok (.aload_n 0, 1) := by decide +kernel
theorem dX6_of_60 : decode cX6_of 60 = .ok (.invokevirtual 68, 3) := by decide +kernel
theorem dX6_of_63 : decode cX6_of 63 = .ok (.iload_n 3, 1) := by decide +kernel
theorem dX6_of_64 : decode cX6_of 64 = .ok (.invokestatic 119, 3) := by decide +kernel
theorem dX6_of_67 : decode cX6_of 67 = .ok (.ireturn, 1) := by decide +kernel
theorem dX6_of_68 : decode cX6_of 68 = .ok (.aload_n 0, 1) := by decide +kernel
theorem dX6_of_69 : decode cX6_of 69 = .ok (.iload_n 3, 1) := by decide +kernel
theorem dX6_of_70 : decode cX6_of 70 = .ok (.invokevirtual 122, 3) := by decide +kernel
theorem dX6_of_73 : decode cX6_of 73 = .ok (.ireturn, 1) := by decide +kernel
theorem dX6_of_74 : decode cX6_of 74 = .ok (.aload_n 0, 1) := by decide +kernel
theorem dX6_of_75 : decode cX6_of 75 = .ok (.iload_n 3, 1) := by decide +kernel
theorem dX6_of_76 : decode cX6_of 76 = .ok (.invokevirtual 125, 3) := by decide +kernel
theorem dX6_of_79 : decode cX6_of 79 = .ok (.ireturn, 1) := by decide +kernel
theorem dX6_of_80 : decode cX6_of 80 = .ok (.bipush (-2), 2) := by decide +kernel
theorem dX6_of_82 : decode cX6_of 82 = .ok (.ireturn, 1) := by decide +kernel
set_option maxRecDepth 20000 in
theorem ggX6_node_X6_isSlot : GoodIn wsX6_node wsX6_isSlot := goodIn_r _ [4, 5, 6, 3, 7] (by decide +kernel) (by decide +kernel)
set_option maxRecDepth 20000 in
theorem gX6_node_X6_isSlot : GoodIn wsX6_node (va_wsS RX6 72 yX6_isSlot wsX6_isSlot) := goodIn_app (goodIn_of _ (by decide +kernel)) ggX6_node_X6_isSlot
set_option maxRecDepth 20000 in
theorem ggX6_node_X6_isNode : GoodIn wsX6_node wsX6_isNode := goodIn_r _ [11, 12, 5, 6, 3, 7, 57, 58, 59, 60, 61, 62, 63, 64, 65, 66, 67, 68, 69] (by decide +kernel) (by decide +kernel)
set_option maxRecDepth 20000 in
theorem gX6_node_X6_isNode : GoodIn wsX6_node (wsV RX6 76 RX6 yX6_isNode wsX6_isNode) := goodIn_app (goodIn_of _ (by decide +kernel)) ggX6_node_X6_isNode
set_option maxRecDepth 20000 in
theorem ggX6_node_X6_netOf : GoodIn wsX6_node wsX6_netOf := goodIn_r _ [16, 12, 57, 58, 59, 60, 61, 62, 63, 64, 65, 66, 67, 68, 69] (by decide +kernel) (by decide +kernel)
set_option maxRecDepth 20000 in
theorem gX6_node_X6_netOf : GoodIn wsX6_node (wsV RX6 79 RX6 yX6_netOf wsX6_netOf) := goodIn_app (goodIn_of _ (by decide +kernel)) ggX6_node_X6_netOf
set_option maxRecDepth 20000 in
theorem ggX6_node_X6_many : GoodIn wsX6_node wsX6_many := goodIn_r _ [20, 12, 57, 58, 59, 60, 61, 62, 63, 64, 65, 66, 67, 68, 69] (by decide +kernel) (by decide +kernel)
set_option maxRecDepth 20000 in
theorem gX6_node_X6_many : GoodIn wsX6_node (wsV RX6 68 RX6 yX6_many wsX6_many) := goodIn_app (goodIn_of _ (by decide +kernel)) ggX6_node_X6_many
set_option maxRecDepth 20000 in
theorem ggX6_node_X6_degree : GoodIn wsX6_node wsX6_degree := goodIn_r _ [23, 24, 25, 3, 26, 27, 28, 29, 30, 31, 32, 33, 34, 35, 36, 37, 38] (by decide +kernel) (by decide +kernel)
set_option maxRecDepth 20000 in
theorem gX6_node_X6_degree : GoodIn wsX6_node (va_wsS RX6 116 yX6_degree wsX6_degree) := goodIn_app (goodIn_of _ (by decide +kernel)) ggX6_node_X6_degree
set_option maxRecDepth 20000 in
theorem ggX6_node_X6_oddOfNode : GoodIn wsX6_node wsX6_oddOfNode := goodIn_r _ [41, 42, 43, 3, 44, 45, 46, 47, 27, 28, 29, 30, 31, 32, 33, 34, 35] (by decide +kernel) (by decide +kernel)
set_option maxRecDepth 20000 in
theorem gX6_node_X6_oddOfNode : GoodIn wsX6_node (va_wsS RX6 65 yX6_oddOfNode wsX6_oddOfNode) := goodIn_app (goodIn_of _ (by decide +kernel)) ggX6_node_X6_oddOfNode
set_option maxRecDepth 20000 in
theorem ggX6_node_X6_alone : GoodIn wsX6_node wsX6_alone := goodIn_r _ [50, 24, 25, 3, 26, 27, 28, 29, 30, 31, 32, 33, 34, 35, 51, 52, 53] (by decide +kernel) (by decide +kernel)
set_option maxRecDepth 20000 in
theorem gX6_node_X6_alone : GoodIn wsX6_node (va_wsS RX6 128 yX6_alone wsX6_alone) := goodIn_app (goodIn_of _ (by decide +kernel)) ggX6_node_X6_alone
set_option maxRecDepth 20000 in
theorem ggX6_node_X6_without : GoodIn wsX6_node wsX6_without := goodIn_r _ [56, 27, 28, 3, 29, 30, 31, 32, 33, 34, 35] (by decide +kernel) (by decide +kernel)
set_option maxRecDepth 20000 in
theorem gX6_node_X6_without : GoodIn wsX6_node (va_wsS RX6 131 yX6_without wsX6_without) := goodIn_app (goodIn_of _ (by decide +kernel)) ggX6_node_X6_without
theorem dX6_node_0 : decode cX6_node 0 = .ok (.iload_n 1, 1) := by decide +kernel
theorem dX6_node_1 : decode cX6_node 1 = .ok (.invokestatic 72, 3) := by decide +kernel
theorem dX6_node_4 : decode cX6_node 4 = .ok (.ifCond .eq 11, 3) := by decide +kernel
theorem dX6_node_7 : decode cX6_node 7 = .ok (.aload_n 0, 1) := by decide +kernel
theorem dX6_node_8 : decode cX6_node 8 = .ok (.iload_n 2, 1) := by decide +kernel
theorem dX6_node_9 : decode cX6_node 9 = .ok (.invokevirtual 76, 3) := by decide +kernel
theorem dX6_node_12 : decode cX6_node 12 = .ok (.ifCond .ne 5, 3) := by decide +kernel
theorem dX6_node_15 : decode cX6_node 15 = .ok (.iconst (-1), 1) := by decide +kernel
theorem dX6_node_16 : decode cX6_node 16 = .ok (.ireturn, 1) := by decide +kernel
theorem dX6_node_17 : decode cX6_node 17 = .ok (.aload_n 0, 1) := by decide +kernel
theorem dX6_node_18 : decode cX6_node 18 = .ok (.iload_n 1, 1) := by decide +kernel
theorem dX6_node_19 : decode cX6_node 19 = .ok (.invokevirtual 79, 3) := by decide +kernel
theorem dX6_node_22 : decode cX6_node 22 = .ok (.istore 4, 2) := by decide +kernel
theorem dX6_node_24 : decode cX6_node 24 = .ok (.iload_n 3, 1) := by decide +kernel
theorem dX6_node_25 : decode cX6_node 25 = .ok (.tableswitch 83 0 3 #[31, 42, 53, 64], 31) := by decide +kernel
theorem dX6_node_56 : decode cX6_node 56 = .ok (.aload_n 0, 1) := by decide +kernel
theorem dX6_node_57 : decode cX6_node 57 = .ok (.invokevirtual 68, 3) := by decide +kernel
theorem dX6_node_60 : decode cX6_node 60 = .ok (.iload 4, 2) := by decide +kernel
theorem dX6_node_62 : decode cX6_node 62 = .ok (.iload_n 2, 1) := by decide +kernel
theorem dX6_node_63 : decode cX6_node 63 = .ok (.invokestatic 116, 3) := by decide +kernel
theorem dX6_node_66 : decode cX6_node 66 = .ok (.ireturn, 1) := by decide +kernel
theorem dX6_node_67 : decode cX6_node 67 = .ok (.aload_n 0, 1) := by decide +kernel
theorem dX6_node_68 : decode cX6_node 68 = .ok (.invokevirtual 68, 3) := by decide +kernel
theorem dX6_node_71 : decode cX6_node 71 = .ok (.iload 4, 2) := by decide +kernel
theorem dX6_node_73 : decode cX6_node 73 = .ok (.iload_n 2, 1) := by decide +kernel
theorem dX6_node_74 : decode cX6_node 74 = .ok (.invokestatic 65, 3) := by decide +kernel
theorem dX6_node_77 : decode cX6_node 77 = .ok (.ireturn, 1) := by decide +kernel
theorem dX6_node_78 : decode cX6_node 78 = .ok (.aload_n 0, 1) := by decide +kernel
theorem dX6_node_79 : decode cX6_node 79 = .ok (.invokevirtual 68, 3) := by decide +kernel
theorem dX6_node_82 : decode cX6_node 82 = .ok (.iload 4, 2) := by decide +kernel
theorem dX6_node_84 : decode cX6_node 84 = .ok (.iload_n 2, 1) := by decide +kernel
theorem dX6_node_85 : decode cX6_node 85 = .ok (.invokestatic 128, 3) := by decide +kernel
theorem dX6_node_88 : decode cX6_node 88 = .ok (.ireturn, 1) := by decide +kernel
theorem dX6_node_89 : decode cX6_node 89 = .ok (.aload_n 0, 1) := by decide +kernel
theorem dX6_node_90 : decode cX6_node 90 = .ok (.invokevirtual 68, 3) := by decide +kernel
theorem dX6_node_93 : decode cX6_node 93 = .ok (.aload_n 0, 1) := by decide +kernel
theorem dX6_node_94 : decode cX6_node 94 = .ok (.invokevirtual 68, 3) := by decide +kernel
theorem dX6_node_97 : decode cX6_node 97 = .ok (.iload 4, 2) := by decide +kernel
theorem dX6_node_99 : decode cX6_node 99 = .ok (.iload_n 2, 1) := by decide +kernel
theorem dX6_node_100 : decode cX6_node 100 = .ok (.invokestatic 128, 3) := by decide +kernel
theorem dX6_node_103 : decode cX6_node 103 = .ok (.iload_n 2, 1) := by decide +kernel
theorem dX6_node_104 : decode cX6_node 104 = .ok (.invokestatic 131, 3) := by decide +kernel
theorem dX6_node_107 : decode cX6_node 107 = .ok (.ireturn, 1) := by decide +kernel
theorem dX6_node_108 : decode cX6_node 108 = .ok (.bipush (-2), 2) := by decide +kernel
theorem dX6_node_110 : decode cX6_node 110 = .ok (.ireturn, 1) := by decide +kernel
set_option maxRecDepth 20000 in
theorem ggX6_common_X6_neighbours : GoodIn wsX6_common wsX6_neighbours := goodIn_r _ [4, 5, 6, 3, 7, 8, 9, 10, 11, 12, 13] (by decide +kernel) (by decide +kernel)
set_option maxRecDepth 20000 in
theorem gX6_common_X6_neighbours : GoodIn wsX6_common (va_wsS RX6 49 yX6_neighbours wsX6_neighbours) := goodIn_app (goodIn_of _ (by decide +kernel)) ggX6_common_X6_neighbours
set_option maxRecDepth 20000 in
theorem ggX6_common_X6_size : GoodIn wsX6_common wsX6_size := goodIn_r _ [16] (by decide +kernel) (by decide +kernel)
set_option maxRecDepth 20000 in
theorem gX6_common_X6_size : GoodIn wsX6_common (va_wsS RX6 52 yX6_size wsX6_size) := goodIn_app (goodIn_of _ (by decide +kernel)) ggX6_common_X6_size
theorem dX6_common_0 : decode cX6_common 0 = .ok (.iload_n 0, 1) := by decide +kernel
theorem dX6_common_1 : decode cX6_common 1 = .ok (.iload_n 1, 1) := by decide +kernel
theorem dX6_common_2 : decode cX6_common 2 = .ok (.iload_n 2, 1) := by decide +kernel
theorem dX6_common_3 : decode cX6_common 3 = .ok (.invokestatic 49, 3) := by decide +kernel
theorem dX6_common_6 : decode cX6_common 6 = .ok (.iload_n 0, 1) := by decide +kernel
theorem dX6_common_7 : decode cX6_common 7 = .ok (.iload_n 1, 1) := by decide +kernel
theorem dX6_common_8 : decode cX6_common 8 = .ok (.iload_n 3, 1) := by decide +kernel
theorem dX6_common_9 : decode cX6_common 9 = .ok (.invokestatic 49, 3) := by decide +kernel
theorem dX6_common_12 : decode cX6_common 12 = .ok (.iand, 1) := by decide +kernel
theorem dX6_common_13 : decode cX6_common 13 = .ok (.invokestatic 52, 3) := by decide +kernel
theorem dX6_common_16 : decode cX6_common 16 = .ok (.ireturn, 1) := by decide +kernel
set_option maxRecDepth 20000 in
theorem ggX6_pair_X6_isSlot : GoodIn wsX6_pair wsX6_isSlot := goodIn_r _ [4, 5, 6, 3, 7] (by decide +kernel) (by decide +kernel)
set_option maxRecDepth 20000 in
theorem gX6_pair_X6_isSlot : GoodIn wsX6_pair (va_wsS RX6 72 yX6_isSlot wsX6_isSlot) := goodIn_app (goodIn_of _ (by decide +kernel)) ggX6_pair_X6_isSlot
set_option maxRecDepth 20000 in
theorem ggX6_pair_X6_isNode : GoodIn wsX6_pair wsX6_isNode := goodIn_r _ [11, 12, 5, 6, 3, 7, 45, 46, 47, 48, 49, 50, 51, 52, 53, 54, 55, 56, 57] (by decide +kernel) (by decide +kernel)
set_option maxRecDepth 20000 in
theorem gX6_pair_X6_isNode : GoodIn wsX6_pair (wsV RX6 76 RX6 yX6_isNode wsX6_isNode) := goodIn_app (goodIn_of _ (by decide +kernel)) ggX6_pair_X6_isNode
set_option maxRecDepth 20000 in
theorem ggX6_pair_X6_in : GoodIn wsX6_pair wsX6_in := goodIn_r _ [7] (by decide +kernel) (by decide +kernel)
set_option maxRecDepth 20000 in
theorem gX6_pair_X6_in : GoodIn wsX6_pair (va_wsS RX6 33 yX6_in wsX6_in) := goodIn_app (goodIn_of _ (by decide +kernel)) ggX6_pair_X6_in
set_option maxRecDepth 20000 in
theorem ggX6_pair_X6_netOf : GoodIn wsX6_pair wsX6_netOf := goodIn_r _ [16, 12, 45, 46, 47, 48, 49, 50, 51, 52, 53, 54, 55, 56, 57] (by decide +kernel) (by decide +kernel)
set_option maxRecDepth 20000 in
theorem gX6_pair_X6_netOf : GoodIn wsX6_pair (wsV RX6 79 RX6 yX6_netOf wsX6_netOf) := goodIn_app (goodIn_of _ (by decide +kernel)) ggX6_pair_X6_netOf
set_option maxRecDepth 20000 in
theorem ggX6_pair_X6_many : GoodIn wsX6_pair wsX6_many := goodIn_r _ [20, 12, 45, 46, 47, 48, 49, 50, 51, 52, 53, 54, 55, 56, 57] (by decide +kernel) (by decide +kernel)
set_option maxRecDepth 20000 in
theorem gX6_pair_X6_many : GoodIn wsX6_pair (wsV RX6 68 RX6 yX6_many wsX6_many) := goodIn_app (goodIn_of _ (by decide +kernel)) ggX6_pair_X6_many
set_option maxRecDepth 20000 in
theorem ggX6_pair_X6_joined : GoodIn wsX6_pair wsX6_joined := goodIn_r _ [23, 24, 25, 3, 26, 27, 28, 29] (by decide +kernel) (by decide +kernel)
set_option maxRecDepth 20000 in
theorem gX6_pair_X6_joined : GoodIn wsX6_pair (va_wsS RX6 45 yX6_joined wsX6_joined) := goodIn_app (goodIn_of _ (by decide +kernel)) ggX6_pair_X6_joined
set_option maxRecDepth 20000 in
theorem ggX6_pair_X6_oddOfPair : GoodIn wsX6_pair wsX6_oddOfPair := goodIn_r _ [32, 33, 34, 3, 35, 21, 22, 23, 24, 25, 26, 27, 28, 29] (by decide +kernel) (by decide +kernel)
set_option maxRecDepth 20000 in
theorem gX6_pair_X6_oddOfPair : GoodIn wsX6_pair (va_wsS RX6 62 yX6_oddOfPair wsX6_oddOfPair) := goodIn_app (goodIn_of _ (by decide +kernel)) ggX6_pair_X6_oddOfPair
set_option maxRecDepth 20000 in
theorem ggX6_pair_X6_common : GoodIn wsX6_pair wsX6_common := goodIn_r _ [38, 39, 40, 3, 41, 21, 22, 23, 24, 25, 26, 27, 28, 29, 42, 43, 44] (by decide +kernel) (by decide +kernel)
set_option maxRecDepth 20000 in
theorem gX6_pair_X6_common : GoodIn wsX6_pair (va_wsS RX6 134 yX6_common wsX6_common) := goodIn_app (goodIn_of _ (by decide +kernel)) ggX6_pair_X6_common
theorem dX6_pair_0 : decode cX6_pair 0 = .ok (.iload_n 1, 1) := by decide +kernel
theorem dX6_pair_1 : decode cX6_pair 1 = .ok (.invokestatic 72, 3) := by decide +kernel
theorem dX6_pair_4 : decode cX6_pair 4 = .ok (.ifCond .eq 19, 3) := by decide +kernel
theorem dX6_pair_7 : decode cX6_pair 7 = .ok (.aload_n 0, 1) := by decide +kernel
theorem dX6_pair_8 : decode cX6_pair 8 = .ok (.iload_n 2, 1) := by decide +kernel
theorem dX6_pair_9 : decode cX6_pair 9 = .ok (.invokevirtual 76, 3) := by decide +kernel
theorem dX6_pair_12 : decode cX6_pair 12 = .ok (.ifCond .eq 11, 3) := by decide +kernel
theorem dX6_pair_15 : decode cX6_pair 15 = .ok (.aload_n 0, 1) := by decide +kernel
theorem dX6_pair_16 : decode cX6_pair 16 = .ok (.iload_n 3, 1) := by decide +kernel
theorem dX6_pair_17 : decode cX6_pair 17 = .ok (.invokevirtual 76, 3) := by decide +kernel
theorem dX6_pair_20 : decode cX6_pair 20 = .ok (.ifCond .ne 5, 3) := by decide +kernel
theorem dX6_pair_23 : decode cX6_pair 23 = .ok (.iconst (-1), 1) := by decide +kernel
theorem dX6_pair_24 : decode cX6_pair 24 = .ok (.ireturn, 1) := by decide +kernel
theorem dX6_pair_25 : decode cX6_pair 25 = .ok (.iload_n 2, 1) := by decide +kernel
theorem dX6_pair_26 : decode cX6_pair 26 = .ok (.iload_n 3, 1) := by decide +kernel
theorem dX6_pair_27 : decode cX6_pair 27 = .ok (.if_icmp .eq 13, 3) := by decide +kernel
theorem dX6_pair_30 : decode cX6_pair 30 = .ok (.iload 4, 2) := by decide +kernel
theorem dX6_pair_32 : decode cX6_pair 32 = .ok (.iconst 0, 1) := by decide +kernel
theorem dX6_pair_33 : decode cX6_pair 33 = .ok (.iconst 2, 1) := by decide +kernel
theorem dX6_pair_34 : decode cX6_pair 34 = .ok (.invokestatic 33, 3) := by decide +kernel
theorem dX6_pair_37 : decode cX6_pair 37 = .ok (.ifCond .ne 6, 3) := by decide +kernel
theorem dX6_pair_40 : decode cX6_pair 40 = .ok (.bipush (-2), 2) := by decide +kernel
theorem dX6_pair_42 : decode cX6_pair 42 = .ok (.ireturn, 1) := by decide +kernel
theorem dX6_pair_43 : decode cX6_pair 43 = .ok (.aload_n 0, 1) := by decide +kernel
theorem dX6_pair_44 : decode cX6_pair 44 = .ok (.iload_n 1, 1) := by decide +kernel
theorem dX6_pair_45 : decode cX6_pair 45 = .ok (.invokevirtual 79, 3) := by decide +kernel
theorem dX6_pair_48 : decode cX6_pair 48 = .ok (.istore 5, 2) := by decide +kernel
theorem dX6_pair_50 : decode cX6_pair 50 = .ok (.iload 4, 2) := by decide +kernel
theorem dX6_pair_52 : decode cX6_pair 52 = .ok (.ifCond .ne 17, 3) := by decide +kernel
theorem dX6_pair_55 : decode cX6_pair 55 = .ok (.aload_n 0, 1) := by decide +kernel
theorem dX6_pair_56 : decode cX6_pair 56 = .ok (.invokevirtual 68, 3) := by decide +kernel
theorem dX6_pair_59 : decode cX6_pair 59 = .ok (.iload 5, 2) := by decide +kernel
theorem dX6_pair_61 : decode cX6_pair 61 = .ok (.iload_n 2, 1) := by decide +kernel
theorem dX6_pair_62 : decode cX6_pair 62 = .ok (.iload_n 3, 1) := by decide +kernel
theorem dX6_pair_63 : decode cX6_pair 63 = .ok (.invokestatic 45, 3) := by decide +kernel
theorem dX6_pair_66 : decode cX6_pair 66 = .ok (.goto 34, 3) := by decide +kernel
theorem dX6_pair_69 : decode cX6_pair 69 = .ok (.iload 4, 2) := by decide +kernel
theorem dX6_pair_71 : decode cX6_pair 71 = .ok (.iconst 1, 1) := by decide +kernel
theorem dX6_pair_72 : decode cX6_pair 72 = .ok (.if_icmp .ne 17, 3) := by decide +kernel
theorem dX6_pair_75 : decode cX6_pair 75 = .ok (.aload_n 0, 1) := by decide +kernel
theorem dX6_pair_76 : decode cX6_pair 76 = .ok (.invokevirtual 68, 3) := by decide +kernel
theorem dX6_pair_79 : decode cX6_pair 79 = .ok (.iload 5, 2) := by decide +kernel
theorem dX6_pair_81 : decode cX6_pair 81 = .ok (.iload_n 2, 1) := by decide +kernel
theorem dX6_pair_82 : decode cX6_pair 82 = .ok (.iload_n 3, 1) := by decide +kernel
theorem dX6_pair_83 : decode cX6_pair 83 = .ok (.invokestatic 62, 3) := by decide +kernel
theorem dX6_pair_86 : decode cX6_pair 86 = .ok (.goto 14, 3) := by decide +kernel
theorem dX6_pair_89 : decode cX6_pair 89 = .ok (.aload_n 0, 1) := by decide +kernel
theorem dX6_pair_90 : decode cX6_pair 90 = .ok (.invokevirtual 68, 3) := by decide +kernel
theorem dX6_pair_93 : decode cX6_pair 93 = .ok (.iload 5, 2) := by decide +kernel
theorem dX6_pair_95 : decode cX6_pair 95 = .ok (.iload_n 2, 1) := by decide +kernel
theorem dX6_pair_96 : decode cX6_pair 96 = .ok (.iload_n 3, 1) := by decide +kernel
theorem dX6_pair_97 : decode cX6_pair 97 = .ok (.invokestatic 134, 3) := by decide +kernel
theorem dX6_pair_100 : decode cX6_pair 100 = .ok (.ireturn, 1) := by decide +kernel
set_option maxRecDepth 20000 in
theorem ggX6_fewest_X6_isSlot : GoodIn wsX6_fewest wsX6_isSlot := goodIn_r _ [7, 8, 9, 6, 10] (by decide +kernel) (by decide +kernel)
set_option maxRecDepth 20000 in
theorem gX6_fewest_X6_isSlot : GoodIn wsX6_fewest (va_wsS RX6 72 yX6_isSlot wsX6_isSlot) := goodIn_app (goodIn_of _ (by decide +kernel)) ggX6_fewest_X6_isSlot
set_option maxRecDepth 20000 in
theorem ggX6_fewest_X6_in : GoodIn wsX6_fewest wsX6_in := goodIn_r _ [10] (by decide +kernel) (by decide +kernel)
set_option maxRecDepth 20000 in
theorem gX6_fewest_X6_in : GoodIn wsX6_fewest (va_wsS RX6 33 yX6_in wsX6_in) := goodIn_app (goodIn_of _ (by decide +kernel)) ggX6_fewest_X6_in
set_option maxRecDepth 20000 in
theorem ggX6_fewest_X6_many : GoodIn wsX6_fewest wsX6_many := goodIn_r _ [14, 15, 32, 33, 34, 35, 36, 37, 38, 39, 40, 41, 42, 43, 44] (by decide +kernel) (by decide +kernel)
set_option maxRecDepth 20000 in
theorem gX6_fewest_X6_many : GoodIn wsX6_fewest (wsV RX6 68 RX6 yX6_many wsX6_many) := goodIn_app (goodIn_of _ (by decide +kernel)) ggX6_fewest_X6_many
set_option maxRecDepth 20000 in
theorem ggX6_fewest_X6_netOf : GoodIn wsX6_fewest wsX6_netOf := goodIn_r _ [19, 15, 32, 33, 34, 35, 36, 37, 38, 39, 40, 41, 42, 43, 44] (by decide +kernel) (by decide +kernel)
set_option maxRecDepth 20000 in
theorem gX6_fewest_X6_netOf : GoodIn wsX6_fewest (wsV RX6 79 RX6 yX6_netOf wsX6_netOf) := goodIn_app (goodIn_of _ (by decide +kernel)) ggX6_fewest_X6_netOf
set_option maxRecDepth 20000 in
theorem ggX6_fewest_X6_switched : GoodIn wsX6_fewest wsX6_switched := goodIn_r _ [22, 23, 24, 6, 25, 26, 27, 28] (by decide +kernel) (by decide +kernel)
set_option maxRecDepth 20000 in
theorem gX6_fewest_X6_switched : GoodIn wsX6_fewest (va_wsS RX6 55 yX6_switched wsX6_switched) := goodIn_app (goodIn_of _ (by decide +kernel)) ggX6_fewest_X6_switched
set_option maxRecDepth 20000 in
theorem ggX6_fewest_X6_size : GoodIn wsX6_fewest wsX6_size := goodIn_r _ [31] (by decide +kernel) (by decide +kernel)
set_option maxRecDepth 20000 in
theorem gX6_fewest_X6_size : GoodIn wsX6_fewest (va_wsS RX6 52 yX6_size wsX6_size) := goodIn_app (goodIn_of _ (by decide +kernel)) ggX6_fewest_X6_size
theorem dX6_fewest_0 : decode cX6_fewest 0 = .ok (.iload_n 1, 1) := by decide +kernel
theorem dX6_fewest_1 : decode cX6_fewest 1 = .ok (.invokestatic 72, 3) := by decide +kernel
theorem dX6_fewest_4 : decode cX6_fewest 4 = .ok (.ifCond .ne 5, 3) := by decide +kernel
theorem dX6_fewest_7 : decode cX6_fewest 7 = .ok (.iconst (-1), 1) := by decide +kernel
theorem dX6_fewest_8 : decode cX6_fewest 8 = .ok (.ireturn, 1) := by decide +kernel
theorem dX6_fewest_9 : decode cX6_fewest 9 = .ok (.iload_n 2, 1) := by decide +kernel
theorem dX6_fewest_10 : decode cX6_fewest 10 = .ok (.iconst 0, 1) := by decide +kernel
theorem dX6_fewest_11 : decode cX6_fewest 11 = .ok (.iconst 2, 1) := by decide +kernel
theorem dX6_fewest_12 : decode cX6_fewest 12 = .ok (.invokestatic 33, 3) := by decide +kernel
theorem dX6_fewest_15 : decode cX6_fewest 15 = .ok (.ifCond .ne 6, 3) := by decide +kernel
theorem dX6_fewest_18 : decode cX6_fewest 18 = .ok (.bipush (-2), 2) := by decide +kernel
theorem dX6_fewest_20 : decode cX6_fewest 20 = .ok (.ireturn, 1) := by decide +kernel
theorem dX6_fewest_21 : decode cX6_fewest 21 = .ok (.aload_n 0, 1) := by decide +kernel
theorem dX6_fewest_22 : decode cX6_fewest 22 = .ok (.bipush 99, 2) := by decide +kernel
theorem dX6_fewest_24 : decode cX6_fewest 24 = .ok (.putfield 137, 3) := by decide +kernel
theorem dX6_fewest_27 : decode cX6_fewest 27 = .ok (.iconst 0, 1) := by decide +kernel
theorem dX6_fewest_28 : decode cX6_fewest 28 = .ok (.istore_n 3, 1) := by decide +kernel
theorem dX6_fewest_29 : decode cX6_fewest 29 = .ok (.iload_n 3, 1) := by decide +kernel
theorem dX6_fewest_30 : decode cX6_fewest 30 = .ok (.iconst 1, 1) := by decide +kernel
theorem dX6_fewest_31 : decode cX6_fewest 31 = .ok (.aload_n 0, 1) := by decide +kernel
theorem dX6_fewest_32 : decode cX6_fewest 32 = .ok (.invokevirtual 68, 3) := by decide +kernel
theorem dX6_fewest_35 : decode cX6_fewest 35 = .ok (.ishl, 1) := by decide +kernel
theorem dX6_fewest_36 : decode cX6_fewest 36 = .ok (.if_icmp .ge 75, 3) := by decide +kernel
theorem dX6_fewest_39 : decode cX6_fewest 39 = .ok (.aload_n 0, 1) := by decide +kernel
theorem dX6_fewest_40 : decode cX6_fewest 40 = .ok (.invokevirtual 68, 3) := by decide +kernel
theorem dX6_fewest_43 : decode cX6_fewest 43 = .ok (.aload_n 0, 1) := by decide +kernel
theorem dX6_fewest_44 : decode cX6_fewest 44 = .ok (.iload_n 1, 1) := by decide +kernel
theorem dX6_fewest_45 : decode cX6_fewest 45 = .ok (.invokevirtual 79, 3) := by decide +kernel
theorem dX6_fewest_48 : decode cX6_fewest 48 = .ok (.iload_n 3, 1) := by decide +kernel
theorem dX6_fewest_49 : decode cX6_fewest 49 = .ok (.invokestatic 55, 3) := by decide +kernel
theorem dX6_fewest_52 : decode cX6_fewest 52 = .ok (.invokestatic 52, 3) := by decide +kernel
theorem dX6_fewest_55 : decode cX6_fewest 55 = .ok (.istore 4, 2) := by decide +kernel
theorem dX6_fewest_57 : decode cX6_fewest 57 = .ok (.iload 4, 2) := by decide +kernel
theorem dX6_fewest_59 : decode cX6_fewest 59 = .ok (.aload_n 0, 1) := by decide +kernel
theorem dX6_fewest_60 : decode cX6_fewest 60 = .ok (.getfield 137, 3) := by decide +kernel
theorem dX6_fewest_63 : decode cX6_fewest 63 = .ok (.if_icmp .ge 19, 3) := by decide +kernel
theorem dX6_fewest_66 : decode cX6_fewest 66 = .ok (.aload_n 0, 1) := by decide +kernel
theorem dX6_fewest_67 : decode cX6_fewest 67 = .ok (.iload 4, 2) := by decide +kernel
theorem dX6_fewest_69 : decode cX6_fewest 69 = .ok (.putfield 137, 3) := by decide +kernel
theorem dX6_fewest_72 : decode cX6_fewest 72 = .ok (.aload_n 0, 1) := by decide +kernel
theorem dX6_fewest_73 : decode cX6_fewest 73 = .ok (.iload_n 3, 1) := by decide +kernel
theorem dX6_fewest_74 : decode cX6_fewest 74 = .ok (.putfield 140, 3) := by decide +kernel
theorem dX6_fewest_77 : decode cX6_fewest 77 = .ok (.aload_n 0, 1) := by decide +kernel
theorem dX6_fewest_78 : decode cX6_fewest 78 = .ok (.iconst 0, 1) := by decide +kernel
theorem dX6_fewest_79 : decode cX6_fewest 79 = .ok (.putfield 143, 3) := by decide +kernel
theorem dX6_fewest_82 : decode cX6_fewest 82 = .ok (.aload_n 0, 1) := by decide +kernel
theorem dX6_fewest_83 : decode cX6_fewest 83 = .ok (.dup, 1) := by decide +kernel
theorem dX6_fewest_84 : decode cX6_fewest 84 = .ok (.getfield 143, 3) := by decide +kernel
theorem dX6_fewest_87 : decode cX6_fewest 87 = .ok (.iload 4, 2) := by decide +kernel
theorem dX6_fewest_89 : decode cX6_fewest 89 = .ok (.aload_n 0, 1) := by decide +kernel
theorem dX6_fewest_90 : decode cX6_fewest 90 = .ok (.getfield 137, 3) := by decide +kernel
theorem dX6_fewest_93 : decode cX6_fewest 93 = .ok (.if_icmp .ne 7, 3) := by decide +kernel
theorem dX6_fewest_96 : decode cX6_fewest 96 = .ok (.iconst 1, 1) := by decide +kernel
theorem dX6_fewest_97 : decode cX6_fewest 97 = .ok (.goto 4, 3) := by decide +kernel
theorem dX6_fewest_100 : decode cX6_fewest 100 = .ok (.iconst 0, 1) := by decide +kernel
theorem dX6_fewest_101 : decode cX6_fewest 101 = .ok (.iadd, 1) := by decide +kernel
theorem dX6_fewest_102 : decode cX6_fewest 102 = .ok (.putfield 143, 3) := by decide +kernel
theorem dX6_fewest_105 : decode cX6_fewest 105 = .ok (.iinc 3 2, 3) := by decide +kernel
theorem dX6_fewest_108 : decode cX6_fewest 108 = .ok (.goto (-79), 3) := by decide +kernel
theorem dX6_fewest_111 : decode cX6_fewest 111 = .ok (.iload_n 2, 1) := by decide +kernel
theorem dX6_fewest_112 : decode cX6_fewest 112 = .ok (.ifCond .ne 10, 3) := by decide +kernel
theorem dX6_fewest_115 : decode cX6_fewest 115 = .ok (.aload_n 0, 1) := by decide +kernel
theorem dX6_fewest_116 : decode cX6_fewest 116 = .ok (.getfield 137, 3) := by decide +kernel
theorem dX6_fewest_119 : decode cX6_fewest 119 = .ok (.goto 19, 3) := by decide +kernel
theorem dX6_fewest_122 : decode cX6_fewest 122 = .ok (.iload_n 2, 1) := by decide +kernel
theorem dX6_fewest_123 : decode cX6_fewest 123 = .ok (.iconst 1, 1) := by decide +kernel
theorem dX6_fewest_124 : decode cX6_fewest 124 = .ok (.if_icmp .ne 10, 3) := by decide +kernel
theorem dX6_fewest_127 : decode cX6_fewest 127 = .ok (.aload_n 0, 1) := by decide +kernel
theorem dX6_fewest_128 : decode cX6_fewest 128 = .ok (.getfield 140, 3) := by decide +kernel
theorem dX6_fewest_131 : decode cX6_fewest 131 = .ok (.goto 7, 3) := by decide +kernel
theorem dX6_fewest_134 : decode cX6_fewest 134 = .ok (.aload_n 0, 1) := by decide +kernel
theorem dX6_fewest_135 : decode cX6_fewest 135 = .ok (.getfield 143, 3) := by decide +kernel
theorem dX6_fewest_138 : decode cX6_fewest 138 = .ok (.ireturn, 1) := by decide +kernel
theorem dX6_beginFound_0 : decode cX6_beginFound 0 = .ok (.aload_n 0, 1) := by decide +kernel
theorem dX6_beginFound_1 : decode cX6_beginFound 1 = .ok (.iconst 0, 1) := by decide +kernel
theorem dX6_beginFound_2 : decode cX6_beginFound 2 = .ok (.putfield 143, 3) := by decide +kernel
theorem dX6_beginFound_5 : decode cX6_beginFound 5 = .ok (.aload_n 0, 1) := by decide +kernel
theorem dX6_beginFound_6 : decode cX6_beginFound 6 = .ok (.bipush (-6), 2) := by decide +kernel
theorem dX6_beginFound_8 : decode cX6_beginFound 8 = .ok (.putfield 140, 3) := by decide +kernel
theorem dX6_beginFound_11 : decode cX6_beginFound 11 = .ok (.return_, 1) := by decide +kernel
theorem dX6_find_0 : decode cX6_find 0 = .ok (.aload_n 0, 1) := by decide +kernel
theorem dX6_find_1 : decode cX6_find 1 = .ok (.aload_n 0, 1) := by decide +kernel
theorem dX6_find_2 : decode cX6_find 2 = .ok (.getfield 143, 3) := by decide +kernel
theorem dX6_find_5 : decode cX6_find 5 = .ok (.ifCond .ne 7, 3) := by decide +kernel
theorem dX6_find_8 : decode cX6_find 8 = .ok (.iload_n 1, 1) := by decide +kernel
theorem dX6_find_9 : decode cX6_find 9 = .ok (.goto 7, 3) := by decide +kernel
theorem dX6_find_12 : decode cX6_find 12 = .ok (.aload_n 0, 1) := by decide +kernel
theorem dX6_find_13 : decode cX6_find 13 = .ok (.getfield 140, 3) := by decide +kernel
theorem dX6_find_16 : decode cX6_find 16 = .ok (.putfield 140, 3) := by decide +kernel
theorem dX6_find_19 : decode cX6_find 19 = .ok (.aload_n 0, 1) := by decide +kernel
theorem dX6_find_20 : decode cX6_find 20 = .ok (.dup, 1) := by decide +kernel
theorem dX6_find_21 : decode cX6_find 21 = .ok (.getfield 143, 3) := by decide +kernel
theorem dX6_find_24 : decode cX6_find 24 = .ok (.iconst 1, 1) := by decide +kernel
theorem dX6_find_25 : decode cX6_find 25 = .ok (.iadd, 1) := by decide +kernel
theorem dX6_find_26 : decode cX6_find 26 = .ok (.putfield 143, 3) := by decide +kernel
theorem dX6_find_29 : decode cX6_find 29 = .ok (.return_, 1) := by decide +kernel
set_option maxRecDepth 20000 in
theorem ggX6_even_X6_isSlot : GoodIn wsX6_even wsX6_isSlot := goodIn_r _ [6, 7, 8, 5, 9] (by decide +kernel) (by decide +kernel)
set_option maxRecDepth 20000 in
theorem gX6_even_X6_isSlot : GoodIn wsX6_even (va_wsS RX6 72 yX6_isSlot wsX6_isSlot) := goodIn_app (goodIn_of _ (by decide +kernel)) ggX6_even_X6_isSlot
set_option maxRecDepth 20000 in
theorem ggX6_even_X6_in : GoodIn wsX6_even wsX6_in := goodIn_r _ [9] (by decide +kernel) (by decide +kernel)
set_option maxRecDepth 20000 in
theorem gX6_even_X6_in : GoodIn wsX6_even (va_wsS RX6 33 yX6_in wsX6_in) := goodIn_app (goodIn_of _ (by decide +kernel)) ggX6_even_X6_in
set_option maxRecDepth 20000 in
theorem ggX6_even_X6_beginFound : GoodIn wsX6_even wsX6_beginFound := goodIn_r _ [13, 1, 2, 52, 53, 54, 55, 56, 57, 58, 59, 60, 61, 62, 63, 64] (by decide +kernel) (by decide +kernel)
set_option maxRecDepth 20000 in
theorem gX6_even_X6_beginFound : GoodIn wsX6_even (wsV RX6 146 RX6 yX6_beginFound wsX6_beginFound) := goodIn_app (goodIn_of _ (by decide +kernel)) ggX6_even_X6_beginFound
set_option maxRecDepth 20000 in
theorem ggX6_even_X6_many : GoodIn wsX6_even wsX6_many := goodIn_r _ [17, 18, 52, 53, 54, 55, 56, 57, 58, 59, 60, 61, 62, 63, 64] (by decide +kernel) (by decide +kernel)
set_option maxRecDepth 20000 in
theorem gX6_even_X6_many : GoodIn wsX6_even (wsV RX6 68 RX6 yX6_many wsX6_many) := goodIn_app (goodIn_of _ (by decide +kernel)) ggX6_even_X6_many
set_option maxRecDepth 20000 in
theorem ggX6_even_X6_netOf : GoodIn wsX6_even wsX6_netOf := goodIn_r _ [22, 18, 52, 53, 54, 55, 56, 57, 58, 59, 60, 61, 62, 63, 64] (by decide +kernel) (by decide +kernel)
set_option maxRecDepth 20000 in
theorem gX6_even_X6_netOf : GoodIn wsX6_even (wsV RX6 79 RX6 yX6_netOf wsX6_netOf) := goodIn_app (goodIn_of _ (by decide +kernel)) ggX6_even_X6_netOf
set_option maxRecDepth 20000 in
theorem ggX6_even_X6_switched : GoodIn wsX6_even wsX6_switched := goodIn_r _ [25, 26, 27, 5, 28, 29, 30, 31] (by decide +kernel) (by decide +kernel)
set_option maxRecDepth 20000 in
theorem gX6_even_X6_switched : GoodIn wsX6_even (va_wsS RX6 55 yX6_switched wsX6_switched) := goodIn_app (goodIn_of _ (by decide +kernel)) ggX6_even_X6_switched
set_option maxRecDepth 20000 in
theorem ggX6_even_X6_oddNodes : GoodIn wsX6_even wsX6_oddNodes := goodIn_r _ [35, 14, 15, 16, 5, 17, 18, 36, 37, 38, 39, 40, 41, 42, 43, 44, 26, 27, 28, 29, 30, 31, 45, 46, 47, 52, 53, 54, 55, 56, 57, 58, 59, 60, 61, 62, 63, 64] (by decide +kernel) (by decide +kernel)
set_option maxRecDepth 20000 in
theorem gX6_even_X6_oddNodes : GoodIn wsX6_even (wsV RX6 125 RX6 yX6_oddNodes wsX6_oddNodes) := goodIn_app (goodIn_of _ (by decide +kernel)) ggX6_even_X6_oddNodes
set_option maxRecDepth 20000 in
theorem ggX6_even_X6_find : GoodIn wsX6_even wsX6_find := goodIn_r _ [51, 1, 2, 52, 53, 54, 55, 56, 57, 58, 59, 60, 61, 62, 63, 64] (by decide +kernel) (by decide +kernel)
set_option maxRecDepth 20000 in
theorem gX6_even_X6_find : GoodIn wsX6_even (wsV RX6 149 RX6 yX6_find wsX6_find) := goodIn_app (goodIn_of _ (by decide +kernel)) ggX6_even_X6_find
theorem dX6_even_0 : decode cX6_even 0 = .ok (.iload_n 1, 1) := by decide +kernel
theorem dX6_even_1 : decode cX6_even 1 = .ok (.invokestatic 72, 3) := by decide +kernel
theorem dX6_even_4 : decode cX6_even 4 = .ok (.ifCond .ne 5, 3) := by decide +kernel
theorem dX6_even_7 : decode cX6_even 7 = .ok (.iconst (-1), 1) := by decide +kernel
theorem dX6_even_8 : decode cX6_even 8 = .ok (.ireturn, 1) := by decide +kernel
theorem dX6_even_9 : decode cX6_even 9 = .ok (.iload_n 2, 1) := by decide +kernel
theorem dX6_even_10 : decode cX6_even 10 = .ok (.iconst 0, 1) := by decide +kernel
theorem dX6_even_11 : decode cX6_even 11 = .ok (.iconst 1, 1) := by decide +kernel
theorem dX6_even_12 : decode cX6_even 12 = .ok (.invokestatic 33, 3) := by decide +kernel
theorem dX6_even_15 : decode cX6_even 15 = .ok (.ifCond .ne 6, 3) := by decide +kernel
theorem dX6_even_18 : decode cX6_even 18 = .ok (.bipush (-2), 2) := by decide +kernel
theorem dX6_even_20 : decode cX6_even 20 = .ok (.ireturn, 1) := by decide +kernel
theorem dX6_even_21 : decode cX6_even 21 = .ok (.aload_n 0, 1) := by decide +kernel
theorem dX6_even_22 : decode cX6_even 22 = .ok (.invokevirtual 146, 3) := by decide +kernel
theorem dX6_even_25 : decode cX6_even 25 = .ok (.iconst 0, 1) := by decide +kernel
theorem dX6_even_26 : decode cX6_even 26 = .ok (.istore_n 3, 1) := by decide +kernel
theorem dX6_even_27 : decode cX6_even 27 = .ok (.iload_n 3, 1) := by decide +kernel
theorem dX6_even_28 : decode cX6_even 28 = .ok (.iconst 1, 1) := by decide +kernel
theorem dX6_even_29 : decode cX6_even 29 = .ok (.aload_n 0, 1) := by decide +kernel
theorem dX6_even_30 : decode cX6_even 30 = .ok (.invokevirtual 68, 3) := by decide +kernel
theorem dX6_even_33 : decode cX6_even 33 = .ok (.ishl, 1) := by decide +kernel
theorem dX6_even_34 : decode cX6_even 34 = .ok (.if_icmp .ge 34, 3) := by decide +kernel
theorem dX6_even_37 : decode cX6_even 37 = .ok (.aload_n 0, 1) := by decide +kernel
theorem dX6_even_38 : decode cX6_even 38 = .ok (.aload_n 0, 1) := by decide +kernel
theorem dX6_even_39 : decode cX6_even 39 = .ok (.invokevirtual 68, 3) := by decide +kernel
theorem dX6_even_42 : decode cX6_even 42 = .ok (.aload_n 0, 1) := by decide +kernel
theorem dX6_even_43 : decode cX6_even 43 = .ok (.iload_n 1, 1) := by decide +kernel
theorem dX6_even_44 : decode cX6_even 44 = .ok (.invokevirtual 79, 3) := by decide +kernel
theorem dX6_even_47 : decode cX6_even 47 = .ok (.iload_n 3, 1) := by decide +kernel
theorem dX6_even_48 : decode cX6_even 48 = .ok (.invokestatic 55, 3) := by decide +kernel
theorem dX6_even_51 : decode cX6_even 51 = .ok (.invokevirtual 125, 3) := by decide +kernel
theorem dX6_even_54 : decode cX6_even 54 = .ok (.ifCond .ne 8, 3) := by decide +kernel
theorem dX6_even_57 : decode cX6_even 57 = .ok (.aload_n 0, 1) := by decide +kernel
theorem dX6_even_58 : decode cX6_even 58 = .ok (.iload_n 3, 1) := by decide +kernel
theorem dX6_even_59 : decode cX6_even 59 = .ok (.invokevirtual 149, 3) := by decide +kernel
theorem dX6_even_62 : decode cX6_even 62 = .ok (.iinc 3 2, 3) := by decide +kernel
theorem dX6_even_65 : decode cX6_even 65 = .ok (.goto (-38), 3) := by decide +kernel
theorem dX6_even_68 : decode cX6_even 68 = .ok (.iload_n 2, 1) := by decide +kernel
theorem dX6_even_69 : decode cX6_even 69 = .ok (.ifCond .ne 10, 3) := by decide +kernel
theorem dX6_even_72 : decode cX6_even 72 = .ok (.aload_n 0, 1) := by decide +kernel
theorem dX6_even_73 : decode cX6_even 73 = .ok (.getfield 143, 3) := by decide +kernel
theorem dX6_even_76 : decode cX6_even 76 = .ok (.goto 7, 3) := by decide +kernel
theorem dX6_even_79 : decode cX6_even 79 = .ok (.aload_n 0, 1) := by decide +kernel
theorem dX6_even_80 : decode cX6_even 80 = .ok (.getfield 140, 3) := by decide +kernel
theorem dX6_even_83 : decode cX6_even 83 = .ok (.ireturn, 1) := by decide +kernel
set_option maxRecDepth 20000 in
theorem ggX6_isBy_X6_many : GoodIn wsX6_isBy wsX6_many := goodIn_r _ [5, 6, 25, 26, 27, 28, 29, 30, 31, 32, 33, 34, 35, 36, 37] (by decide +kernel) (by decide +kernel)
set_option maxRecDepth 20000 in
theorem gX6_isBy_X6_many : GoodIn wsX6_isBy (wsV RX6 68 RX6 yX6_many wsX6_many) := goodIn_app (goodIn_of _ (by decide +kernel)) ggX6_isBy_X6_many
set_option maxRecDepth 20000 in
theorem ggX6_isBy_X6_degree : GoodIn wsX6_isBy wsX6_degree := goodIn_r _ [9, 10, 11, 4, 12, 13, 14, 15, 16, 17, 18, 19, 20, 21, 22, 23, 24] (by decide +kernel) (by decide +kernel)
set_option maxRecDepth 20000 in
theorem gX6_isBy_X6_degree : GoodIn wsX6_isBy (va_wsS RX6 116 yX6_degree wsX6_degree) := goodIn_app (goodIn_of _ (by decide +kernel)) ggX6_isBy_X6_degree
theorem dX6_isBy_0 : decode cX6_isBy 0 = .ok (.iconst 1, 1) := by decide +kernel
theorem dX6_isBy_1 : decode cX6_isBy 1 = .ok (.istore_n 3, 1) := by decide +kernel
theorem dX6_isBy_2 : decode cX6_isBy 2 = .ok (.iconst 0, 1) := by decide +kernel
theorem dX6_isBy_3 : decode cX6_isBy 3 = .ok (.istore 4, 2) := by decide +kernel
theorem dX6_isBy_5 : decode cX6_isBy 5 = .ok (.iload 4, 2) := by decide +kernel
theorem dX6_isBy_7 : decode cX6_isBy 7 = .ok (.aload_n 0, 1) := by decide +kernel
theorem dX6_isBy_8 : decode cX6_isBy 8 = .ok (.invokevirtual 68, 3) := by decide +kernel
theorem dX6_isBy_11 : decode cX6_isBy 11 = .ok (.if_icmp .ge 33, 3) := by decide +kernel
theorem dX6_isBy_14 : decode cX6_isBy 14 = .ok (.iload_n 3, 1) := by decide +kernel
theorem dX6_isBy_15 : decode cX6_isBy 15 = .ok (.ifCond .eq 21, 3) := by decide +kernel
theorem dX6_isBy_18 : decode cX6_isBy 18 = .ok (.aload_n 0, 1) := by decide +kernel
theorem dX6_isBy_19 : decode cX6_isBy 19 = .ok (.invokevirtual 68, 3) := by decide +kernel
theorem dX6_isBy_22 : decode cX6_isBy 22 = .ok (.iload_n 1, 1) := by decide +kernel
theorem dX6_isBy_23 : decode cX6_isBy 23 = .ok (.iload 4, 2) := by decide +kernel
theorem dX6_isBy_25 : decode cX6_isBy 25 = .ok (.invokestatic 116, 3) := by decide +kernel
theorem dX6_isBy_28 : decode cX6_isBy 28 = .ok (.iload_n 2, 1) := by decide +kernel
theorem dX6_isBy_29 : decode cX6_isBy 29 = .ok (.if_icmp .ne 7, 3) := by decide +kernel
theorem dX6_isBy_32 : decode cX6_isBy 32 = .ok (.iconst 1, 1) := by decide +kernel
theorem dX6_isBy_33 : decode cX6_isBy 33 = .ok (.goto 4, 3) := by decide +kernel
theorem dX6_isBy_36 : decode cX6_isBy 36 = .ok (.iconst 0, 1) := by decide +kernel
theorem dX6_isBy_37 : decode cX6_isBy 37 = .ok (.istore_n 3, 1) := by decide +kernel
theorem dX6_isBy_38 : decode cX6_isBy 38 = .ok (.iinc 4 1, 3) := by decide +kernel
theorem dX6_isBy_41 : decode cX6_isBy 41 = .ok (.goto (-36), 3) := by decide +kernel
theorem dX6_isBy_44 : decode cX6_isBy 44 = .ok (.iload_n 3, 1) := by decide +kernel
theorem dX6_isBy_45 : decode cX6_isBy 45 = .ok (.ireturn, 1) := by decide +kernel
set_option maxRecDepth 20000 in
theorem ggX6_isEvenly_X6_many : GoodIn wsX6_isEvenly wsX6_many := goodIn_r _ [5, 6, 25, 26, 27, 28, 29, 30, 31, 32, 33, 34, 35, 36, 37] (by decide +kernel) (by decide +kernel)
set_option maxRecDepth 20000 in
theorem gX6_isEvenly_X6_many : GoodIn wsX6_isEvenly (wsV RX6 68 RX6 yX6_many wsX6_many) := goodIn_app (goodIn_of _ (by decide +kernel)) ggX6_isEvenly_X6_many
set_option maxRecDepth 20000 in
theorem ggX6_isEvenly_X6_joined : GoodIn wsX6_isEvenly wsX6_joined := goodIn_r _ [9, 10, 11, 4, 12, 13, 14, 15] (by decide +kernel) (by decide +kernel)
set_option maxRecDepth 20000 in
theorem gX6_isEvenly_X6_joined : GoodIn wsX6_isEvenly (va_wsS RX6 45 yX6_joined wsX6_joined) := goodIn_app (goodIn_of _ (by decide +kernel)) ggX6_isEvenly_X6_joined
set_option maxRecDepth 20000 in
theorem ggX6_isEvenly_X6_common : GoodIn wsX6_isEvenly wsX6_common := goodIn_r _ [18, 19, 20, 4, 21, 7, 8, 9, 10, 11, 12, 13, 14, 15, 22, 23, 24] (by decide +kernel) (by decide +kernel)
set_option maxRecDepth 20000 in
theorem gX6_isEvenly_X6_common : GoodIn wsX6_isEvenly (va_wsS RX6 134 yX6_common wsX6_common) := goodIn_app (goodIn_of _ (by decide +kernel)) ggX6_isEvenly_X6_common
theorem dX6_isEvenly_0 : decode cX6_isEvenly 0 = .ok (.bipush (-6), 2) := by decide +kernel
theorem dX6_isEvenly_2 : decode cX6_isEvenly 2 = .ok (.istore_n 3, 1) := by decide +kernel
theorem dX6_isEvenly_3 : decode cX6_isEvenly 3 = .ok (.iconst 1, 1) := by decide +kernel
theorem dX6_isEvenly_4 : decode cX6_isEvenly 4 = .ok (.istore 4, 2) := by decide +kernel
theorem dX6_isEvenly_6 : decode cX6_isEvenly 6 = .ok (.iconst 0, 1) := by decide +kernel
theorem dX6_isEvenly_7 : decode cX6_isEvenly 7 = .ok (.istore 5, 2) := by decide +kernel
theorem dX6_isEvenly_9 : decode cX6_isEvenly 9 = .ok (.iload 5, 2) := by decide +kernel
theorem dX6_isEvenly_11 : decode cX6_isEvenly 11 = .ok (.aload_n 0, 1) := by decide +kernel
theorem dX6_isEvenly_12 : decode cX6_isEvenly 12 = .ok (.invokevirtual 68, 3) := by decide +kernel
theorem dX6_isEvenly_15 : decode cX6_isEvenly 15 = .ok (.if_icmp .ge 85, 3) := by decide +kernel
theorem dX6_isEvenly_18 : decode cX6_isEvenly 18 = .ok (.iload 5, 2) := by decide +kernel
theorem dX6_isEvenly_20 : decode cX6_isEvenly 20 = .ok (.iconst 1, 1) := by decide +kernel
theorem dX6_isEvenly_21 : decode cX6_isEvenly 21 = .ok (.iadd, 1) := by decide +kernel
theorem dX6_isEvenly_22 : decode cX6_isEvenly 22 = .ok (.istore 6, 2) := by decide +kernel
theorem dX6_isEvenly_24 : decode cX6_isEvenly 24 = .ok (.iload 6, 2) := by decide +kernel
theorem dX6_isEvenly_26 : decode cX6_isEvenly 26 = .ok (.aload_n 0, 1) := by decide +kernel
theorem dX6_isEvenly_27 : decode cX6_isEvenly 27 = .ok (.invokevirtual 68, 3) := by decide +kernel
theorem dX6_isEvenly_30 : decode cX6_isEvenly 30 = .ok (.if_icmp .ge 64, 3) := by decide +kernel
theorem dX6_isEvenly_33 : decode cX6_isEvenly 33 = .ok (.aload_n 0, 1) := by decide +kernel
theorem dX6_isEvenly_34 : decode cX6_isEvenly 34 = .ok (.invokevirtual 68, 3) := by decide +kernel
theorem dX6_isEvenly_37 : decode cX6_isEvenly 37 = .ok (.iload_n 1, 1) := by decide +kernel
theorem dX6_isEvenly_38 : decode cX6_isEvenly 38 = .ok (.iload 5, 2) := by decide +kernel
theorem dX6_isEvenly_40 : decode cX6_isEvenly 40 = .ok (.iload 6, 2) := by decide +kernel
theorem dX6_isEvenly_42 : decode cX6_isEvenly 42 = .ok (.invokestatic 45, 3) := by decide +kernel
theorem dX6_isEvenly_45 : decode cX6_isEvenly 45 = .ok (.iload_n 2, 1) := by decide +kernel
theorem dX6_isEvenly_46 : decode cX6_isEvenly 46 = .ok (.if_icmp .ne 42, 3) := by decide +kernel
theorem dX6_isEvenly_49 : decode cX6_isEvenly 49 = .ok (.aload_n 0, 1) := by decide +kernel
theorem dX6_isEvenly_50 : decode cX6_isEvenly 50 = .ok (.invokevirtual 68, 3) := by decide +kernel
theorem dX6_isEvenly_53 : decode cX6_isEvenly 53 = .ok (.iload_n 1, 1) := by decide +kernel
theorem dX6_isEvenly_54 : decode cX6_isEvenly 54 = .ok (.iload 5, 2) := by decide +kernel
theorem dX6_isEvenly_56 : decode cX6_isEvenly 56 = .ok (.iload 6, 2) := by decide +kernel
theorem dX6_isEvenly_58 : decode cX6_isEvenly 58 = .ok (.invokestatic 134, 3) := by decide +kernel
theorem dX6_isEvenly_61 : decode cX6_isEvenly 61 = .ok (.istore 7, 2) := by decide +kernel
theorem dX6_isEvenly_63 : decode cX6_isEvenly 63 = .ok (.iload 4, 2) := by decide +kernel
theorem dX6_isEvenly_65 : decode cX6_isEvenly 65 = .ok (.ifCond .eq 17, 3) := by decide +kernel
theorem dX6_isEvenly_68 : decode cX6_isEvenly 68 = .ok (.iload_n 3, 1) := by decide +kernel
theorem dX6_isEvenly_69 : decode cX6_isEvenly 69 = .ok (.ifCond .lt 9, 3) := by decide +kernel
theorem dX6_isEvenly_72 : decode cX6_isEvenly 72 = .ok (.iload 7, 2) := by decide +kernel
theorem dX6_isEvenly_74 : decode cX6_isEvenly 74 = .ok (.iload_n 3, 1) := by decide +kernel
theorem dX6_isEvenly_75 : decode cX6_isEvenly 75 = .ok (.if_icmp .ne 7, 3) := by decide +kernel
theorem dX6_isEvenly_78 : decode cX6_isEvenly 78 = .ok (.iconst 1, 1) := by decide +kernel
theorem dX6_isEvenly_79 : decode cX6_isEvenly 79 = .ok (.goto 4, 3) := by decide +kernel
theorem dX6_isEvenly_82 : decode cX6_isEvenly 82 = .ok (.iconst 0, 1) := by decide +kernel
theorem dX6_isEvenly_83 : decode cX6_isEvenly 83 = .ok (.istore 4, 2) := by decide +kernel
theorem dX6_isEvenly_85 : decode cX6_isEvenly 85 = .ok (.iload 7, 2) := by decide +kernel
theorem dX6_isEvenly_87 : decode cX6_isEvenly 87 = .ok (.istore_n 3, 1) := by decide +kernel
theorem dX6_isEvenly_88 : decode cX6_isEvenly 88 = .ok (.iinc 6 1, 3) := by decide +kernel
theorem dX6_isEvenly_91 : decode cX6_isEvenly 91 = .ok (.goto (-67), 3) := by decide +kernel
theorem dX6_isEvenly_94 : decode cX6_isEvenly 94 = .ok (.iinc 5 1, 3) := by decide +kernel
theorem dX6_isEvenly_97 : decode cX6_isEvenly 97 = .ok (.goto (-88), 3) := by decide +kernel
theorem dX6_isEvenly_100 : decode cX6_isEvenly 100 = .ok (.iload 4, 2) := by decide +kernel
theorem dX6_isEvenly_102 : decode cX6_isEvenly 102 = .ok (.ireturn, 1) := by decide +kernel
set_option maxRecDepth 20000 in
theorem ggX6_by_X6_isSlot : GoodIn wsX6_by wsX6_isSlot := goodIn_r _ [6, 7, 8, 5, 9] (by decide +kernel) (by decide +kernel)
set_option maxRecDepth 20000 in
theorem gX6_by_X6_isSlot : GoodIn wsX6_by (va_wsS RX6 72 yX6_isSlot wsX6_isSlot) := goodIn_app (goodIn_of _ (by decide +kernel)) ggX6_by_X6_isSlot
set_option maxRecDepth 20000 in
theorem ggX6_by_X6_in : GoodIn wsX6_by wsX6_in := goodIn_r _ [9] (by decide +kernel) (by decide +kernel)
set_option maxRecDepth 20000 in
theorem gX6_by_X6_in : GoodIn wsX6_by (va_wsS RX6 33 yX6_in wsX6_in) := goodIn_app (goodIn_of _ (by decide +kernel)) ggX6_by_X6_in
set_option maxRecDepth 20000 in
theorem ggX6_by_X6_beginFound : GoodIn wsX6_by wsX6_beginFound := goodIn_r _ [13, 1, 2, 59, 60, 61, 62, 63, 64, 65, 66, 67, 68, 69, 70, 71] (by decide +kernel) (by decide +kernel)
set_option maxRecDepth 20000 in
theorem gX6_by_X6_beginFound : GoodIn wsX6_by (wsV RX6 146 RX6 yX6_beginFound wsX6_beginFound) := goodIn_app (goodIn_of _ (by decide +kernel)) ggX6_by_X6_beginFound
set_option maxRecDepth 20000 in
theorem ggX6_by_X6_many : GoodIn wsX6_by wsX6_many := goodIn_r _ [17, 18, 59, 60, 61, 62, 63, 64, 65, 66, 67, 68, 69, 70, 71] (by decide +kernel) (by decide +kernel)
set_option maxRecDepth 20000 in
theorem gX6_by_X6_many : GoodIn wsX6_by (wsV RX6 68 RX6 yX6_many wsX6_many) := goodIn_app (goodIn_of _ (by decide +kernel)) ggX6_by_X6_many
set_option maxRecDepth 20000 in
theorem ggX6_by_X6_netOf : GoodIn wsX6_by wsX6_netOf := goodIn_r _ [22, 18, 59, 60, 61, 62, 63, 64, 65, 66, 67, 68, 69, 70, 71] (by decide +kernel) (by decide +kernel)
set_option maxRecDepth 20000 in
theorem gX6_by_X6_netOf : GoodIn wsX6_by (wsV RX6 79 RX6 yX6_netOf wsX6_netOf) := goodIn_app (goodIn_of _ (by decide +kernel)) ggX6_by_X6_netOf
set_option maxRecDepth 20000 in
theorem ggX6_by_X6_switched : GoodIn wsX6_by wsX6_switched := goodIn_r _ [25, 26, 27, 5, 28, 29, 30, 31] (by decide +kernel) (by decide +kernel)
set_option maxRecDepth 20000 in
theorem gX6_by_X6_switched : GoodIn wsX6_by (va_wsS RX6 55 yX6_switched wsX6_switched) := goodIn_app (goodIn_of _ (by decide +kernel)) ggX6_by_X6_switched
set_option maxRecDepth 20000 in
theorem ggX6_by_X6_isBy : GoodIn wsX6_by wsX6_isBy := goodIn_r _ [35, 14, 15, 16, 5, 17, 18, 36, 37, 38, 39, 40, 41, 42, 43, 44, 26, 27, 28, 29, 30, 31, 45, 46, 47, 59, 60, 61, 62, 63, 64, 65, 66, 67, 68, 69, 70, 71] (by decide +kernel) (by decide +kernel)
set_option maxRecDepth 20000 in
theorem gX6_by_X6_isBy : GoodIn wsX6_by (wsV RX6 153 RX6 yX6_isBy wsX6_isBy) := goodIn_app (goodIn_of _ (by decide +kernel)) ggX6_by_X6_isBy
set_option maxRecDepth 20000 in
theorem ggX6_by_X6_find : GoodIn wsX6_by wsX6_find := goodIn_r _ [51, 1, 2, 59, 60, 61, 62, 63, 64, 65, 66, 67, 68, 69, 70, 71] (by decide +kernel) (by decide +kernel)
set_option maxRecDepth 20000 in
theorem gX6_by_X6_find : GoodIn wsX6_by (wsV RX6 149 RX6 yX6_find wsX6_find) := goodIn_app (goodIn_of _ (by decide +kernel)) ggX6_by_X6_find
set_option maxRecDepth 20000 in
theorem ggX6_by_X6_isEvenly : GoodIn wsX6_by wsX6_isEvenly := goodIn_r _ [55, 14, 15, 16, 5, 17, 18, 42, 43, 44, 26, 27, 28, 29, 30, 31, 56, 57, 58, 39, 40, 41, 45, 46, 47, 59, 60, 61, 62, 63, 64, 65, 66, 67, 68, 69, 70, 71] (by decide +kernel) (by decide +kernel)
set_option maxRecDepth 20000 in
theorem gX6_by_X6_isEvenly : GoodIn wsX6_by (wsV RX6 157 RX6 yX6_isEvenly wsX6_isEvenly) := goodIn_app (goodIn_of _ (by decide +kernel)) ggX6_by_X6_isEvenly
theorem dX6_by_0 : decode cX6_by 0 = .ok (.iload_n 1, 1) := by decide +kernel
theorem dX6_by_1 : decode cX6_by 1 = .ok (.invokestatic 72, 3) := by decide +kernel
theorem dX6_by_4 : decode cX6_by 4 = .ok (.ifCond .ne 5, 3) := by decide +kernel
theorem dX6_by_7 : decode cX6_by 7 = .ok (.iconst (-1), 1) := by decide +kernel
theorem dX6_by_8 : decode cX6_by 8 = .ok (.ireturn, 1) := by decide +kernel
theorem dX6_by_9 : decode cX6_by 9 = .ok (.iload_n 2, 1) := by decide +kernel
theorem dX6_by_10 : decode cX6_by 10 = .ok (.iconst 0, 1) := by decide +kernel
theorem dX6_by_11 : decode cX6_by 11 = .ok (.bipush 6, 2) := by decide +kernel
theorem dX6_by_13 : decode cX6_by 13 = .ok (.invokestatic 33, 3) := by decide +kernel
theorem dX6_by_16 : decode cX6_by 16 = .ok (.ifCond .eq 12, 3) := by decide +kernel
theorem dX6_by_19 : decode cX6_by 19 = .ok (.iload_n 3, 1) := by decide +kernel
theorem dX6_by_20 : decode cX6_by 20 = .ok (.iconst 0, 1) := by decide +kernel
theorem dX6_by_21 : decode cX6_by 21 = .ok (.iconst 2, 1) := by decide +kernel
theorem dX6_by_22 : decode cX6_by 22 = .ok (.invokestatic 33, 3) := by decide +kernel
theorem dX6_by_25 : decode cX6_by 25 = .ok (.ifCond .ne 6, 3) := by decide +kernel
theorem dX6_by_28 : decode cX6_by 28 = .ok (.bipush (-2), 2) := by decide +kernel
theorem dX6_by_30 : decode cX6_by 30 = .ok (.ireturn, 1) := by decide +kernel
theorem dX6_by_31 : decode cX6_by 31 = .ok (.aload_n 0, 1) := by decide +kernel
theorem dX6_by_32 : decode cX6_by 32 = .ok (.invokevirtual 146, 3) := by decide +kernel
theorem dX6_by_35 : decode cX6_by 35 = .ok (.iconst 0, 1) := by decide +kernel
theorem dX6_by_36 : decode cX6_by 36 = .ok (.istore 4, 2) := by decide +kernel
theorem dX6_by_38 : decode cX6_by 38 = .ok (.iconst 0, 1) := by decide +kernel
theorem dX6_by_39 : decode cX6_by 39 = .ok (.istore 5, 2) := by decide +kernel
theorem dX6_by_41 : decode cX6_by 41 = .ok (.iload 5, 2) := by decide +kernel
theorem dX6_by_43 : decode cX6_by 43 = .ok (.iconst 1, 1) := by decide +kernel
theorem dX6_by_44 : decode cX6_by 44 = .ok (.aload_n 0, 1) := by decide +kernel
theorem dX6_by_45 : decode cX6_by 45 = .ok (.invokevirtual 68, 3) := by decide +kernel
theorem dX6_by_48 : decode cX6_by 48 = .ok (.ishl, 1) := by decide +kernel
theorem dX6_by_49 : decode cX6_by 49 = .ok (.if_icmp .ge 71, 3) := by decide +kernel
theorem dX6_by_52 : decode cX6_by 52 = .ok (.aload_n 0, 1) := by decide +kernel
theorem dX6_by_53 : decode cX6_by 53 = .ok (.invokevirtual 68, 3) := by decide +kernel
theorem dX6_by_56 : decode cX6_by 56 = .ok (.aload_n 0, 1) := by decide +kernel
theorem dX6_by_57 : decode cX6_by 57 = .ok (.iload_n 1, 1) := by decide +kernel
theorem dX6_by_58 : decode cX6_by 58 = .ok (.invokevirtual 79, 3) := by decide +kernel
theorem dX6_by_61 : decode cX6_by 61 = .ok (.iload 5, 2) := by decide +kernel
theorem dX6_by_63 : decode cX6_by 63 = .ok (.invokestatic 55, 3) := by decide +kernel
theorem dX6_by_66 : decode cX6_by 66 = .ok (.istore 6, 2) := by decide +kernel
theorem dX6_by_68 : decode cX6_by 68 = .ok (.aload_n 0, 1) := by decide +kernel
theorem dX6_by_69 : decode cX6_by 69 = .ok (.iload 6, 2) := by decide +kernel
theorem dX6_by_71 : decode cX6_by 71 = .ok (.iload_n 2, 1) := by decide +kernel
theorem dX6_by_72 : decode cX6_by 72 = .ok (.invokevirtual 153, 3) := by decide +kernel
theorem dX6_by_75 : decode cX6_by 75 = .ok (.ifCond .eq 39, 3) := by decide +kernel
theorem dX6_by_78 : decode cX6_by 78 = .ok (.aload_n 0, 1) := by decide +kernel
theorem dX6_by_79 : decode cX6_by 79 = .ok (.iload 5, 2) := by decide +kernel
theorem dX6_by_81 : decode cX6_by 81 = .ok (.invokevirtual 149, 3) := by decide +kernel
theorem dX6_by_84 : decode cX6_by 84 = .ok (.iload 4, 2) := by decide +kernel
theorem dX6_by_86 : decode cX6_by 86 = .ok (.aload_n 0, 1) := by decide +kernel
theorem dX6_by_87 : decode cX6_by 87 = .ok (.iload 6, 2) := by decide +kernel
theorem dX6_by_89 : decode cX6_by 89 = .ok (.iconst 0, 1) := by decide +kernel
theorem dX6_by_90 : decode cX6_by 90 = .ok (.invokevirtual 157, 3) := by decide +kernel
theorem dX6_by_93 : decode cX6_by 93 = .ok (.ifCond .eq 17, 3) := by decide +kernel
theorem dX6_by_96 : decode cX6_by 96 = .ok (.aload_n 0, 1) := by decide +kernel
theorem dX6_by_97 : decode cX6_by 97 = .ok (.iload 6, 2) := by decide +kernel
theorem dX6_by_99 : decode cX6_by 99 = .ok (.iconst 1, 1) := by decide +kernel
theorem dX6_by_100 : decode cX6_by 100 = .ok (.invokevirtual 157, 3) := by decide +kernel
theorem dX6_by_103 : decode cX6_by 103 = .ok (.ifCond .eq 7, 3) := by decide +kernel
theorem dX6_by_106 : decode cX6_by 106 = .ok (.iconst 1, 1) := by decide +kernel
theorem dX6_by_107 : decode cX6_by 107 = .ok (.goto 4, 3) := by decide +kernel
theorem dX6_by_110 : decode cX6_by 110 = .ok (.iconst 0, 1) := by decide +kernel
theorem dX6_by_111 : decode cX6_by 111 = .ok (.iadd, 1) := by decide +kernel
theorem dX6_by_112 : decode cX6_by 112 = .ok (.istore 4, 2) := by decide +kernel
theorem dX6_by_114 : decode cX6_by 114 = .ok (.iinc 5 2, 3) := by decide +kernel
theorem dX6_by_117 : decode cX6_by 117 = .ok (.goto (-76), 3) := by decide +kernel
theorem dX6_by_120 : decode cX6_by 120 = .ok (.iload_n 3, 1) := by decide +kernel
theorem dX6_by_121 : decode cX6_by 121 = .ok (.ifCond .ne 10, 3) := by decide +kernel
theorem dX6_by_124 : decode cX6_by 124 = .ok (.aload_n 0, 1) := by decide +kernel
theorem dX6_by_125 : decode cX6_by 125 = .ok (.getfield 143, 3) := by decide +kernel
theorem dX6_by_128 : decode cX6_by 128 = .ok (.goto 17, 3) := by decide +kernel
theorem dX6_by_131 : decode cX6_by 131 = .ok (.iload_n 3, 1) := by decide +kernel
theorem dX6_by_132 : decode cX6_by 132 = .ok (.iconst 1, 1) := by decide +kernel
theorem dX6_by_133 : decode cX6_by 133 = .ok (.if_icmp .ne 10, 3) := by decide +kernel
theorem dX6_by_136 : decode cX6_by 136 = .ok (.aload_n 0, 1) := by decide +kernel
theorem dX6_by_137 : decode cX6_by 137 = .ok (.getfield 140, 3) := by decide +kernel
theorem dX6_by_140 : decode cX6_by 140 = .ok (.goto 5, 3) := by decide +kernel
theorem dX6_by_143 : decode cX6_by 143 = .ok (.iload 4, 2) := by decide +kernel
theorem dX6_by_145 : decode cX6_by 145 = .ok (.ireturn, 1) := by decide +kernel
theorem dX6_orders_0 : decode cX6_orders 0 = .ok (.iconst 1, 1) := by decide +kernel
theorem dX6_orders_1 : decode cX6_orders 1 = .ok (.istore_n 1, 1) := by decide +kernel
theorem dX6_orders_2 : decode cX6_orders 2 = .ok (.iconst 2, 1) := by decide +kernel
theorem dX6_orders_3 : decode cX6_orders 3 = .ok (.istore_n 2, 1) := by decide +kernel
theorem dX6_orders_4 : decode cX6_orders 4 = .ok (.iload_n 2, 1) := by decide +kernel
theorem dX6_orders_5 : decode cX6_orders 5 = .ok (.iload_n 0, 1) := by decide +kernel
theorem dX6_orders_6 : decode cX6_orders 6 = .ok (.if_icmp .gt 13, 3) := by decide +kernel
theorem dX6_orders_9 : decode cX6_orders 9 = .ok (.iload_n 1, 1) := by decide +kernel
theorem dX6_orders_10 : decode cX6_orders 10 = .ok (.iload_n 2, 1) := by decide +kernel
theorem dX6_orders_11 : decode cX6_orders 11 = .ok (.imul, 1) := by decide +kernel
theorem dX6_orders_12 : decode cX6_orders 12 = .ok (.istore_n 1, 1) := by decide +kernel
theorem dX6_orders_13 : decode cX6_orders 13 = .ok (.iinc 2 1, 3) := by decide +kernel
theorem dX6_orders_16 : decode cX6_orders 16 = .ok (.goto (-12), 3) := by decide +kernel
theorem dX6_orders_19 : decode cX6_orders 19 = .ok (.iload_n 1, 1) := by decide +kernel
theorem dX6_orders_20 : decode cX6_orders 20 = .ok (.ireturn, 1) := by decide +kernel
theorem dX6_layRank_0 : decode cX6_layRank 0 = .ok (.iload_n 2, 1) := by decide +kernel
theorem dX6_layRank_1 : decode cX6_layRank 1 = .ok (.istore_n 3, 1) := by decide +kernel
theorem dX6_layRank_2 : decode cX6_layRank 2 = .ok (.iload_n 1, 1) := by decide +kernel
theorem dX6_layRank_3 : decode cX6_layRank 3 = .ok (.iconst 1, 1) := by decide +kernel
theorem dX6_layRank_4 : decode cX6_layRank 4 = .ok (.isub, 1) := by decide +kernel
theorem dX6_layRank_5 : decode cX6_layRank 5 = .ok (.istore 4, 2) := by decide +kernel
theorem dX6_layRank_7 : decode cX6_layRank 7 = .ok (.iload 4, 2) := by decide +kernel
theorem dX6_layRank_9 : decode cX6_layRank 9 = .ok (.ifCond .lt 37, 3) := by decide +kernel
theorem dX6_layRank_12 : decode cX6_layRank 12 = .ok (.aload_n 0, 1) := by decide +kernel
theorem dX6_layRank_13 : decode cX6_layRank 13 = .ok (.getfield 23, 3) := by decide +kernel
theorem dX6_layRank_16 : decode cX6_layRank 16 = .ok (.iload 4, 2) := by decide +kernel
theorem dX6_layRank_18 : decode cX6_layRank 18 = .ok (.iload_n 3, 1) := by decide +kernel
theorem dX6_layRank_19 : decode cX6_layRank 19 = .ok (.iload_n 1, 1) := by decide +kernel
theorem dX6_layRank_20 : decode cX6_layRank 20 = .ok (.iload 4, 2) := by decide +kernel
theorem dX6_layRank_22 : decode cX6_layRank 22 = .ok (.isub, 1) := by decide +kernel
theorem dX6_layRank_23 : decode cX6_layRank 23 = .ok (.irem, 1) := by decide +kernel
theorem dX6_layRank_24 : decode cX6_layRank 24 = .ok (.iastore, 1) := by decide +kernel
theorem dX6_layRank_25 : decode cX6_layRank 25 = .ok (.iload_n 3, 1) := by decide +kernel
theorem dX6_layRank_26 : decode cX6_layRank 26 = .ok (.iload_n 1, 1) := by decide +kernel
theorem dX6_layRank_27 : decode cX6_layRank 27 = .ok (.iload 4, 2) := by decide +kernel
theorem dX6_layRank_29 : decode cX6_layRank 29 = .ok (.isub, 1) := by decide +kernel
theorem dX6_layRank_30 : decode cX6_layRank 30 = .ok (.idiv, 1) := by decide +kernel
theorem dX6_layRank_31 : decode cX6_layRank 31 = .ok (.istore_n 3, 1) := by decide +kernel
theorem dX6_layRank_32 : decode cX6_layRank 32 = .ok (.aload_n 0, 1) := by decide +kernel
theorem dX6_layRank_33 : decode cX6_layRank 33 = .ok (.getfield 26, 3) := by decide +kernel
theorem dX6_layRank_36 : decode cX6_layRank 36 = .ok (.iload 4, 2) := by decide +kernel
theorem dX6_layRank_38 : decode cX6_layRank 38 = .ok (.iconst 0, 1) := by decide +kernel
theorem dX6_layRank_39 : decode cX6_layRank 39 = .ok (.bastore, 1) := by decide +kernel
theorem dX6_layRank_40 : decode cX6_layRank 40 = .ok (.iinc 4 (-1), 3) := by decide +kernel
theorem dX6_layRank_43 : decode cX6_layRank 43 = .ok (.goto (-36), 3) := by decide +kernel
theorem dX6_layRank_46 : decode cX6_layRank 46 = .ok (.iconst 0, 1) := by decide +kernel
theorem dX6_layRank_47 : decode cX6_layRank 47 = .ok (.istore 4, 2) := by decide +kernel
theorem dX6_layRank_49 : decode cX6_layRank 49 = .ok (.iload 4, 2) := by decide +kernel
theorem dX6_layRank_51 : decode cX6_layRank 51 = .ok (.iload_n 1, 1) := by decide +kernel
theorem dX6_layRank_52 : decode cX6_layRank 52 = .ok (.if_icmp .ge 79, 3) := by decide +kernel
theorem dX6_layRank_55 : decode cX6_layRank 55 = .ok (.aload_n 0, 1) := by decide +kernel
theorem dX6_layRank_56 : decode cX6_layRank 56 = .ok (.getfield 23, 3) := by decide +kernel
theorem dX6_layRank_59 : decode cX6_layRank 59 = .ok (.iload 4, 2) := by decide +kernel
theorem dX6_layRank_61 : decode cX6_layRank 61 = .ok (.iaload, 1) := by decide +kernel
theorem dX6_layRank_62 : decode cX6_layRank 62 = .ok (.istore 5, 2) := by decide +kernel
theorem dX6_layRank_64 : decode cX6_layRank 64 = .ok (.iconst 0, 1) := by decide +kernel
theorem dX6_layRank_65 : decode cX6_layRank 65 = .ok (.istore 6, 2) := by decide +kernel
theorem dX6_layRank_67 : decode cX6_layRank 67 = .ok (.aload_n 0, 1) := by decide +kernel
theorem dX6_layRank_68 : decode cX6_layRank 68 = .ok (.getfield 26, 3) := by decide +kernel
theorem dX6_layRank_71 : decode cX6_layRank 71 = .ok (.iload 6, 2) := by decide +kernel
theorem dX6_layRank_73 : decode cX6_layRank 73 = .ok (.baload, 1) := by decide +kernel
theorem dX6_layRank_74 : decode cX6_layRank 74 = .ok (.ifCond .ne 8, 3) := by decide +kernel
theorem dX6_layRank_77 : decode cX6_layRank 77 = .ok (.iload 5, 2) := by decide +kernel
theorem dX6_layRank_79 : decode cX6_layRank 79 = .ok (.ifCond .le 29, 3) := by decide +kernel
theorem dX6_layRank_82 : decode cX6_layRank 82 = .ok (.iload 5, 2) := by decide +kernel
theorem dX6_layRank_84 : decode cX6_layRank 84 = .ok (.aload_n 0, 1) := by decide +kernel
theorem dX6_layRank_85 : decode cX6_layRank 85 = .ok (.getfield 26, 3) := by decide +kernel
theorem dX6_layRank_88 : decode cX6_layRank 88 = .ok (.iload 6, 2) := by decide +kernel
theorem dX6_layRank_90 : decode cX6_layRank 90 = .ok (.baload, 1) := by decide +kernel
theorem dX6_layRank_91 : decode cX6_layRank 91 = .ok (.ifCond .eq 7, 3) := by decide +kernel
theorem dX6_layRank_94 : decode cX6_layRank 94 = .ok (.iconst 0, 1) := by decide +kernel
theorem dX6_layRank_95 : decode cX6_layRank 95 = .ok (.goto 4, 3) := by decide +kernel
theorem dX6_layRank_98 : decode cX6_layRank 98 = .ok (.iconst 1, 1) := by decide +kernel
theorem dX6_layRank_99 : decode cX6_layRank 99 = .ok (.isub, 1) := by decide +kernel
theorem dX6_layRank_100 : decode cX6_layRank 100 = .ok (.istore 5, 2) := by decide +kernel
theorem dX6_layRank_102 : decode cX6_layRank 102 = .ok (.iinc 6 1, 3) := by decide +kernel
theorem dX6_layRank_105 : decode cX6_layRank 105 = .ok (.goto (-38), 3) := by decide +kernel
theorem dX6_layRank_108 : decode cX6_layRank 108 = .ok (.aload_n 0, 1) := by decide +kernel
theorem dX6_layRank_109 : decode cX6_layRank 109 = .ok (.getfield 26, 3) := by decide +kernel
theorem dX6_layRank_112 : decode cX6_layRank 112 = .ok (.iload 6, 2) := by decide +kernel
theorem dX6_layRank_114 : decode cX6_layRank 114 = .ok (.iconst 1, 1) := by decide +kernel
theorem dX6_layRank_115 : decode cX6_layRank 115 = .ok (.bastore, 1) := by decide +kernel
theorem dX6_layRank_116 : decode cX6_layRank 116 = .ok (.aload_n 0, 1) := by decide +kernel
theorem dX6_layRank_117 : decode cX6_layRank 117 = .ok (.getfield 23, 3) := by decide +kernel
theorem dX6_layRank_120 : decode cX6_layRank 120 = .ok (.iload 4, 2) := by decide +kernel
theorem dX6_layRank_122 : decode cX6_layRank 122 = .ok (.iload 6, 2) := by decide +kernel
theorem dX6_layRank_124 : decode cX6_layRank 124 = .ok (.iastore, 1) := by decide +kernel
theorem dX6_layRank_125 : decode cX6_layRank 125 = .ok (.iinc 4 1, 3) := by decide +kernel
theorem dX6_layRank_128 : decode cX6_layRank 128 = .ok (.goto (-79), 3) := by decide +kernel
theorem dX6_layRank_131 : decode cX6_layRank 131 = .ok (.return_, 1) := by decide +kernel
set_option maxRecDepth 20000 in
theorem ggX6_renumbered_X6_joined : GoodIn wsX6_renumbered wsX6_joined := goodIn_r _ [5, 6, 7, 4, 8, 9, 10, 11] (by decide +kernel) (by decide +kernel)
set_option maxRecDepth 20000 in
theorem gX6_renumbered_X6_joined : GoodIn wsX6_renumbered (va_wsS RX6 45 yX6_joined wsX6_joined) := goodIn_app (goodIn_of _ (by decide +kernel)) ggX6_renumbered_X6_joined
set_option maxRecDepth 20000 in
theorem ggX6_renumbered_X6_valueOf : GoodIn wsX6_renumbered wsX6_valueOf := goodIn_r _ [8, 9, 10, 4, 11] (by decide +kernel) (by decide +kernel)
set_option maxRecDepth 20000 in
theorem gX6_renumbered_X6_valueOf : GoodIn wsX6_renumbered (va_wsS RX6 41 yX6_valueOf wsX6_valueOf) := goodIn_app (goodIn_of _ (by decide +kernel)) ggX6_renumbered_X6_valueOf
theorem dX6_renumbered_0 : decode cX6_renumbered 0 = .ok (.iconst 0, 1) := by decide +kernel
theorem dX6_renumbered_1 : decode cX6_renumbered 1 = .ok (.istore_n 3, 1) := by decide +kernel
theorem dX6_renumbered_2 : decode cX6_renumbered 2 = .ok (.iconst 0, 1) := by decide +kernel
theorem dX6_renumbered_3 : decode cX6_renumbered 3 = .ok (.istore 4, 2) := by decide +kernel
theorem dX6_renumbered_5 : decode cX6_renumbered 5 = .ok (.iload 4, 2) := by decide +kernel
theorem dX6_renumbered_7 : decode cX6_renumbered 7 = .ok (.iload_n 1, 1) := by decide +kernel
theorem dX6_renumbered_8 : decode cX6_renumbered 8 = .ok (.if_icmp .ge 65, 3) := by decide +kernel
theorem dX6_renumbered_11 : decode cX6_renumbered 11 = .ok (.iload 4, 2) := by decide +kernel
theorem dX6_renumbered_13 : decode cX6_renumbered 13 = .ok (.iconst 1, 1) := by decide +kernel
theorem dX6_renumbered_14 : decode cX6_renumbered 14 = .ok (.iadd, 1) := by decide +kernel
theorem dX6_renumbered_15 : decode cX6_renumbered 15 = .ok (.istore 5, 2) := by decide +kernel
theorem dX6_renumbered_17 : decode cX6_renumbered 17 = .ok (.iload 5, 2) := by decide +kernel
theorem dX6_renumbered_19 : decode cX6_renumbered 19 = .ok (.iload_n 1, 1) := by decide +kernel
theorem dX6_renumbered_20 : decode cX6_renumbered 20 = .ok (.if_icmp .ge 47, 3) := by decide +kernel
theorem dX6_renumbered_23 : decode cX6_renumbered 23 = .ok (.iload_n 3, 1) := by decide +kernel
theorem dX6_renumbered_24 : decode cX6_renumbered 24 = .ok (.iload_n 1, 1) := by decide +kernel
theorem dX6_renumbered_25 : decode cX6_renumbered 25 = .ok (.iload_n 2, 1) := by decide +kernel
theorem dX6_renumbered_26 : decode cX6_renumbered 26 = .ok (.iload 4, 2) := by decide +kernel
theorem dX6_renumbered_28 : decode cX6_renumbered 28 = .ok (.iload 5, 2) := by decide +kernel
theorem dX6_renumbered_30 : decode cX6_renumbered 30 = .ok (.invokestatic 45, 3) := by decide +kernel
theorem dX6_renumbered_33 : decode cX6_renumbered 33 = .ok (.iconst 1, 1) := by decide +kernel
theorem dX6_renumbered_34 : decode cX6_renumbered 34 = .ok (.if_icmp .ne 24, 3) := by decide +kernel
theorem dX6_renumbered_37 : decode cX6_renumbered 37 = .ok (.iload_n 1, 1) := by decide +kernel
theorem dX6_renumbered_38 : decode cX6_renumbered 38 = .ok (.aload_n 0, 1) := by decide +kernel
theorem dX6_renumbered_39 : decode cX6_renumbered 39 = .ok (.getfield 23, 3) := by decide +kernel
theorem dX6_renumbered_42 : decode cX6_renumbered 42 = .ok (.iload 4, 2) := by decide +kernel
theorem dX6_renumbered_44 : decode cX6_renumbered 44 = .ok (.iaload, 1) := by decide +kernel
theorem dX6_renumbered_45 : decode cX6_renumbered 45 = .ok (.aload_n 0, 1) := by decide +kernel
theorem dX6_renumbered_46 : decode cX6_renumbered 46 = .ok (.getfield 23, 3) := by decide +kernel
theorem dX6_renumbered_49 : decode cX6_renumbered 49 = .ok (.iload 5, 2) := by decide +kernel
theorem dX6_renumbered_51 : decode cX6_renumbered 51 = .ok (.iaload, 1) := by decide +kernel
theorem dX6_renumbered_52 : decode cX6_renumbered 52 = .ok (.invokestatic 41, 3) := by decide +kernel
theorem dX6_renumbered_55 : decode cX6_renumbered 55 = .ok (.goto 4, 3) := by decide +kernel
theorem dX6_renumbered_58 : decode cX6_renumbered 58 = .ok (.iconst 0, 1) := by decide +kernel
theorem dX6_renumbered_59 : decode cX6_renumbered 59 = .ok (.ior, 1) := by decide +kernel
theorem dX6_renumbered_60 : decode cX6_renumbered 60 = .ok (.istore_n 3, 1) := by decide +kernel
theorem dX6_renumbered_61 : decode cX6_renumbered 61 = .ok (.iinc 5 1, 3) := by decide +kernel
theorem dX6_renumbered_64 : decode cX6_renumbered 64 = .ok (.goto (-47), 3) := by decide +kernel
theorem dX6_renumbered_67 : decode cX6_renumbered 67 = .ok (.iinc 4 1, 3) := by decide +kernel
theorem dX6_renumbered_70 : decode cX6_renumbered 70 = .ok (.goto (-65), 3) := by decide +kernel
theorem dX6_renumbered_73 : decode cX6_renumbered 73 = .ok (.iload_n 3, 1) := by decide +kernel
theorem dX6_renumbered_74 : decode cX6_renumbered 74 = .ok (.ireturn, 1) := by decide +kernel
set_option maxRecDepth 20000 in
theorem ggX6_kindOf_X6_alone : GoodIn wsX6_kindOf wsX6_alone := goodIn_r _ [5, 6, 7, 4, 8, 9, 10, 11, 12, 13, 14, 15, 16, 17, 18, 19, 20] (by decide +kernel) (by decide +kernel)
set_option maxRecDepth 20000 in
theorem gX6_kindOf_X6_alone : GoodIn wsX6_kindOf (va_wsS RX6 128 yX6_alone wsX6_alone) := goodIn_app (goodIn_of _ (by decide +kernel)) ggX6_kindOf_X6_alone
set_option maxRecDepth 20000 in
theorem ggX6_kindOf_X6_orders : GoodIn wsX6_kindOf wsX6_orders := goodIn_r _ [23] (by decide +kernel) (by decide +kernel)
set_option maxRecDepth 20000 in
theorem gX6_kindOf_X6_orders : GoodIn wsX6_kindOf (va_wsS RX6 160 yX6_orders wsX6_orders) := goodIn_app (goodIn_of _ (by decide +kernel)) ggX6_kindOf_X6_orders
set_option maxRecDepth 20000 in
theorem ggX6_kindOf_X6_layRank : GoodIn wsX6_kindOf wsX6_layRank := goodIn_r _ [27, 1, 28, 33, 34, 35, 36, 37, 38, 39, 40, 41, 42, 43, 44, 45] (by decide +kernel) (by decide +kernel)
set_option maxRecDepth 20000 in
theorem gX6_kindOf_X6_layRank : GoodIn wsX6_kindOf (wsV RX6 163 RX6 yX6_layRank wsX6_layRank) := goodIn_app (goodIn_of _ (by decide +kernel)) ggX6_kindOf_X6_layRank
set_option maxRecDepth 20000 in
theorem ggX6_kindOf_X6_renumbered : GoodIn wsX6_kindOf wsX6_renumbered := goodIn_r _ [32, 1, 9, 10, 4, 11, 12, 13, 14, 15, 16, 17, 33, 34, 35, 36, 37, 38, 39, 40, 41, 42, 43, 44, 45] (by decide +kernel) (by decide +kernel)
set_option maxRecDepth 20000 in
theorem gX6_kindOf_X6_renumbered : GoodIn wsX6_kindOf (wsV RX6 167 RX6 yX6_renumbered wsX6_renumbered) := goodIn_app (goodIn_of _ (by decide +kernel)) ggX6_kindOf_X6_renumbered
