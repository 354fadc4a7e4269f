theorem dX0_init_0 : decode cX0_init 0 = .ok (.aload_n 0, 1) := by decide +kernel
theorem dX0_init_1 : decode cX0_init 1 = .ok (.invokespecial 3, 3) := by decide +kernel
theorem dX0_init_4 : decode cX0_init 4 = .ok (.aload_n 0, 1) := by decide +kernel
theorem dX0_init_5 : decode cX0_init 5 = .ok (.bipush 24, 2) := by decide +kernel
theorem dX0_init_7 : decode cX0_init 7 = .ok (.newarray .int, 2) := by decide +kernel
theorem dX0_init_9 : decode cX0_init 9 = .ok (.putfield 9, 3) := by decide +kernel
theorem dX0_init_12 : decode cX0_init 12 = .ok (.aload_n 0, 1) := by decide +kernel
theorem dX0_init_13 : decode cX0_init 13 = .ok (.bipush 24, 2) := by decide +kernel
theorem dX0_init_15 : decode cX0_init 15 = .ok (.newarray .int, 2) := by decide +kernel
theorem dX0_init_17 : decode cX0_init 17 = .ok (.putfield 15, 3) := by decide +kernel
theorem dX0_init_20 : decode cX0_init 20 = .ok (.aload_n 0, 1) := by decide +kernel
theorem dX0_init_21 : decode cX0_init 21 = .ok (.bipush 14, 2) := by decide +kernel
theorem dX0_init_23 : decode cX0_init 23 = .ok (.newarray .int, 2) := by decide +kernel
theorem dX0_init_25 : decode cX0_init 25 = .ok (.putfield 18, 3) := by decide +kernel
theorem dX0_init_28 : decode cX0_init 28 = .ok (.aload_n 0, 1) := by decide +kernel
theorem dX0_init_29 : decode cX0_init 29 = .ok (.aload_n 1, 1) := by decide +kernel
theorem dX0_init_30 : decode cX0_init 30 = .ok (.putfield 21, 3) := by decide +kernel
theorem dX0_init_33 : decode cX0_init 33 = .ok (.aload_n 0, 1) := by decide +kernel
theorem dX0_init_34 : decode cX0_init 34 = .ok (.aload_n 2, 1) := by decide +kernel
theorem dX0_init_35 : decode cX0_init 35 = .ok (.putfield 25, 3) := by decide +kernel
theorem dX0_init_38 : decode cX0_init 38 = .ok (.return_, 1) := by decide +kernel
set_option maxRecDepth 20000 in
theorem ggX0_weigh_X10_nodesRun : GoodIn wsX0_weigh wsX10_nodesRun := goodIn_r _ [11, 12, 13, 14, 15, 16, 10, 17, 18, 19, 20, 21, 22, 23, 24, 25, 26, 27, 28, 29, 30, 31, 32, 33, 34, 35, 36, 37, 38, 39, 40, 41, 42, 43, 44, 45, 46, 47, 48, 49, 50, 51, 52, 53, 54, 55, 56, 57, 58, 59, 60, 61, 62, 63, 64, 65, 66, 67, 68, 69, 70, 71, 72, 73, 74, 75, 76, 77, 78, 79, 80, 81, 82, 83, 84, 85, 135, 136, 137, 138, 139, 140, 141, 142, 143, 144, 145] (by decide +kernel) (by decide +kernel)
set_option maxRecDepth 20000 in
theorem gX0_weigh_X10_nodesRun : GoodIn wsX0_weigh (wsV RX0 38 RX10 yX10_nodesRun wsX10_nodesRun) := goodIn_app (goodIn_of _ (by decide +kernel)) ggX0_weigh_X10_nodesRun
set_option maxRecDepth 20000 in
theorem ggX0_weigh_X8_failing : GoodIn wsX0_weigh wsX8_failing := goodIn_r _ [90, 91, 92, 93, 94, 89, 95, 96, 97, 98, 99, 100, 101, 102, 103, 104, 105, 106, 107, 108, 109, 131, 132, 133, 134, 146, 147, 148, 149] (by decide +kernel) (by decide +kernel)
set_option maxRecDepth 20000 in
theorem gX0_weigh_X8_failing : GoodIn wsX0_weigh (wsV RX0 44 RX8 yX8_failing wsX8_failing) := goodIn_app (goodIn_of _ (by decide +kernel)) ggX0_weigh_X8_failing
set_option maxRecDepth 20000 in
theorem ggX0_weigh_X0_weighNode : GoodIn wsX0_weigh wsX0_weighNode := goodIn_r _ [114, 115, 116, 117, 113, 118, 1, 2, 3, 119, 93, 94, 89, 95, 96, 97, 98, 99, 100, 101, 102, 103, 104, 105, 106, 107, 108, 109, 120, 121, 122, 123, 124, 125, 126, 127, 128, 129, 130, 131, 132, 133, 134, 146, 147, 148, 149] (by decide +kernel) (by decide +kernel)
set_option maxRecDepth 20000 in
theorem gX0_weigh_X0_weighNode : GoodIn wsX0_weigh (wsV RX0 51 RX0 yX0_weighNode wsX0_weighNode) := goodIn_app (goodIn_of _ (by decide +kernel)) ggX0_weigh_X0_weighNode
theorem dX0_weigh_0 : decode cX0_weigh 0 = .ok (.iconst 0, 1) := by decide +kernel
theorem dX0_weigh_1 : decode cX0_weigh 1 = .ok (.istore_n 2, 1) := by decide +kernel
theorem dX0_weigh_2 : decode cX0_weigh 2 = .ok (.iload_n 2, 1) := by decide +kernel
theorem dX0_weigh_3 : decode cX0_weigh 3 = .ok (.aload_n 0, 1) := by decide +kernel
theorem dX0_weigh_4 : decode cX0_weigh 4 = .ok (.getfield 21, 3) := by decide +kernel
theorem dX0_weigh_7 : decode cX0_weigh 7 = .ok (.getfield 29, 3) := by decide +kernel
theorem dX0_weigh_10 : decode cX0_weigh 10 = .ok (.if_icmp .ge 32, 3) := by decide +kernel
theorem dX0_weigh_13 : decode cX0_weigh 13 = .ok (.aload_n 0, 1) := by decide +kernel
theorem dX0_weigh_14 : decode cX0_weigh 14 = .ok (.getfield 18, 3) := by decide +kernel
theorem dX0_weigh_17 : decode cX0_weigh 17 = .ok (.iload_n 2, 1) := by decide +kernel
theorem dX0_weigh_18 : decode cX0_weigh 18 = .ok (.aload_n 0, 1) := by decide +kernel
theorem dX0_weigh_19 : decode cX0_weigh 19 = .ok (.getfield 25, 3) := by decide +kernel
theorem dX0_weigh_22 : decode cX0_weigh 22 = .ok (.aload_n 1, 1) := by decide +kernel
theorem dX0_weigh_23 : decode cX0_weigh 23 = .ok (.aload_n 0, 1) := by decide +kernel
theorem dX0_weigh_24 : decode cX0_weigh 24 = .ok (.getfield 21, 3) := by decide +kernel
theorem dX0_weigh_27 : decode cX0_weigh 27 = .ok (.getfield 35, 3) := by decide +kernel
theorem dX0_weigh_30 : decode cX0_weigh 30 = .ok (.iload_n 2, 1) := by decide +kernel
theorem dX0_weigh_31 : decode cX0_weigh 31 = .ok (.iaload, 1) := by decide +kernel
theorem dX0_weigh_32 : decode cX0_weigh 32 = .ok (.invokevirtual 38, 3) := by decide +kernel
theorem dX0_weigh_35 : decode cX0_weigh 35 = .ok (.iastore, 1) := by decide +kernel
theorem dX0_weigh_36 : decode cX0_weigh 36 = .ok (.iinc 2 1, 3) := by decide +kernel
theorem dX0_weigh_39 : decode cX0_weigh 39 = .ok (.goto (-37), 3) := by decide +kernel
theorem dX0_weigh_42 : decode cX0_weigh 42 = .ok (.aload_n 0, 1) := by decide +kernel
theorem dX0_weigh_43 : decode cX0_weigh 43 = .ok (.getfield 21, 3) := by decide +kernel
theorem dX0_weigh_46 : decode cX0_weigh 46 = .ok (.invokevirtual 44, 3) := by decide +kernel
theorem dX0_weigh_49 : decode cX0_weigh 49 = .ok (.istore_n 2, 1) := by decide +kernel
theorem dX0_weigh_50 : decode cX0_weigh 50 = .ok (.iconst 0, 1) := by decide +kernel
theorem dX0_weigh_51 : decode cX0_weigh 51 = .ok (.istore_n 3, 1) := by decide +kernel
theorem dX0_weigh_52 : decode cX0_weigh 52 = .ok (.iload_n 3, 1) := by decide +kernel
theorem dX0_weigh_53 : decode cX0_weigh 53 = .ok (.aload_n 1, 1) := by decide +kernel
theorem dX0_weigh_54 : decode cX0_weigh 54 = .ok (.getfield 48, 3) := by decide +kernel
theorem dX0_weigh_57 : decode cX0_weigh 57 = .ok (.if_icmp .ge 24, 3) := by decide +kernel
theorem dX0_weigh_60 : decode cX0_weigh 60 = .ok (.aload_n 0, 1) := by decide +kernel
theorem dX0_weigh_61 : decode cX0_weigh 61 = .ok (.iload_n 3, 1) := by decide +kernel
theorem dX0_weigh_62 : decode cX0_weigh 62 = .ok (.iload_n 2, 1) := by decide +kernel
theorem dX0_weigh_63 : decode cX0_weigh 63 = .ok (.aload_n 0, 1) := by decide +kernel
theorem dX0_weigh_64 : decode cX0_weigh 64 = .ok (.getfield 21, 3) := by decide +kernel
theorem dX0_weigh_67 : decode cX0_weigh 67 = .ok (.getfield 29, 3) := by decide +kernel
theorem dX0_weigh_70 : decode cX0_weigh 70 = .ok (.iload_n 2, 1) := by decide +kernel
theorem dX0_weigh_71 : decode cX0_weigh 71 = .ok (.isub, 1) := by decide +kernel
theorem dX0_weigh_72 : decode cX0_weigh 72 = .ok (.invokevirtual 51, 3) := by decide +kernel
theorem dX0_weigh_75 : decode cX0_weigh 75 = .ok (.iinc 3 1, 3) := by decide +kernel
theorem dX0_weigh_78 : decode cX0_weigh 78 = .ok (.goto (-26), 3) := by decide +kernel
theorem dX0_weigh_81 : decode cX0_weigh 81 = .ok (.return_, 1) := by decide +kernel
set_option maxRecDepth 20000 in
theorem ggX0_weighNode_X0_countRuns : GoodIn wsX0_weighNode wsX0_countRuns := goodIn_r _ [5, 6, 7, 8, 9, 10, 11, 12, 13, 14, 15, 16, 17, 18, 19, 20, 21, 22, 23, 24, 25, 26, 27, 34, 35, 36, 37, 38, 39, 40, 41, 42, 43, 44, 45, 46] (by decide +kernel) (by decide +kernel)
set_option maxRecDepth 20000 in
theorem gX0_weighNode_X0_countRuns : GoodIn wsX0_weighNode (wsV RX0 55 RX0 yX0_countRuns wsX0_countRuns) := goodIn_app (goodIn_of _ (by decide +kernel)) ggX0_weighNode_X0_countRuns
set_option maxRecDepth 20000 in
theorem ggX0_weighNode_X0_put : GoodIn wsX0_weighNode wsX0_put := goodIn_r _ [31, 32, 33, 34, 35, 36, 37, 38] (by decide +kernel) (by decide +kernel)
set_option maxRecDepth 20000 in
theorem gX0_weighNode_X0_put : GoodIn wsX0_weighNode (wsV RX0 59 RX0 yX0_put wsX0_put) := goodIn_app (goodIn_of _ (by decide +kernel)) ggX0_weighNode_X0_put
theorem dX0_weighNode_0 : decode cX0_weighNode 0 = .ok (.aload_n 0, 1) := by decide +kernel
theorem dX0_weighNode_1 : decode cX0_weighNode 1 = .ok (.iload_n 1, 1) := by decide +kernel
theorem dX0_weighNode_2 : decode cX0_weighNode 2 = .ok (.iconst 1, 1) := by decide +kernel
theorem dX0_weighNode_3 : decode cX0_weighNode 3 = .ok (.invokevirtual 55, 3) := by decide +kernel
theorem dX0_weighNode_6 : decode cX0_weighNode 6 = .ok (.istore 4, 2) := by decide +kernel
theorem dX0_weighNode_8 : decode cX0_weighNode 8 = .ok (.aload_n 0, 1) := by decide +kernel
theorem dX0_weighNode_9 : decode cX0_weighNode 9 = .ok (.iload_n 1, 1) := by decide +kernel
theorem dX0_weighNode_10 : decode cX0_weighNode 10 = .ok (.iconst 0, 1) := by decide +kernel
theorem dX0_weighNode_11 : decode cX0_weighNode 11 = .ok (.invokevirtual 55, 3) := by decide +kernel
theorem dX0_weighNode_14 : decode cX0_weighNode 14 = .ok (.istore 5, 2) := by decide +kernel
theorem dX0_weighNode_16 : decode cX0_weighNode 16 = .ok (.iload_n 2, 1) := by decide +kernel
theorem dX0_weighNode_17 : decode cX0_weighNode 17 = .ok (.ifCond .ne 13, 3) := by decide +kernel
theorem dX0_weighNode_20 : decode cX0_weighNode 20 = .ok (.aload_n 0, 1) := by decide +kernel
theorem dX0_weighNode_21 : decode cX0_weighNode 21 = .ok (.iload_n 1, 1) := by decide +kernel
theorem dX0_weighNode_22 : decode cX0_weighNode 22 = .ok (.iconst 0, 1) := by decide +kernel
theorem dX0_weighNode_23 : decode cX0_weighNode 23 = .ok (.iconst 1, 1) := by decide +kernel
theorem dX0_weighNode_24 : decode cX0_weighNode 24 = .ok (.invokevirtual 59, 3) := by decide +kernel
theorem dX0_weighNode_27 : decode cX0_weighNode 27 = .ok (.goto 38, 3) := by decide +kernel
theorem dX0_weighNode_30 : decode cX0_weighNode 30 = .ok (.iload_n 3, 1) := by decide +kernel
theorem dX0_weighNode_31 : decode cX0_weighNode 31 = .ok (.ifCond .ne 14, 3) := by decide +kernel
theorem dX0_weighNode_34 : decode cX0_weighNode 34 = .ok (.aload_n 0, 1) := by decide +kernel
theorem dX0_weighNode_35 : decode cX0_weighNode 35 = .ok (.iload_n 1, 1) := by decide +kernel
theorem dX0_weighNode_36 : decode cX0_weighNode 36 = .ok (.iload 4, 2) := by decide +kernel
theorem dX0_weighNode_38 : decode cX0_weighNode 38 = .ok (.iload_n 2, 1) := by decide +kernel
theorem dX0_weighNode_39 : decode cX0_weighNode 39 = .ok (.invokevirtual 59, 3) := by decide +kernel
theorem dX0_weighNode_42 : decode cX0_weighNode 42 = .ok (.goto 23, 3) := by decide +kernel
theorem dX0_weighNode_45 : decode cX0_weighNode 45 = .ok (.iload 4, 2) := by decide +kernel
theorem dX0_weighNode_47 : decode cX0_weighNode 47 = .ok (.iload_n 3, 1) := by decide +kernel
theorem dX0_weighNode_48 : decode cX0_weighNode 48 = .ok (.imul, 1) := by decide +kernel
theorem dX0_weighNode_49 : decode cX0_weighNode 49 = .ok (.istore 6, 2) := by decide +kernel
theorem dX0_weighNode_51 : decode cX0_weighNode 51 = .ok (.aload_n 0, 1) := by decide +kernel
theorem dX0_weighNode_52 : decode cX0_weighNode 52 = .ok (.iload_n 1, 1) := by decide +kernel
theorem dX0_weighNode_53 : decode cX0_weighNode 53 = .ok (.iload 6, 2) := by decide +kernel
theorem dX0_weighNode_55 : decode cX0_weighNode 55 = .ok (.iload 6, 2) := by decide +kernel
theorem dX0_weighNode_57 : decode cX0_weighNode 57 = .ok (.iload 5, 2) := by decide +kernel
theorem dX0_weighNode_59 : decode cX0_weighNode 59 = .ok (.iload_n 2, 1) := by decide +kernel
theorem dX0_weighNode_60 : decode cX0_weighNode 60 = .ok (.imul, 1) := by decide +kernel
theorem dX0_weighNode_61 : decode cX0_weighNode 61 = .ok (.iadd, 1) := by decide +kernel
theorem dX0_weighNode_62 : decode cX0_weighNode 62 = .ok (.invokevirtual 59, 3) := by decide +kernel
theorem dX0_weighNode_65 : decode cX0_weighNode 65 = .ok (.return_, 1) := by decide +kernel
set_option maxRecDepth 20000 in
theorem ggX0_countRuns_X8_failsFor : GoodIn wsX0_countRuns wsX8_failsFor := goodIn_r _ [8, 9, 10, 11, 12, 13, 14, 15, 16, 17, 18, 19, 20, 21, 22, 28, 29, 30, 31, 32, 33, 34, 35] (by decide +kernel) (by decide +kernel)
set_option maxRecDepth 20000 in
theorem gX0_countRuns_X8_failsFor : GoodIn wsX0_countRuns (wsV RX0 62 RX8 yX8_failsFor wsX8_failsFor) := goodIn_app (goodIn_of _ (by decide +kernel)) ggX0_countRuns_X8_failsFor
theorem dX0_countRuns_0 : decode cX0_countRuns 0 = .ok (.iconst 0, 1) := by decide +kernel
theorem dX0_countRuns_1 : decode cX0_countRuns 1 = .ok (.istore_n 3, 1) := by decide +kernel
theorem dX0_countRuns_2 : decode cX0_countRuns 2 = .ok (.iconst 0, 1) := by decide +kernel
theorem dX0_countRuns_3 : decode cX0_countRuns 3 = .ok (.istore 4, 2) := by decide +kernel
theorem dX0_countRuns_5 : decode cX0_countRuns 5 = .ok (.iload 4, 2) := by decide +kernel
theorem dX0_countRuns_7 : decode cX0_countRuns 7 = .ok (.aload_n 0, 1) := by decide +kernel
theorem dX0_countRuns_8 : decode cX0_countRuns 8 = .ok (.getfield 21, 3) := by decide +kernel
theorem dX0_countRuns_11 : decode cX0_countRuns 11 = .ok (.getfield 29, 3) := by decide +kernel
theorem dX0_countRuns_14 : decode cX0_countRuns 14 = .ok (.if_icmp .ge 37, 3) := by decide +kernel
theorem dX0_countRuns_17 : decode cX0_countRuns 17 = .ok (.aload_n 0, 1) := by decide +kernel
theorem dX0_countRuns_18 : decode cX0_countRuns 18 = .ok (.getfield 21, 3) := by decide +kernel
theorem dX0_countRuns_21 : decode cX0_countRuns 21 = .ok (.iload 4, 2) := by decide +kernel
theorem dX0_countRuns_23 : decode cX0_countRuns 23 = .ok (.iconst 0, 1) := by decide +kernel
theorem dX0_countRuns_24 : decode cX0_countRuns 24 = .ok (.invokevirtual 62, 3) := by decide +kernel
theorem dX0_countRuns_27 : decode cX0_countRuns 27 = .ok (.iload_n 2, 1) := by decide +kernel
theorem dX0_countRuns_28 : decode cX0_countRuns 28 = .ok (.if_icmp .ne 17, 3) := by decide +kernel
theorem dX0_countRuns_31 : decode cX0_countRuns 31 = .ok (.iload_n 3, 1) := by decide +kernel
theorem dX0_countRuns_32 : decode cX0_countRuns 32 = .ok (.aload_n 0, 1) := by decide +kernel
theorem dX0_countRuns_33 : decode cX0_countRuns 33 = .ok (.getfield 18, 3) := by decide +kernel
theorem dX0_countRuns_36 : decode cX0_countRuns 36 = .ok (.iload 4, 2) := by decide +kernel
theorem dX0_countRuns_38 : decode cX0_countRuns 38 = .ok (.iaload, 1) := by decide +kernel
theorem dX0_countRuns_39 : decode cX0_countRuns 39 = .ok (.iload_n 1, 1) := by decide +kernel
theorem dX0_countRuns_40 : decode cX0_countRuns 40 = .ok (.iushr, 1) := by decide +kernel
theorem dX0_countRuns_41 : decode cX0_countRuns 41 = .ok (.iconst 1, 1) := by decide +kernel
theorem dX0_countRuns_42 : decode cX0_countRuns 42 = .ok (.iand, 1) := by decide +kernel
theorem dX0_countRuns_43 : decode cX0_countRuns 43 = .ok (.iadd, 1) := by decide +kernel
theorem dX0_countRuns_44 : decode cX0_countRuns 44 = .ok (.istore_n 3, 1) := by decide +kernel
theorem dX0_countRuns_45 : decode cX0_countRuns 45 = .ok (.iinc 4 1, 3) := by decide +kernel
theorem dX0_countRuns_48 : decode cX0_countRuns 48 = .ok (.goto (-43), 3) := by decide +kernel
theorem dX0_countRuns_51 : decode cX0_countRuns 51 = .ok (.iload_n 3, 1) := by decide +kernel
theorem dX0_countRuns_52 : decode cX0_countRuns 52 = .ok (.ireturn, 1) := by decide +kernel
theorem dX0_put_0 : decode cX0_put 0 = .ok (.aload_n 0, 1) := by decide +kernel
theorem dX0_put_1 : decode cX0_put 1 = .ok (.getfield 9, 3) := by decide +kernel
theorem dX0_put_4 : decode cX0_put 4 = .ok (.iload_n 1, 1) := by decide +kernel
theorem dX0_put_5 : decode cX0_put 5 = .ok (.iload_n 2, 1) := by decide +kernel
theorem dX0_put_6 : decode cX0_put 6 = .ok (.iastore, 1) := by decide +kernel
theorem dX0_put_7 : decode cX0_put 7 = .ok (.aload_n 0, 1) := by decide +kernel
theorem dX0_put_8 : decode cX0_put 8 = .ok (.getfield 15, 3) := by decide +kernel
theorem dX0_put_11 : decode cX0_put 11 = .ok (.iload_n 1, 1) := by decide +kernel
theorem dX0_put_12 : decode cX0_put 12 = .ok (.iload_n 3, 1) := by decide +kernel
theorem dX0_put_13 : decode cX0_put 13 = .ok (.ifCond .ne 7, 3) := by decide +kernel
theorem dX0_put_16 : decode cX0_put 16 = .ok (.iconst 1, 1) := by decide +kernel
theorem dX0_put_17 : decode cX0_put 17 = .ok (.goto 4, 3) := by decide +kernel
theorem dX0_put_20 : decode cX0_put 20 = .ok (.iload_n 3, 1) := by decide +kernel
theorem dX0_put_21 : decode cX0_put 21 = .ok (.iastore, 1) := by decide +kernel
theorem dX0_put_22 : decode cX0_put 22 = .ok (.return_, 1) := by decide +kernel
set_option maxRecDepth 20000 in
theorem ggX0_nodeAtPlace_X0_howManyAhead : GoodIn wsX0_nodeAtPlace wsX0_howManyAhead := goodIn_r _ [5, 6, 7, 8, 9, 10, 11, 12] (by decide +kernel) (by decide +kernel)
set_option maxRecDepth 20000 in
theorem gX0_nodeAtPlace_X0_howManyAhead : GoodIn wsX0_nodeAtPlace (wsV RX0 66 RX0 yX0_howManyAhead wsX0_howManyAhead) := goodIn_app (goodIn_of _ (by decide +kernel)) ggX0_nodeAtPlace_X0_howManyAhead
theorem dX0_nodeAtPlace_0 : decode cX0_nodeAtPlace 0 = .ok (.iconst 0, 1) := by decide +kernel
theorem dX0_nodeAtPlace_1 : decode cX0_nodeAtPlace 1 = .ok (.istore_n 3, 1) := by decide +kernel
theorem dX0_nodeAtPlace_2 : decode cX0_nodeAtPlace 2 = .ok (.iload_n 3, 1) := by decide +kernel
theorem dX0_nodeAtPlace_3 : decode cX0_nodeAtPlace 3 = .ok (.iload_n 2, 1) := by decide +kernel
theorem dX0_nodeAtPlace_4 : decode cX0_nodeAtPlace 4 = .ok (.if_icmp .ge 21, 3) := by decide +kernel
theorem dX0_nodeAtPlace_7 : decode cX0_nodeAtPlace 7 = .ok (.aload_n 0, 1) := by decide +kernel
theorem dX0_nodeAtPlace_8 : decode cX0_nodeAtPlace 8 = .ok (.iload_n 3, 1) := by decide +kernel
theorem dX0_nodeAtPlace_9 : decode cX0_nodeAtPlace 9 = .ok (.iload_n 2, 1) := by decide +kernel
theorem dX0_nodeAtPlace_10 : decode cX0_nodeAtPlace 10 = .ok (.invokevirtual 66, 3) := by decide +kernel
theorem dX0_nodeAtPlace_13 : decode cX0_nodeAtPlace 13 = .ok (.iload_n 1, 1) := by decide +kernel
theorem dX0_nodeAtPlace_14 : decode cX0_nodeAtPlace 14 = .ok (.if_icmp .ne 5, 3) := by decide +kernel
theorem dX0_nodeAtPlace_17 : decode cX0_nodeAtPlace 17 = .ok (.iload_n 3, 1) := by decide +kernel
theorem dX0_nodeAtPlace_18 : decode cX0_nodeAtPlace 18 = .ok (.ireturn, 1) := by decide +kernel
theorem dX0_nodeAtPlace_19 : decode cX0_nodeAtPlace 19 = .ok (.iinc 3 1, 3) := by decide +kernel
theorem dX0_nodeAtPlace_22 : decode cX0_nodeAtPlace 22 = .ok (.goto (-20), 3) := by decide +kernel
theorem dX0_nodeAtPlace_25 : decode cX0_nodeAtPlace 25 = .ok (.bipush (-6), 2) := by decide +kernel
theorem dX0_nodeAtPlace_27 : decode cX0_nodeAtPlace 27 = .ok (.ireturn, 1) := by decide +kernel
theorem dX0_howManyAhead_0 : decode cX0_howManyAhead 0 = .ok (.iconst 0, 1) := by decide +kernel
theorem dX0_howManyAhead_1 : decode cX0_howManyAhead 1 = .ok (.istore_n 3, 1) := by decide +kernel
theorem dX0_howManyAhead_2 : decode cX0_howManyAhead 2 = .ok (.iconst 0, 1) := by decide +kernel
theorem dX0_howManyAhead_3 : decode cX0_howManyAhead 3 = .ok (.istore 4, 2) := by decide +kernel
theorem dX0_howManyAhead_5 : decode cX0_howManyAhead 5 = .ok (.iload 4, 2) := by decide +kernel
theorem dX0_howManyAhead_7 : decode cX0_howManyAhead 7 = .ok (.iload_n 2, 1) := by decide +kernel
theorem dX0_howManyAhead_8 : decode cX0_howManyAhead 8 = .ok (.if_icmp .ge 64, 3) := by decide +kernel
theorem dX0_howManyAhead_11 : decode cX0_howManyAhead 11 = .ok (.aload_n 0, 1) := by decide +kernel
theorem dX0_howManyAhead_12 : decode cX0_howManyAhead 12 = .ok (.getfield 9, 3) := by decide +kernel
theorem dX0_howManyAhead_15 : decode cX0_howManyAhead 15 = .ok (.iload 4, 2) := by decide +kernel
theorem dX0_howManyAhead_17 : decode cX0_howManyAhead 17 = .ok (.iaload, 1) := by decide +kernel
theorem dX0_howManyAhead_18 : decode cX0_howManyAhead 18 = .ok (.aload_n 0, 1) := by decide +kernel
theorem dX0_howManyAhead_19 : decode cX0_howManyAhead 19 = .ok (.getfield 15, 3) := by decide +kernel
theorem dX0_howManyAhead_22 : decode cX0_howManyAhead 22 = .ok (.iload_n 1, 1) := by decide +kernel
theorem dX0_howManyAhead_23 : decode cX0_howManyAhead 23 = .ok (.iaload, 1) := by decide +kernel
theorem dX0_howManyAhead_24 : decode cX0_howManyAhead 24 = .ok (.imul, 1) := by decide +kernel
theorem dX0_howManyAhead_25 : decode cX0_howManyAhead 25 = .ok (.aload_n 0, 1) := by decide +kernel
theorem dX0_howManyAhead_26 : decode cX0_howManyAhead 26 = .ok (.getfield 9, 3) := by decide +kernel
theorem dX0_howManyAhead_29 : decode cX0_howManyAhead 29 = .ok (.iload_n 1, 1) := by decide +kernel
theorem dX0_howManyAhead_30 : decode cX0_howManyAhead 30 = .ok (.iaload, 1) := by decide +kernel
theorem dX0_howManyAhead_31 : decode cX0_howManyAhead 31 = .ok (.aload_n 0, 1) := by decide +kernel
theorem dX0_howManyAhead_32 : decode cX0_howManyAhead 32 = .ok (.getfield 15, 3) := by decide +kernel
theorem dX0_howManyAhead_35 : decode cX0_howManyAhead 35 = .ok (.iload 4, 2) := by decide +kernel
theorem dX0_howManyAhead_37 : decode cX0_howManyAhead 37 = .ok (.iaload, 1) := by decide +kernel
theorem dX0_howManyAhead_38 : decode cX0_howManyAhead 38 = .ok (.imul, 1) := by decide +kernel
theorem dX0_howManyAhead_39 : decode cX0_howManyAhead 39 = .ok (.isub, 1) := by decide +kernel
theorem dX0_howManyAhead_40 : decode cX0_howManyAhead 40 = .ok (.istore 5, 2) := by decide +kernel
theorem dX0_howManyAhead_42 : decode cX0_howManyAhead 42 = .ok (.iload_n 3, 1) := by decide +kernel
theorem dX0_howManyAhead_43 : decode cX0_howManyAhead 43 = .ok (.iload 5, 2) := by decide +kernel
theorem dX0_howManyAhead_45 : decode cX0_howManyAhead 45 = .ok (.ifCond .gt 14, 3) := by decide +kernel
theorem dX0_howManyAhead_48 : decode cX0_howManyAhead 48 = .ok (.iload 5, 2) := by decide +kernel
theorem dX0_howManyAhead_50 : decode cX0_howManyAhead 50 = .ok (.ifCond .ne 13, 3) := by decide +kernel
theorem dX0_howManyAhead_53 : decode cX0_howManyAhead 53 = .ok (.iload 4, 2) := by decide +kernel
theorem dX0_howManyAhead_55 : decode cX0_howManyAhead 55 = .ok (.iload_n 1, 1) := by decide +kernel
theorem dX0_howManyAhead_56 : decode cX0_howManyAhead 56 = .ok (.if_icmp .ge 7, 3) := by decide +kernel
theorem dX0_howManyAhead_59 : decode cX0_howManyAhead 59 = .ok (.iconst 1, 1) := by decide +kernel
theorem dX0_howManyAhead_60 : decode cX0_howManyAhead 60 = .ok (.goto 4, 3) := by decide +kernel
theorem dX0_howManyAhead_63 : decode cX0_howManyAhead 63 = .ok (.iconst 0, 1) := by decide +kernel
theorem dX0_howManyAhead_64 : decode cX0_howManyAhead 64 = .ok (.iadd, 1) := by decide +kernel
theorem dX0_howManyAhead_65 : decode cX0_howManyAhead 65 = .ok (.istore_n 3, 1) := by decide +kernel
theorem dX0_howManyAhead_66 : decode cX0_howManyAhead 66 = .ok (.iinc 4 1, 3) := by decide +kernel
theorem dX0_howManyAhead_69 : decode cX0_howManyAhead 69 = .ok (.goto (-64), 3) := by decide +kernel
theorem dX0_howManyAhead_72 : decode cX0_howManyAhead 72 = .ok (.iload_n 3, 1) := by decide +kernel
theorem dX0_howManyAhead_73 : decode cX0_howManyAhead 73 = .ok (.ireturn, 1) := by decide +kernel
theorem dX1_init_0 : decode cX1_init 0 = .ok (.aload_n 0, 1) := by decide +kernel
theorem dX1_init_1 : decode cX1_init 1 = .ok (.invokespecial 3, 3) := by decide +kernel
theorem dX1_init_4 : decode cX1_init 4 = .ok (.aload_n 0, 1) := by decide +kernel
theorem dX1_init_5 : decode cX1_init 5 = .ok (.bipush 96, 2) := by decide +kernel
theorem dX1_init_7 : decode cX1_init 7 = .ok (.newarray .int, 2) := by decide +kernel
theorem dX1_init_9 : decode cX1_init 9 = .ok (.putfield 9, 3) := by decide +kernel
theorem dX1_init_12 : decode cX1_init 12 = .ok (.aload_n 0, 1) := by decide +kernel
theorem dX1_init_13 : decode cX1_init 13 = .ok (.bipush 96, 2) := by decide +kernel
theorem dX1_init_15 : decode cX1_init 15 = .ok (.newarray .int, 2) := by decide +kernel
theorem dX1_init_17 : decode cX1_init 17 = .ok (.putfield 15, 3) := by decide +kernel
theorem dX1_init_20 : decode cX1_init 20 = .ok (.aload_n 0, 1) := by decide +kernel
theorem dX1_init_21 : decode cX1_init 21 = .ok (.bipush 96, 2) := by decide +kernel
theorem dX1_init_23 : decode cX1_init 23 = .ok (.newarray .int, 2) := by decide +kernel
theorem dX1_init_25 : decode cX1_init 25 = .ok (.putfield 18, 3) := by decide +kernel
theorem dX1_init_28 : decode cX1_init 28 = .ok (.aload_n 0, 1) := by decide +kernel
theorem dX1_init_29 : decode cX1_init 29 = .ok (.iconst 0, 1) := by decide +kernel
theorem dX1_init_30 : decode cX1_init 30 = .ok (.putfield 21, 3) := by decide +kernel
theorem dX1_init_33 : decode cX1_init 33 = .ok (.aload_n 0, 1) := by decide +kernel
theorem dX1_init_34 : decode cX1_init 34 = .ok (.aload_n 1, 1) := by decide +kernel
theorem dX1_init_35 : decode cX1_init 35 = .ok (.putfield 25, 3) := by decide +kernel
theorem dX1_init_38 : decode cX1_init 38 = .ok (.return_, 1) := by decide +kernel
set_option maxRecDepth 20000 in
theorem ggX1_list_X1_listOfNode : GoodIn wsX1_list wsX1_listOfNode := goodIn_r _ [12, 13, 14, 15, 16, 17, 18, 19, 11, 20, 1, 5, 6, 21, 22, 23, 24, 25, 26, 27, 28, 29, 30, 31, 32, 33, 34, 35, 36, 37, 38, 39, 40, 41, 42, 43, 44, 45, 46, 47, 48, 49, 50, 51, 52, 53, 54, 55, 56, 57, 58, 59, 60, 61, 62, 63, 64, 65, 66, 67, 68, 69, 70, 71, 72, 73, 74, 75, 76, 77, 78, 79, 80, 81, 82, 83, 84, 85, 86, 87, 88, 89, 90, 91, 92, 93, 94, 95, 96, 97, 98, 99, 100, 101, 102, 103, 104, 105, 106, 107, 108, 109, 110, 111, 112, 113, 114, 115, 116, 117, 118, 119, 120, 121, 122, 123, 124, 125, 126, 127, 128, 129, 130, 131, 132, 133, 229, 230, 231, 232, 233] (by decide +kernel) (by decide +kernel)
set_option maxRecDepth 20000 in
theorem gX1_list_X1_listOfNode : GoodIn wsX1_list (wsV RX1 33 RX1 yX1_listOfNode wsX1_listOfNode) := goodIn_app (goodIn_of _ (by decide +kernel)) ggX1_list_X1_listOfNode
set_option maxRecDepth 20000 in
theorem ggX1_list_X7_workOutChanged : GoodIn wsX1_list wsX7_workOutChanged := goodIn_r _ [138, 139, 140, 141, 142, 143, 144, 145, 146, 147, 148, 149, 150, 151, 152, 153, 154, 155, 156, 157, 158, 159, 160, 161, 162, 163, 164, 165, 166, 167, 168, 169, 170, 171, 172, 173, 174, 175, 176, 177, 15, 178, 179, 180, 181, 182, 183, 184, 185, 186, 187, 188, 189, 190, 191, 192, 193, 194, 195, 196, 197, 198, 199, 200, 201, 202, 203, 204, 205, 206, 207, 208, 209, 210, 211, 212, 213, 241, 242, 243, 244, 245, 246, 247, 248, 234, 235, 236, 237, 238, 239, 240] (by decide +kernel) (by decide +kernel)
set_option maxRecDepth 20000 in
theorem gX1_list_X7_workOutChanged : GoodIn wsX1_list (wsV RX1 37 RX7 yX7_workOutChanged wsX7_workOutChanged) := goodIn_app (goodIn_of _ (by decide +kernel)) ggX1_list_X7_workOutChanged
set_option maxRecDepth 20000 in
theorem ggX1_list_X7_unlikeMany : GoodIn wsX1_list wsX7_unlikeMany := goodIn_r _ [217, 218, 219, 220, 137, 221, 140, 142, 144, 222, 223, 224, 225, 226, 227, 228, 241, 242, 243, 244] (by decide +kernel) (by decide +kernel)
set_option maxRecDepth 20000 in
theorem gX1_list_X7_unlikeMany : GoodIn wsX1_list (wsV RX1 43 RX7 yX7_unlikeMany wsX7_unlikeMany) := goodIn_app (goodIn_of _ (by decide +kernel)) ggX1_list_X7_unlikeMany
theorem dX1_list_0 : decode cX1_list 0 = .ok (.aload_n 0, 1) := by decide +kernel
theorem dX1_list_1 : decode cX1_list 1 = .ok (.iconst 0, 1) := by decide +kernel
theorem dX1_list_2 : decode cX1_list 2 = .ok (.putfield 21, 3) := by decide +kernel
theorem dX1_list_5 : decode cX1_list 5 = .ok (.iconst 0, 1) := by decide +kernel
theorem dX1_list_6 : decode cX1_list 6 = .ok (.istore_n 2, 1) := by decide +kernel
theorem dX1_list_7 : decode cX1_list 7 = .ok (.iload_n 2, 1) := by decide +kernel
theorem dX1_list_8 : decode cX1_list 8 = .ok (.aload_n 1, 1) := by decide +kernel
theorem dX1_list_9 : decode cX1_list 9 = .ok (.getfield 29, 3) := by decide +kernel
theorem dX1_list_12 : decode cX1_list 12 = .ok (.if_icmp .ge 20, 3) := by decide +kernel
theorem dX1_list_15 : decode cX1_list 15 = .ok (.aload_n 0, 1) := by decide +kernel
theorem dX1_list_16 : decode cX1_list 16 = .ok (.iload_n 2, 1) := by decide +kernel
theorem dX1_list_17 : decode cX1_list 17 = .ok (.aload_n 1, 1) := by decide +kernel
theorem dX1_list_18 : decode cX1_list 18 = .ok (.getfield 32, 3) := by decide +kernel
theorem dX1_list_21 : decode cX1_list 21 = .ok (.iload_n 2, 1) := by decide +kernel
theorem dX1_list_22 : decode cX1_list 22 = .ok (.iaload, 1) := by decide +kernel
theorem dX1_list_23 : decode cX1_list 23 = .ok (.invokevirtual 33, 3) := by decide +kernel
theorem dX1_list_26 : decode cX1_list 26 = .ok (.iinc 2 1, 3) := by decide +kernel
theorem dX1_list_29 : decode cX1_list 29 = .ok (.goto (-22), 3) := by decide +kernel
theorem dX1_list_32 : decode cX1_list 32 = .ok (.iconst 0, 1) := by decide +kernel
theorem dX1_list_33 : decode cX1_list 33 = .ok (.istore_n 2, 1) := by decide +kernel
theorem dX1_list_34 : decode cX1_list 34 = .ok (.iload_n 2, 1) := by decide +kernel
theorem dX1_list_35 : decode cX1_list 35 = .ok (.aload_n 0, 1) := by decide +kernel
theorem dX1_list_36 : decode cX1_list 36 = .ok (.getfield 21, 3) := by decide +kernel
theorem dX1_list_39 : decode cX1_list 39 = .ok (.if_icmp .ge 49, 3) := by decide +kernel
theorem dX1_list_42 : decode cX1_list 42 = .ok (.aload_n 0, 1) := by decide +kernel
theorem dX1_list_43 : decode cX1_list 43 = .ok (.getfield 25, 3) := by decide +kernel
theorem dX1_list_46 : decode cX1_list 46 = .ok (.iconst 2, 1) := by decide +kernel
theorem dX1_list_47 : decode cX1_list 47 = .ok (.iload_n 2, 1) := by decide +kernel
theorem dX1_list_48 : decode cX1_list 48 = .ok (.iadd, 1) := by decide +kernel
theorem dX1_list_49 : decode cX1_list 49 = .ok (.aload_n 1, 1) := by decide +kernel
theorem dX1_list_50 : decode cX1_list 50 = .ok (.aload_n 0, 1) := by decide +kernel
theorem dX1_list_51 : decode cX1_list 51 = .ok (.getfield 9, 3) := by decide +kernel
theorem dX1_list_54 : decode cX1_list 54 = .ok (.iload_n 2, 1) := by decide +kernel
theorem dX1_list_55 : decode cX1_list 55 = .ok (.iaload, 1) := by decide +kernel
theorem dX1_list_56 : decode cX1_list 56 = .ok (.aload_n 0, 1) := by decide +kernel
theorem dX1_list_57 : decode cX1_list 57 = .ok (.getfield 15, 3) := by decide +kernel
theorem dX1_list_60 : decode cX1_list 60 = .ok (.iload_n 2, 1) := by decide +kernel
theorem dX1_list_61 : decode cX1_list 61 = .ok (.iaload, 1) := by decide +kernel
theorem dX1_list_62 : decode cX1_list 62 = .ok (.invokevirtual 37, 3) := by decide +kernel
theorem dX1_list_65 : decode cX1_list 65 = .ok (.aload_n 0, 1) := by decide +kernel
theorem dX1_list_66 : decode cX1_list 66 = .ok (.getfield 18, 3) := by decide +kernel
theorem dX1_list_69 : decode cX1_list 69 = .ok (.iload_n 2, 1) := by decide +kernel
theorem dX1_list_70 : decode cX1_list 70 = .ok (.aload_n 0, 1) := by decide +kernel
theorem dX1_list_71 : decode cX1_list 71 = .ok (.getfield 25, 3) := by decide +kernel
theorem dX1_list_74 : decode cX1_list 74 = .ok (.iconst 2, 1) := by decide +kernel
theorem dX1_list_75 : decode cX1_list 75 = .ok (.iload_n 2, 1) := by decide +kernel
theorem dX1_list_76 : decode cX1_list 76 = .ok (.iadd, 1) := by decide +kernel
theorem dX1_list_77 : decode cX1_list 77 = .ok (.iconst 0, 1) := by decide +kernel
theorem dX1_list_78 : decode cX1_list 78 = .ok (.invokevirtual 43, 3) := by decide +kernel
theorem dX1_list_81 : decode cX1_list 81 = .ok (.iastore, 1) := by decide +kernel
theorem dX1_list_82 : decode cX1_list 82 = .ok (.iinc 2 1, 3) := by decide +kernel
theorem dX1_list_85 : decode cX1_list 85 = .ok (.goto (-51), 3) := by decide +kernel
theorem dX1_list_88 : decode cX1_list 88 = .ok (.return_, 1) := by decide +kernel
set_option maxRecDepth 20000 in
theorem ggX1_listOfNode_X9_isNumber : GoodIn wsX1_listOfNode wsX9_isNumber := goodIn_r _ [4] (by decide +kernel) (by decide +kernel)
set_option maxRecDepth 20000 in
theorem gX1_listOfNode_X9_isNumber : GoodIn wsX1_listOfNode (va_wsS RX1 47 yX9_isNumber wsX9_isNumber) := goodIn_app (goodIn_of _ (by decide +kernel)) ggX1_listOfNode_X9_isNumber
set_option maxRecDepth 20000 in
theorem ggX1_listOfNode_X1_append : GoodIn wsX1_listOfNode wsX1_append := goodIn_r _ [9, 10, 11, 12, 126, 127, 128, 129, 130] (by decide +kernel) (by decide +kernel)
set_option maxRecDepth 20000 in
theorem gX1_listOfNode_X1_append : GoodIn wsX1_listOfNode (wsV RX1 51 RX1 yX1_append wsX1_append) := goodIn_app (goodIn_of _ (by decide +kernel)) ggX1_listOfNode_X1_append
set_option maxRecDepth 20000 in
theorem ggX1_listOfNode_X1_kindOf : GoodIn wsX1_listOfNode wsX1_kindOf := goodIn_r _ [15, 16, 17, 18, 19, 20, 21, 22, 23, 24, 25, 26, 27, 28, 29, 30, 31, 32, 33, 34, 35, 36, 37, 38, 39, 40, 41, 42, 43, 44, 45, 46, 47, 48, 49, 50, 51, 52, 53, 54, 55, 56, 57, 58, 59, 60, 61, 62, 63, 64, 65, 66, 67, 68, 69, 70, 71, 72, 73, 74, 75, 76, 77, 78, 79, 80, 81, 82, 83, 84, 85, 86, 87, 88, 89, 90, 91, 92, 93, 94, 95, 96, 97, 98, 99, 100, 101, 102, 103, 104] (by decide +kernel) (by decide +kernel)
set_option maxRecDepth 20000 in
theorem gX1_listOfNode_X1_kindOf : GoodIn wsX1_listOfNode (va_wsS RX1 54 yX1_kindOf wsX1_kindOf) := goodIn_app (goodIn_of _ (by decide +kernel)) ggX1_listOfNode_X1_kindOf
set_option maxRecDepth 20000 in
theorem ggX1_listOfNode_J0_length_8abf5 : GoodIn wsX1_listOfNode wsJ0_length_8abf5 := goodIn_r _ [35, 25, 36, 37, 38, 19, 39, 30, 31] (by decide +kernel) (by decide +kernel)
set_option maxRecDepth 20000 in
theorem gX1_listOfNode_J0_length_8abf5 : GoodIn wsX1_listOfNode (wsV RX1 58 RJ0 yJ0_length_8abf5 wsJ0_length_8abf5) := goodIn_app (goodIn_of _ (by decide +kernel)) ggX1_listOfNode_J0_length_8abf5
set_option maxRecDepth 20000 in
theorem ggX1_listOfNode_J0_charAt_5068e : GoodIn wsX1_listOfNode wsJ0_charAt_5068e := goodIn_r _ [109, 25, 26, 27, 28, 19, 29, 30, 31, 110, 111, 42, 112, 113, 114, 115, 76, 116, 117, 79, 118, 119, 120, 59, 121, 122, 123, 124, 70, 71, 72, 125, 84, 85, 86, 87, 88, 89] (by decide +kernel) (by decide +kernel)
set_option maxRecDepth 20000 in
theorem gX1_listOfNode_J0_charAt_5068e : GoodIn wsX1_listOfNode (wsV RX1 64 RJ0 yJ0_charAt_5068e wsJ0_charAt_5068e) := goodIn_app (goodIn_of _ (by decide +kernel)) ggX1_listOfNode_J0_charAt_5068e
theorem dX1_listOfNode_0 : decode cX1_listOfNode 0 = .ok (.iload_n 2, 1) := by decide +kernel
theorem dX1_listOfNode_1 : decode cX1_listOfNode 1 = .ok (.invokestatic 47, 3) := by decide +kernel
theorem dX1_listOfNode_4 : decode cX1_listOfNode 4 = .ok (.ifCond .eq 40, 3) := by decide +kernel
theorem dX1_listOfNode_7 : decode cX1_listOfNode 7 = .ok (.iload_n 2, 1) := by decide +kernel
theorem dX1_listOfNode_8 : decode cX1_listOfNode 8 = .ok (.bipush 48, 2) := by decide +kernel
theorem dX1_listOfNode_10 : decode cX1_listOfNode 10 = .ok (.isub, 1) := by decide +kernel
theorem dX1_listOfNode_11 : decode cX1_listOfNode 11 = .ok (.istore_n 3, 1) := by decide +kernel
theorem dX1_listOfNode_12 : decode cX1_listOfNode 12 = .ok (.aload_n 0, 1) := by decide +kernel
theorem dX1_listOfNode_13 : decode cX1_listOfNode 13 = .ok (.iload_n 1, 1) := by decide +kernel
theorem dX1_listOfNode_14 : decode cX1_listOfNode 14 = .ok (.bipush 48, 2) := by decide +kernel
theorem dX1_listOfNode_16 : decode cX1_listOfNode 16 = .ok (.iload_n 3, 1) := by decide +kernel
theorem dX1_listOfNode_17 : decode cX1_listOfNode 17 = .ok (.iconst 1, 1) := by decide +kernel
theorem dX1_listOfNode_18 : decode cX1_listOfNode 18 = .ok (.iadd, 1) := by decide +kernel
theorem dX1_listOfNode_19 : decode cX1_listOfNode 19 = .ok (.bipush 8, 2) := by decide +kernel
theorem dX1_listOfNode_21 : decode cX1_listOfNode 21 = .ok (.irem, 1) := by decide +kernel
theorem dX1_listOfNode_22 : decode cX1_listOfNode 22 = .ok (.iadd, 1) := by decide +kernel
theorem dX1_listOfNode_23 : decode cX1_listOfNode 23 = .ok (.invokevirtual 51, 3) := by decide +kernel
theorem dX1_listOfNode_26 : decode cX1_listOfNode 26 = .ok (.aload_n 0, 1) := by decide +kernel
theorem dX1_listOfNode_27 : decode cX1_listOfNode 27 = .ok (.iload_n 1, 1) := by decide +kernel
theorem dX1_listOfNode_28 : decode cX1_listOfNode 28 = .ok (.bipush 48, 2) := by decide +kernel
theorem dX1_listOfNode_30 : decode cX1_listOfNode 30 = .ok (.iload_n 3, 1) := by decide +kernel
theorem dX1_listOfNode_31 : decode cX1_listOfNode 31 = .ok (.bipush 8, 2) := by decide +kernel
theorem dX1_listOfNode_33 : decode cX1_listOfNode 33 = .ok (.iadd, 1) := by decide +kernel
theorem dX1_listOfNode_34 : decode cX1_listOfNode 34 = .ok (.iconst 1, 1) := by decide +kernel
theorem dX1_listOfNode_35 : decode cX1_listOfNode 35 = .ok (.isub, 1) := by decide +kernel
theorem dX1_listOfNode_36 : decode cX1_listOfNode 36 = .ok (.bipush 8, 2) := by decide +kernel
theorem dX1_listOfNode_38 : decode cX1_listOfNode 38 = .ok (.irem, 1) := by decide +kernel
theorem dX1_listOfNode_39 : decode cX1_listOfNode 39 = .ok (.iadd, 1) := by decide +kernel
theorem dX1_listOfNode_40 : decode cX1_listOfNode 40 = .ok (.invokevirtual 51, 3) := by decide +kernel
theorem dX1_listOfNode_43 : decode cX1_listOfNode 43 = .ok (.return_, 1) := by decide +kernel
theorem dX1_listOfNode_44 : decode cX1_listOfNode 44 = .ok (.iload_n 2, 1) := by decide +kernel
theorem dX1_listOfNode_45 : decode cX1_listOfNode 45 = .ok (.invokestatic 54, 3) := by decide +kernel
theorem dX1_listOfNode_48 : decode cX1_listOfNode 48 = .ok (.astore_n 3, 1) := by decide +kernel
theorem dX1_listOfNode_49 : decode cX1_listOfNode 49 = .ok (.iconst 0, 1) := by decide +kernel
theorem dX1_listOfNode_50 : decode cX1_listOfNode 50 = .ok (.istore 4, 2) := by decide +kernel
theorem dX1_listOfNode_52 : decode cX1_listOfNode 52 = .ok (.iload 4, 2) := by decide +kernel
theorem dX1_listOfNode_54 : decode cX1_listOfNode 54 = .ok (.aload_n 3, 1) := by decide +kernel
theorem dX1_listOfNode_55 : decode cX1_listOfNode 55 = .ok (.invokevirtual 58, 3) := by decide +kernel
theorem dX1_listOfNode_58 : decode cX1_listOfNode 58 = .ok (.if_icmp .ge 30, 3) := by decide +kernel
theorem dX1_listOfNode_61 : decode cX1_listOfNode 61 = .ok (.aload_n 3, 1) := by decide +kernel
theorem dX1_listOfNode_62 : decode cX1_listOfNode 62 = .ok (.iload 4, 2) := by decide +kernel
theorem dX1_listOfNode_64 : decode cX1_listOfNode 64 = .ok (.invokevirtual 64, 3) := by decide +kernel
theorem dX1_listOfNode_67 : decode cX1_listOfNode 67 = .ok (.iload_n 2, 1) := by decide +kernel
theorem dX1_listOfNode_68 : decode cX1_listOfNode 68 = .ok (.if_icmp .eq 14, 3) := by decide +kernel
theorem dX1_listOfNode_71 : decode cX1_listOfNode 71 = .ok (.aload_n 0, 1) := by decide +kernel
theorem dX1_listOfNode_72 : decode cX1_listOfNode 72 = .ok (.iload_n 1, 1) := by decide +kernel
theorem dX1_listOfNode_73 : decode cX1_listOfNode 73 = .ok (.aload_n 3, 1) := by decide +kernel
theorem dX1_listOfNode_74 : decode cX1_listOfNode 74 = .ok (.iload 4, 2) := by decide +kernel
theorem dX1_listOfNode_76 : decode cX1_listOfNode 76 = .ok (.invokevirtual 64, 3) := by decide +kernel
theorem dX1_listOfNode_79 : decode cX1_listOfNode 79 = .ok (.invokevirtual 51, 3) := by decide +kernel
theorem dX1_listOfNode_82 : decode cX1_listOfNode 82 = .ok (.iinc 4 1, 3) := by decide +kernel
theorem dX1_listOfNode_85 : decode cX1_listOfNode 85 = .ok (.goto (-33), 3) := by decide +kernel
theorem dX1_listOfNode_88 : decode cX1_listOfNode 88 = .ok (.return_, 1) := by decide +kernel
set_option maxRecDepth 20000 in
theorem ggX1_kindOf_J0_indexOf_0f7a4 : GoodIn wsX1_kindOf wsJ0_indexOf_0f7a4 := goodIn_r _ [5, 6, 7, 8, 4, 9, 10, 11, 12, 13, 14, 15, 16, 17, 18, 19, 20, 21, 22, 23, 24, 25, 26, 27, 28, 29, 30, 31, 32, 33, 34, 35, 36, 37, 38, 39, 40, 41, 42, 43, 44, 45, 46, 47, 48, 49, 50, 51, 52, 53, 54, 55, 56, 57, 58, 59, 60, 61, 62, 63, 64, 65, 66, 67, 68, 69, 70, 71, 72, 73, 74, 75, 76, 77, 78, 79, 80, 81, 82, 83, 84, 85, 86, 87, 88, 89] (by decide +kernel) (by decide +kernel)
set_option maxRecDepth 20000 in
theorem gX1_kindOf_J0_indexOf_0f7a4 : GoodIn wsX1_kindOf (wsV RX1 70 RJ0 yJ0_indexOf_0f7a4 wsJ0_indexOf_0f7a4) := goodIn_app (goodIn_of _ (by decide +kernel)) ggX1_kindOf_J0_indexOf_0f7a4
theorem dX1_kindOf_0 : decode cX1_kindOf 0 = .ok (.ldc 68, 2) := by decide +kernel
theorem dX1_kindOf_2 : decode cX1_kindOf 2 = .ok (.iload_n 0, 1) := by decide +kernel
theorem dX1_kindOf_3 : decode cX1_kindOf 3 = .ok (.i2c, 1) := by decide +kernel
theorem dX1_kindOf_4 : decode cX1_kindOf 4 = .ok (.invokevirtual 70, 3) := by decide +kernel
theorem dX1_kindOf_7 : decode cX1_kindOf 7 = .ok (.ifCond .lt 6, 3) := by decide +kernel
theorem dX1_kindOf_10 : decode cX1_kindOf 10 = .ok (.ldc 68, 2) := by decide +kernel
theorem dX1_kindOf_12 : decode cX1_kindOf 12 = .ok (.areturn, 1) := by decide +kernel
theorem dX1_kindOf_13 : decode cX1_kindOf 13 = .ok (.ldc 74, 2) := by decide +kernel
theorem dX1_kindOf_15 : decode cX1_kindOf 15 = .ok (.iload_n 0, 1) := by decide +kernel
theorem dX1_kindOf_16 : decode cX1_kindOf 16 = .ok (.i2c, 1) := by decide +kernel
theorem dX1_kindOf_17 : decode cX1_kindOf 17 = .ok (.invokevirtual 70, 3) := by decide +kernel
theorem dX1_kindOf_20 : decode cX1_kindOf 20 = .ok (.ifCond .lt 8, 3) := by decide +kernel
theorem dX1_kindOf_23 : decode cX1_kindOf 23 = .ok (.ldc 74, 2) := by decide +kernel
theorem dX1_kindOf_25 : decode cX1_kindOf 25 = .ok (.goto 5, 3) := by decide +kernel
theorem dX1_kindOf_28 : decode cX1_kindOf 28 = .ok (.ldc 76, 2) := by decide +kernel
theorem dX1_kindOf_30 : decode cX1_kindOf 30 = .ok (.areturn, 1) := by decide +kernel
theorem dX1_append_0 : decode cX1_append 0 = .ok (.aload_n 0, 1) := by decide +kernel
theorem dX1_append_1 : decode cX1_append 1 = .ok (.getfield 21, 3) := by decide +kernel
theorem dX1_append_4 : decode cX1_append 4 = .ok (.bipush 96, 2) := by decide +kernel
theorem dX1_append_6 : decode cX1_append 6 = .ok (.if_icmp .ge 33, 3) := by decide +kernel
theorem dX1_append_9 : decode cX1_append 9 = .ok (.aload_n 0, 1) := by decide +kernel
theorem dX1_append_10 : decode cX1_append 10 = .ok (.getfield 9, 3) := by decide +kernel
theorem dX1_append_13 : decode cX1_append 13 = .ok (.aload_n 0, 1) := by decide +kernel
theorem dX1_append_14 : decode cX1_append 14 = .ok (.getfield 21, 3) := by decide +kernel
theorem dX1_append_17 : decode cX1_append 17 = .ok (.iload_n 1, 1) := by decide +kernel
theorem dX1_append_18 : decode cX1_append 18 = .ok (.iastore, 1) := by decide +kernel
theorem dX1_append_19 : decode cX1_append 19 = .ok (.aload_n 0, 1) := by decide +kernel
theorem dX1_append_20 : decode cX1_append 20 = .ok (.getfield 15, 3) := by decide +kernel
theorem dX1_append_23 : decode cX1_append 23 = .ok (.aload_n 0, 1) := by decide +kernel
theorem dX1_append_24 : decode cX1_append 24 = .ok (.getfield 21, 3) := by decide +kernel
theorem dX1_append_27 : decode cX1_append 27 = .ok (.iload_n 2, 1) := by decide +kernel
theorem dX1_append_28 : decode cX1_append 28 = .ok (.iastore, 1) := by decide +kernel
theorem dX1_append_29 : decode cX1_append 29 = .ok (.aload_n 0, 1) := by decide +kernel
theorem dX1_append_30 : decode cX1_append 30 = .ok (.dup, 1) := by decide +kernel
theorem dX1_append_31 : decode cX1_append 31 = .ok (.getfield 21, 3) := by decide +kernel
theorem dX1_append_34 : decode cX1_append 34 = .ok (.iconst 1, 1) := by decide +kernel
theorem dX1_append_35 : decode cX1_append 35 = .ok (.iadd, 1) := by decide +kernel
theorem dX1_append_36 : decode cX1_append 36 = .ok (.putfield 21, 3) := by decide +kernel
theorem dX1_append_39 : decode cX1_append 39 = .ok (.return_, 1) := by decide +kernel
theorem dX1_silentOnes_0 : decode cX1_silentOnes 0 = .ok (.iconst 0, 1) := by decide +kernel
theorem dX1_silentOnes_1 : decode cX1_silentOnes 1 = .ok (.istore_n 1, 1) := by decide +kernel
theorem dX1_silentOnes_2 : decode cX1_silentOnes 2 = .ok (.iconst 0, 1) := by decide +kernel
theorem dX1_silentOnes_3 : decode cX1_silentOnes 3 = .ok (.istore_n 2, 1) := by decide +kernel
theorem dX1_silentOnes_4 : decode cX1_silentOnes 4 = .ok (.iload_n 2, 1) := by decide +kernel
theorem dX1_silentOnes_5 : decode cX1_silentOnes 5 = .ok (.aload_n 0, 1) := by decide +kernel
theorem dX1_silentOnes_6 : decode cX1_silentOnes 6 = .ok (.getfield 21, 3) := by decide +kernel
theorem dX1_silentOnes_9 : decode cX1_silentOnes 9 = .ok (.if_icmp .ge 26, 3) := by decide +kernel
theorem dX1_silentOnes_12 : decode cX1_silentOnes 12 = .ok (.iload_n 1, 1) := by decide +kernel
theorem dX1_silentOnes_13 : decode cX1_silentOnes 13 = .ok (.aload_n 0, 1) := by decide +kernel
theorem dX1_silentOnes_14 : decode cX1_silentOnes 14 = .ok (.getfield 18, 3) := by decide +kernel
theorem dX1_silentOnes_17 : decode cX1_silentOnes 17 = .ok (.iload_n 2, 1) := by decide +kernel
theorem dX1_silentOnes_18 : decode cX1_silentOnes 18 = .ok (.iaload, 1) := by decide +kernel
theorem dX1_silentOnes_19 : decode cX1_silentOnes 19 = .ok (.ifCond .ne 7, 3) := by decide +kernel
theorem dX1_silentOnes_22 : decode cX1_silentOnes 22 = .ok (.iconst 1, 1) := by decide +kernel
theorem dX1_silentOnes_23 : decode cX1_silentOnes 23 = .ok (.goto 4, 3) := by decide +kernel
theorem dX1_silentOnes_26 : decode cX1_silentOnes 26 = .ok (.iconst 0, 1) := by decide +kernel
theorem dX1_silentOnes_27 : decode cX1_silentOnes 27 = .ok (.iadd, 1) := by decide +kernel
theorem dX1_silentOnes_28 : decode cX1_silentOnes 28 = .ok (.istore_n 1, 1) := by decide +kernel
theorem dX1_silentOnes_29 : decode cX1_silentOnes 29 = .ok (.iinc 2 1, 3) := by decide +kernel
theorem dX1_silentOnes_32 : decode cX1_silentOnes 32 = .ok (.goto (-28), 3) := by decide +kernel
theorem dX1_silentOnes_35 : decode cX1_silentOnes 35 = .ok (.iload_n 1, 1) := by decide +kernel
theorem dX1_silentOnes_36 : decode cX1_silentOnes 36 = .ok (.ireturn, 1) := by decide +kernel
theorem dX2_init_0 : decode cX2_init 0 = .ok (.aload_n 0, 1) := by decide +kernel
theorem dX2_init_1 : decode cX2_init 1 = .ok (.invokespecial 3, 3) := by decide +kernel
theorem dX2_init_4 : decode cX2_init 4 = .ok (.aload_n 0, 1) := by decide +kernel
theorem dX2_init_5 : decode cX2_init 5 = .ok (.iconst 1, 1) := by decide +kernel
theorem dX2_init_6 : decode cX2_init 6 = .ok (.newarray .int, 2) := by decide +kernel
theorem dX2_init_8 : decode cX2_init 8 = .ok (.putfield 9, 3) := by decide +kernel
theorem dX2_init_11 : decode cX2_init 11 = .ok (.aload_n 0, 1) := by decide +kernel
theorem dX2_init_12 : decode cX2_init 12 = .ok (.bipush 14, 2) := by decide +kernel
theorem dX2_init_14 : decode cX2_init 14 = .ok (.newarray .int, 2) := by decide +kernel
theorem dX2_init_16 : decode cX2_init 16 = .ok (.putfield 15, 3) := by decide +kernel
theorem dX2_init_19 : decode cX2_init 19 = .ok (.aload_n 0, 1) := by decide +kernel
theorem dX2_init_20 : decode cX2_init 20 = .ok (.iconst 0, 1) := by decide +kernel
theorem dX2_init_21 : decode cX2_init 21 = .ok (.putfield 18, 3) := by decide +kernel
theorem dX2_init_24 : decode cX2_init 24 = .ok (.aload_n 0, 1) := by decide +kernel
theorem dX2_init_25 : decode cX2_init 25 = .ok (.iconst 0, 1) := by decide +kernel
theorem dX2_init_26 : decode cX2_init 26 = .ok (.putfield 22, 3) := by decide +kernel
theorem dX2_init_29 : decode cX2_init 29 = .ok (.aload_n 0, 1) := by decide +kernel
theorem dX2_init_30 : decode cX2_init 30 = .ok (.iconst 0, 1) := by decide +kernel
theorem dX2_init_31 : decode cX2_init 31 = .ok (.putfield 25, 3) := by decide +kernel
theorem dX2_init_34 : decode cX2_init 34 = .ok (.aload_n 0, 1) := by decide +kernel
theorem dX2_init_35 : decode cX2_init 35 = .ok (.aload_n 1, 1) := by decide +kernel
theorem dX2_init_36 : decode cX2_init 36 = .ok (.putfield 29, 3) := by decide +kernel
theorem dX2_init_39 : decode cX2_init 39 = .ok (.aload_n 0, 1) := by decide +kernel
theorem dX2_init_40 : decode cX2_init 40 = .ok (.aload_n 2, 1) := by decide +kernel
theorem dX2_init_41 : decode cX2_init 41 = .ok (.putfield 33, 3) := by decide +kernel
theorem dX2_init_44 : decode cX2_init 44 = .ok (.aload_n 0, 1) := by decide +kernel
theorem dX2_init_45 : decode cX2_init 45 = .ok (.aload_n 3, 1) := by decide +kernel
theorem dX2_init_46 : decode cX2_init 46 = .ok (.putfield 37, 3) := by decide +kernel
theorem dX2_init_49 : decode cX2_init 49 = .ok (.return_, 1) := by decide +kernel
theorem dX2_forget_0 : decode cX2_forget 0 = .ok (.aload_n 0, 1) := by decide +kernel
theorem dX2_forget_1 : decode cX2_forget 1 = .ok (.iconst 0, 1) := by decide +kernel
theorem dX2_forget_2 : decode cX2_forget 2 = .ok (.putfield 25, 3) := by decide +kernel
theorem dX2_forget_5 : decode cX2_forget 5 = .ok (.return_, 1) := by decide +kernel
set_option maxRecDepth 20000 in
theorem ggX2_leastSet_X2_settle : GoodIn wsX2_leastSet wsX2_settle := goodIn_r _ [6, 7, 8, 9, 10, 11, 12, 13, 14, 5, 15, 16, 17, 18, 19, 20, 21, 22, 23, 24, 25, 26, 27, 28, 29, 30, 31, 32, 1, 33, 34, 35, 36, 37, 38, 39, 40, 41, 42, 43, 44, 45, 46, 47, 48, 49, 50, 51, 52, 53, 54, 55, 56, 57, 58, 59, 60, 61, 62, 63, 64, 65, 66, 67, 68, 69] (by decide +kernel) (by decide +kernel)
set_option maxRecDepth 20000 in
theorem gX2_leastSet_X2_settle : GoodIn wsX2_leastSet (wsV RX2 41 RX2 yX2_settle wsX2_settle) := goodIn_app (goodIn_of _ (by decide +kernel)) ggX2_leastSet_X2_settle
theorem dX2_leastSet_0 : decode cX2_leastSet 0 = .ok (.aload_n 0, 1) := by decide +kernel
theorem dX2_leastSet_1 : decode cX2_leastSet 1 = .ok (.invokevirtual 41, 3) := by decide +kernel
theorem dX2_leastSet_4 : decode cX2_leastSet 4 = .ok (.aload_n 0, 1) := by decide +kernel
theorem dX2_leastSet_5 : decode cX2_leastSet 5 = .ok (.getfield 22, 3) := by decide +kernel
theorem dX2_leastSet_8 : decode cX2_leastSet 8 = .ok (.ireturn, 1) := by decide +kernel
set_option maxRecDepth 20000 in
theorem ggX2_leastSum_X2_settle : GoodIn wsX2_leastSum wsX2_settle := goodIn_r _ [6, 7, 8, 9, 10, 11, 12, 13, 14, 5, 15, 16, 17, 18, 19, 20, 21, 22, 23, 24, 25, 26, 27, 28, 29, 30, 31, 32, 33, 34, 35, 36, 37, 38, 39, 40, 41, 42, 43, 44, 1, 45, 46, 47, 48, 49, 50, 51, 52, 53, 54, 55, 56, 57, 58, 59, 60, 61, 62, 63, 64, 65, 66, 67, 68, 69] (by decide +kernel) (by decide +kernel)
set_option maxRecDepth 20000 in
theorem gX2_leastSum_X2_settle : GoodIn wsX2_leastSum (wsV RX2 41 RX2 yX2_settle wsX2_settle) := goodIn_app (goodIn_of _ (by decide +kernel)) ggX2_leastSum_X2_settle
theorem dX2_leastSum_0 : decode cX2_leastSum 0 = .ok (.aload_n 0, 1) := by decide +kernel
theorem dX2_leastSum_1 : decode cX2_leastSum 1 = .ok (.invokevirtual 41, 3) := by decide +kernel
theorem dX2_leastSum_4 : decode cX2_leastSum 4 = .ok (.aload_n 0, 1) := by decide +kernel
theorem dX2_leastSum_5 : decode cX2_leastSum 5 = .ok (.getfield 18, 3) := by decide +kernel
theorem dX2_leastSum_8 : decode cX2_leastSum 8 = .ok (.ireturn, 1) := by decide +kernel
set_option maxRecDepth 20000 in
theorem ggX2_testAtPlace_X2_settle : GoodIn wsX2_testAtPlace wsX2_settle := goodIn_r _ [6, 7, 8, 9, 10, 11, 12, 13, 14, 5, 15, 16, 17, 18, 19, 20, 21, 22, 23, 24, 25, 26, 27, 28, 29, 30, 31, 32, 33, 34, 35, 36, 37, 38, 39, 40, 41, 42, 43, 44, 45, 1, 46, 47, 48, 49, 50, 51, 52, 53, 54, 55, 56, 57, 58, 59, 60, 61, 62, 63, 64, 65, 66, 67, 68, 69] (by decide +kernel) (by decide +kernel)
set_option maxRecDepth 20000 in
theorem gX2_testAtPlace_X2_settle : GoodIn wsX2_testAtPlace (wsV RX2 41 RX2 yX2_settle wsX2_settle) := goodIn_app (goodIn_of _ (by decide +kernel)) ggX2_testAtPlace_X2_settle
theorem dX2_testAtPlace_0 : decode cX2_testAtPlace 0 = .ok (.aload_n 0, 1) := by decide +kernel
theorem dX2_testAtPlace_1 : decode cX2_testAtPlace 1 = .ok (.invokevirtual 41, 3) := by decide +kernel
theorem dX2_testAtPlace_4 : decode cX2_testAtPlace 4 = .ok (.aload_n 0, 1) := by decide +kernel
theorem dX2_testAtPlace_5 : decode cX2_testAtPlace 5 = .ok (.getfield 15, 3) := by decide +kernel
theorem dX2_testAtPlace_8 : decode cX2_testAtPlace 8 = .ok (.iload_n 1, 1) := by decide +kernel
theorem dX2_testAtPlace_9 : decode cX2_testAtPlace 9 = .ok (.iaload, 1) := by decide +kernel
theorem dX2_testAtPlace_10 : decode cX2_testAtPlace 10 = .ok (.ireturn, 1) := by decide +kernel
set_option maxRecDepth 20000 in
theorem ggX2_settle_X2_countWaiting : GoodIn wsX2_settle wsX2_countWaiting := goodIn_r _ [10, 4, 11, 12, 13, 14, 2, 3, 42, 43, 44, 45, 46, 47, 48, 49, 54, 55, 56, 57, 58, 59, 60, 61, 62, 63, 64, 65, 50, 51, 52, 53] (by decide +kernel) (by decide +kernel)
set_option maxRecDepth 20000 in
theorem gX2_settle_X2_countWaiting : GoodIn wsX2_settle (wsV RX2 49 RX2 yX2_countWaiting wsX2_countWaiting) := goodIn_app (goodIn_of _ (by decide +kernel)) ggX2_settle_X2_countWaiting
set_option maxRecDepth 20000 in
theorem ggX2_settle_X2_addLaterTurns : GoodIn wsX2_settle wsX2_addLaterTurns := goodIn_r _ [18, 4, 19, 20, 21, 9, 22, 23, 2, 3, 42, 43, 44, 45, 46, 47, 48, 49, 50, 51, 52, 53] (by decide +kernel) (by decide +kernel)
set_option maxRecDepth 20000 in
theorem gX2_settle_X2_addLaterTurns : GoodIn wsX2_settle (wsV RX2 53 RX2 yX2_addLaterTurns wsX2_addLaterTurns) := goodIn_app (goodIn_of _ (by decide +kernel)) ggX2_settle_X2_addLaterTurns
set_option maxRecDepth 20000 in
theorem ggX2_settle_X2_findSet : GoodIn wsX2_settle wsX2_findSet := goodIn_r _ [27, 28, 4, 29, 30, 31, 32, 33, 34, 35, 42, 43, 44, 45, 46, 47, 48, 49] (by decide +kernel) (by decide +kernel)
set_option maxRecDepth 20000 in
theorem gX2_settle_X2_findSet : GoodIn wsX2_settle (wsV RX2 56 RX2 yX2_findSet wsX2_findSet) := goodIn_app (goodIn_of _ (by decide +kernel)) ggX2_settle_X2_findSet
set_option maxRecDepth 20000 in
theorem ggX2_settle_X2_findOrder : GoodIn wsX2_settle wsX2_findOrder := goodIn_r _ [39, 40, 2, 3, 41, 4, 19, 20, 21, 9, 22, 23, 42, 43, 44, 45, 46, 47, 48, 49, 50, 51, 52, 53] (by decide +kernel) (by decide +kernel)
set_option maxRecDepth 20000 in
theorem gX2_settle_X2_findOrder : GoodIn wsX2_settle (wsV RX2 59 RX2 yX2_findOrder wsX2_findOrder) := goodIn_app (goodIn_of _ (by decide +kernel)) ggX2_settle_X2_findOrder
theorem dX2_settle_0 : decode cX2_settle 0 = .ok (.aload_n 0, 1) := by decide +kernel
theorem dX2_settle_1 : decode cX2_settle 1 = .ok (.getfield 25, 3) := by decide +kernel
theorem dX2_settle_4 : decode cX2_settle 4 = .ok (.ifCond .eq 4, 3) := by decide +kernel
theorem dX2_settle_7 : decode cX2_settle 7 = .ok (.return_, 1) := by decide +kernel
theorem dX2_settle_8 : decode cX2_settle 8 = .ok (.iconst 1, 1) := by decide +kernel
theorem dX2_settle_9 : decode cX2_settle 9 = .ok (.aload_n 0, 1) := by decide +kernel
theorem dX2_settle_10 : decode cX2_settle 10 = .ok (.getfield 33, 3) := by decide +kernel
theorem dX2_settle_13 : decode cX2_settle 13 = .ok (.getfield 44, 3) := by decide +kernel
theorem dX2_settle_16 : decode cX2_settle 16 = .ok (.ishl, 1) := by decide +kernel
theorem dX2_settle_17 : decode cX2_settle 17 = .ok (.istore_n 1, 1) := by decide +kernel
theorem dX2_settle_18 : decode cX2_settle 18 = .ok (.aload_n 0, 1) := by decide +kernel
theorem dX2_settle_19 : decode cX2_settle 19 = .ok (.getfield 9, 3) := by decide +kernel
theorem dX2_settle_22 : decode cX2_settle 22 = .ok (.arraylength, 1) := by decide +kernel
theorem dX2_settle_23 : decode cX2_settle 23 = .ok (.iload_n 1, 1) := by decide +kernel
theorem dX2_settle_24 : decode cX2_settle 24 = .ok (.if_icmp .ge 10, 3) := by decide +kernel
theorem dX2_settle_27 : decode cX2_settle 27 = .ok (.aload_n 0, 1) := by decide +kernel
theorem dX2_settle_28 : decode cX2_settle 28 = .ok (.iload_n 1, 1) := by decide +kernel
theorem dX2_settle_29 : decode cX2_settle 29 = .ok (.newarray .int, 2) := by decide +kernel
theorem dX2_settle_31 : decode cX2_settle 31 = .ok (.putfield 9, 3) := by decide +kernel
theorem dX2_settle_34 : decode cX2_settle 34 = .ok (.aload_n 0, 1) := by decide +kernel
theorem dX2_settle_35 : decode cX2_settle 35 = .ok (.iload_n 1, 1) := by decide +kernel
theorem dX2_settle_36 : decode cX2_settle 36 = .ok (.invokevirtual 49, 3) := by decide +kernel
theorem dX2_settle_39 : decode cX2_settle 39 = .ok (.aload_n 0, 1) := by decide +kernel
theorem dX2_settle_40 : decode cX2_settle 40 = .ok (.iload_n 1, 1) := by decide +kernel
theorem dX2_settle_41 : decode cX2_settle 41 = .ok (.invokevirtual 53, 3) := by decide +kernel
theorem dX2_settle_44 : decode cX2_settle 44 = .ok (.aload_n 0, 1) := by decide +kernel
theorem dX2_settle_45 : decode cX2_settle 45 = .ok (.iload_n 1, 1) := by decide +kernel
theorem dX2_settle_46 : decode cX2_settle 46 = .ok (.invokevirtual 56, 3) := by decide +kernel
theorem dX2_settle_49 : decode cX2_settle 49 = .ok (.aload_n 0, 1) := by decide +kernel
theorem dX2_settle_50 : decode cX2_settle 50 = .ok (.iload_n 1, 1) := by decide +kernel
theorem dX2_settle_51 : decode cX2_settle 51 = .ok (.invokevirtual 59, 3) := by decide +kernel
theorem dX2_settle_54 : decode cX2_settle 54 = .ok (.aload_n 0, 1) := by decide +kernel
theorem dX2_settle_55 : decode cX2_settle 55 = .ok (.iconst 1, 1) := by decide +kernel
theorem dX2_settle_56 : decode cX2_settle 56 = .ok (.putfield 25, 3) := by decide +kernel
theorem dX2_settle_59 : decode cX2_settle 59 = .ok (.return_, 1) := by decide +kernel
theorem dX2_countWaiting_0 : decode cX2_countWaiting 0 = .ok (.iconst 0, 1) := by decide +kernel
theorem dX2_countWaiting_1 : decode cX2_countWaiting 1 = .ok (.istore_n 2, 1) := by decide +kernel
theorem dX2_countWaiting_2 : decode cX2_countWaiting 2 = .ok (.iload_n 2, 1) := by decide +kernel
theorem dX2_countWaiting_3 : decode cX2_countWaiting 3 = .ok (.iload_n 1, 1) := by decide +kernel
theorem dX2_countWaiting_4 : decode cX2_countWaiting 4 = .ok (.if_icmp .ge 16, 3) := by decide +kernel
theorem dX2_countWaiting_7 : decode cX2_countWaiting 7 = .ok (.aload_n 0, 1) := by decide +kernel
theorem dX2_countWaiting_8 : decode cX2_countWaiting 8 = .ok (.getfield 9, 3) := by decide +kernel
theorem dX2_countWaiting_11 : decode cX2_countWaiting 11 = .ok (.iload_n 2, 1) := by decide +kernel
theorem dX2_countWaiting_12 : decode cX2_countWaiting 12 = .ok (.iconst 0, 1) := by decide +kernel
theorem dX2_countWaiting_13 : decode cX2_countWaiting 13 = .ok (.iastore, 1) := by decide +kernel
theorem dX2_countWaiting_14 : decode cX2_countWaiting 14 = .ok (.iinc 2 1, 3) := by decide +kernel
theorem dX2_countWaiting_17 : decode cX2_countWaiting 17 = .ok (.goto (-15), 3) := by decide +kernel
theorem dX2_countWaiting_20 : decode cX2_countWaiting 20 = .ok (.iconst 0, 1) := by decide +kernel
theorem dX2_countWaiting_21 : decode cX2_countWaiting 21 = .ok (.istore_n 2, 1) := by decide +kernel
theorem dX2_countWaiting_22 : decode cX2_countWaiting 22 = .ok (.iload_n 2, 1) := by decide +kernel
theorem dX2_countWaiting_23 : decode cX2_countWaiting 23 = .ok (.aload_n 0, 1) := by decide +kernel
theorem dX2_countWaiting_24 : decode cX2_countWaiting 24 = .ok (.getfield 29, 3) := by decide +kernel
theorem dX2_countWaiting_27 : decode cX2_countWaiting 27 = .ok (.getfield 62, 3) := by decide +kernel
theorem dX2_countWaiting_30 : decode cX2_countWaiting 30 = .ok (.if_icmp .ge 38, 3) := by decide +kernel
theorem dX2_countWaiting_33 : decode cX2_countWaiting 33 = .ok (.aload_n 0, 1) := by decide +kernel
theorem dX2_countWaiting_34 : decode cX2_countWaiting 34 = .ok (.getfield 37, 3) := by decide +kernel
theorem dX2_countWaiting_37 : decode cX2_countWaiting 37 = .ok (.getfield 65, 3) := by decide +kernel
theorem dX2_countWaiting_40 : decode cX2_countWaiting 40 = .ok (.iload_n 2, 1) := by decide +kernel
theorem dX2_countWaiting_41 : decode cX2_countWaiting 41 = .ok (.iaload, 1) := by decide +kernel
theorem dX2_countWaiting_42 : decode cX2_countWaiting 42 = .ok (.istore_n 3, 1) := by decide +kernel
theorem dX2_countWaiting_43 : decode cX2_countWaiting 43 = .ok (.iload_n 3, 1) := by decide +kernel
theorem dX2_countWaiting_44 : decode cX2_countWaiting 44 = .ok (.ifCond .eq 18, 3) := by decide +kernel
theorem dX2_countWaiting_47 : decode cX2_countWaiting 47 = .ok (.iload_n 3, 1) := by decide +kernel
theorem dX2_countWaiting_48 : decode cX2_countWaiting 48 = .ok (.iload_n 1, 1) := by decide +kernel
theorem dX2_countWaiting_49 : decode cX2_countWaiting 49 = .ok (.if_icmp .ge 13, 3) := by decide +kernel
theorem dX2_countWaiting_52 : decode cX2_countWaiting 52 = .ok (.aload_n 0, 1) := by decide +kernel
theorem dX2_countWaiting_53 : decode cX2_countWaiting 53 = .ok (.getfield 9, 3) := by decide +kernel
theorem dX2_countWaiting_56 : decode cX2_countWaiting 56 = .ok (.iload_n 3, 1) := by decide +kernel
theorem dX2_countWaiting_57 : decode cX2_countWaiting 57 = .ok (.dup2, 1) := by decide +kernel
theorem dX2_countWaiting_58 : decode cX2_countWaiting 58 = .ok (.iaload, 1) := by decide +kernel
theorem dX2_countWaiting_59 : decode cX2_countWaiting 59 = .ok (.iconst 1, 1) := by decide +kernel
theorem dX2_countWaiting_60 : decode cX2_countWaiting 60 = .ok (.iadd, 1) := by decide +kernel
theorem dX2_countWaiting_61 : decode cX2_countWaiting 61 = .ok (.iastore, 1) := by decide +kernel
theorem dX2_countWaiting_62 : decode cX2_countWaiting 62 = .ok (.iinc 2 1, 3) := by decide +kernel
theorem dX2_countWaiting_65 : decode cX2_countWaiting 65 = .ok (.goto (-43), 3) := by decide +kernel
theorem dX2_countWaiting_68 : decode cX2_countWaiting 68 = .ok (.iconst 0, 1) := by decide +kernel
theorem dX2_countWaiting_69 : decode cX2_countWaiting 69 = .ok (.istore_n 2, 1) := by decide +kernel
theorem dX2_countWaiting_70 : decode cX2_countWaiting 70 = .ok (.iload_n 2, 1) := by decide +kernel
theorem dX2_countWaiting_71 : decode cX2_countWaiting 71 = .ok (.aload_n 0, 1) := by decide +kernel
theorem dX2_countWaiting_72 : decode cX2_countWaiting 72 = .ok (.getfield 33, 3) := by decide +kernel
theorem dX2_countWaiting_75 : decode cX2_countWaiting 75 = .ok (.getfield 44, 3) := by decide +kernel
theorem dX2_countWaiting_78 : decode cX2_countWaiting 78 = .ok (.if_icmp .ge 54, 3) := by decide +kernel
theorem dX2_countWaiting_81 : decode cX2_countWaiting 81 = .ok (.iconst 1, 1) := by decide +kernel
theorem dX2_countWaiting_82 : decode cX2_countWaiting 82 = .ok (.iload_n 2, 1) := by decide +kernel
theorem dX2_countWaiting_83 : decode cX2_countWaiting 83 = .ok (.ishl, 1) := by decide +kernel
theorem dX2_countWaiting_84 : decode cX2_countWaiting 84 = .ok (.istore_n 3, 1) := by decide +kernel
theorem dX2_countWaiting_85 : decode cX2_countWaiting 85 = .ok (.iload_n 3, 1) := by decide +kernel
theorem dX2_countWaiting_86 : decode cX2_countWaiting 86 = .ok (.istore 4, 2) := by decide +kernel
theorem dX2_countWaiting_88 : decode cX2_countWaiting 88 = .ok (.iload 4, 2) := by decide +kernel
theorem dX2_countWaiting_90 : decode cX2_countWaiting 90 = .ok (.iload_n 1, 1) := by decide +kernel
theorem dX2_countWaiting_91 : decode cX2_countWaiting 91 = .ok (.if_icmp .ge 35, 3) := by decide +kernel
theorem dX2_countWaiting_94 : decode cX2_countWaiting 94 = .ok (.iload 4, 2) := by decide +kernel
theorem dX2_countWaiting_96 : decode cX2_countWaiting 96 = .ok (.iload_n 3, 1) := by decide +kernel
theorem dX2_countWaiting_97 : decode cX2_countWaiting 97 = .ok (.iand, 1) := by decide +kernel
theorem dX2_countWaiting_98 : decode cX2_countWaiting 98 = .ok (.ifCond .eq 22, 3) := by decide +kernel
theorem dX2_countWaiting_101 : decode cX2_countWaiting 101 = .ok (.aload_n 0, 1) := by decide +kernel
theorem dX2_countWaiting_102 : decode cX2_countWaiting 102 = .ok (.getfield 9, 3) := by decide +kernel
theorem dX2_countWaiting_105 : decode cX2_countWaiting 105 = .ok (.iload 4, 2) := by decide +kernel
theorem dX2_countWaiting_107 : decode cX2_countWaiting 107 = .ok (.dup2, 1) := by decide +kernel
theorem dX2_countWaiting_108 : decode cX2_countWaiting 108 = .ok (.iaload, 1) := by decide +kernel
theorem dX2_countWaiting_109 : decode cX2_countWaiting 109 = .ok (.aload_n 0, 1) := by decide +kernel
theorem dX2_countWaiting_110 : decode cX2_countWaiting 110 = .ok (.getfield 9, 3) := by decide +kernel
theorem dX2_countWaiting_113 : decode cX2_countWaiting 113 = .ok (.iload 4, 2) := by decide +kernel
theorem dX2_countWaiting_115 : decode cX2_countWaiting 115 = .ok (.iload_n 3, 1) := by decide +kernel
theorem dX2_countWaiting_116 : decode cX2_countWaiting 116 = .ok (.ixor, 1) := by decide +kernel
theorem dX2_countWaiting_117 : decode cX2_countWaiting 117 = .ok (.iaload, 1) := by decide +kernel
theorem dX2_countWaiting_118 : decode cX2_countWaiting 118 = .ok (.iadd, 1) := by decide +kernel
theorem dX2_countWaiting_119 : decode cX2_countWaiting 119 = .ok (.iastore, 1) := by decide +kernel
theorem dX2_countWaiting_120 : decode cX2_countWaiting 120 = .ok (.iinc 4 1, 3) := by decide +kernel
theorem dX2_countWaiting_123 : decode cX2_countWaiting 123 = .ok (.goto (-35), 3) := by decide +kernel
theorem dX2_countWaiting_126 : decode cX2_countWaiting 126 = .ok (.iinc 2 1, 3) := by decide +kernel
theorem dX2_countWaiting_129 : decode cX2_countWaiting 129 = .ok (.goto (-59), 3) := by decide +kernel
theorem dX2_countWaiting_132 : decode cX2_countWaiting 132 = .ok (.return_, 1) := by decide +kernel
set_option maxRecDepth 20000 in
theorem ggX2_addLaterTurns_X2_bestTurn : GoodIn wsX2_addLaterTurns wsX2_bestTurn := goodIn_r _ [6, 7, 8, 9, 1, 10, 11, 12, 13, 14, 15, 16, 17, 18, 19, 20, 21] (by decide +kernel) (by decide +kernel)
set_option maxRecDepth 20000 in
theorem gX2_addLaterTurns_X2_bestTurn : GoodIn wsX2_addLaterTurns (wsV RX2 70 RX2 yX2_bestTurn wsX2_bestTurn) := goodIn_app (goodIn_of _ (by decide +kernel)) ggX2_addLaterTurns_X2_bestTurn
theorem dX2_addLaterTurns_0 : decode cX2_addLaterTurns 0 = .ok (.iconst 1, 1) := by decide +kernel
theorem dX2_addLaterTurns_1 : decode cX2_addLaterTurns 1 = .ok (.istore_n 2, 1) := by decide +kernel
theorem dX2_addLaterTurns_2 : decode cX2_addLaterTurns 2 = .ok (.iload_n 2, 1) := by decide +kernel
theorem dX2_addLaterTurns_3 : decode cX2_addLaterTurns 3 = .ok (.iload_n 1, 1) := by decide +kernel
theorem dX2_addLaterTurns_4 : decode cX2_addLaterTurns 4 = .ok (.if_icmp .ge 32, 3) := by decide +kernel
theorem dX2_addLaterTurns_7 : decode cX2_addLaterTurns 7 = .ok (.aload_n 0, 1) := by decide +kernel
theorem dX2_addLaterTurns_8 : decode cX2_addLaterTurns 8 = .ok (.getfield 9, 3) := by decide +kernel
theorem dX2_addLaterTurns_11 : decode cX2_addLaterTurns 11 = .ok (.iload_n 2, 1) := by decide +kernel
theorem dX2_addLaterTurns_12 : decode cX2_addLaterTurns 12 = .ok (.dup2, 1) := by decide +kernel
theorem dX2_addLaterTurns_13 : decode cX2_addLaterTurns 13 = .ok (.iaload, 1) := by decide +kernel
theorem dX2_addLaterTurns_14 : decode cX2_addLaterTurns 14 = .ok (.aload_n 0, 1) := by decide +kernel
theorem dX2_addLaterTurns_15 : decode cX2_addLaterTurns 15 = .ok (.getfield 9, 3) := by decide +kernel
theorem dX2_addLaterTurns_18 : decode cX2_addLaterTurns 18 = .ok (.iload_n 2, 1) := by decide +kernel
theorem dX2_addLaterTurns_19 : decode cX2_addLaterTurns 19 = .ok (.iconst 1, 1) := by decide +kernel
theorem dX2_addLaterTurns_20 : decode cX2_addLaterTurns 20 = .ok (.aload_n 0, 1) := by decide +kernel
theorem dX2_addLaterTurns_21 : decode cX2_addLaterTurns 21 = .ok (.iload_n 2, 1) := by decide +kernel
theorem dX2_addLaterTurns_22 : decode cX2_addLaterTurns 22 = .ok (.invokevirtual 70, 3) := by decide +kernel
theorem dX2_addLaterTurns_25 : decode cX2_addLaterTurns 25 = .ok (.ishl, 1) := by decide +kernel
theorem dX2_addLaterTurns_26 : decode cX2_addLaterTurns 26 = .ok (.ixor, 1) := by decide +kernel
theorem dX2_addLaterTurns_27 : decode cX2_addLaterTurns 27 = .ok (.iaload, 1) := by decide +kernel
theorem dX2_addLaterTurns_28 : decode cX2_addLaterTurns 28 = .ok (.iadd, 1) := by decide +kernel
theorem dX2_addLaterTurns_29 : decode cX2_addLaterTurns 29 = .ok (.iastore, 1) := by decide +kernel
theorem dX2_addLaterTurns_30 : decode cX2_addLaterTurns 30 = .ok (.iinc 2 1, 3) := by decide +kernel
theorem dX2_addLaterTurns_33 : decode cX2_addLaterTurns 33 = .ok (.goto (-31), 3) := by decide +kernel
theorem dX2_addLaterTurns_36 : decode cX2_addLaterTurns 36 = .ok (.return_, 1) := by decide +kernel
theorem dX2_bestTurn_0 : decode cX2_bestTurn 0 = .ok (.iconst 0, 1) := by decide +kernel
theorem dX2_bestTurn_1 : decode cX2_bestTurn 1 = .ok (.istore_n 2, 1) := by decide +kernel
theorem dX2_bestTurn_2 : decode cX2_bestTurn 2 = .ok (.ldc 74, 2) := by decide +kernel
theorem dX2_bestTurn_4 : decode cX2_bestTurn 4 = .ok (.istore_n 3, 1) := by decide +kernel
theorem dX2_bestTurn_5 : decode cX2_bestTurn 5 = .ok (.iconst 0, 1) := by decide +kernel
theorem dX2_bestTurn_6 : decode cX2_bestTurn 6 = .ok (.istore 4, 2) := by decide +kernel
theorem dX2_bestTurn_8 : decode cX2_bestTurn 8 = .ok (.iload 4, 2) := by decide +kernel
theorem dX2_bestTurn_10 : decode cX2_bestTurn 10 = .ok (.aload_n 0, 1) := by decide +kernel
theorem dX2_bestTurn_11 : decode cX2_bestTurn 11 = .ok (.getfield 33, 3) := by decide +kernel
theorem dX2_bestTurn_14 : decode cX2_bestTurn 14 = .ok (.getfield 44, 3) := by decide +kernel
theorem dX2_bestTurn_17 : decode cX2_bestTurn 17 = .ok (.if_icmp .ge 48, 3) := by decide +kernel
theorem dX2_bestTurn_20 : decode cX2_bestTurn 20 = .ok (.iconst 1, 1) := by decide +kernel
theorem dX2_bestTurn_21 : decode cX2_bestTurn 21 = .ok (.iload 4, 2) := by decide +kernel
theorem dX2_bestTurn_23 : decode cX2_bestTurn 23 = .ok (.ishl, 1) := by decide +kernel
theorem dX2_bestTurn_24 : decode cX2_bestTurn 24 = .ok (.istore 5, 2) := by decide +kernel
theorem dX2_bestTurn_26 : decode cX2_bestTurn 26 = .ok (.iload_n 1, 1) := by decide +kernel
theorem dX2_bestTurn_27 : decode cX2_bestTurn 27 = .ok (.iload 5, 2) := by decide +kernel
theorem dX2_bestTurn_29 : decode cX2_bestTurn 29 = .ok (.iand, 1) := by decide +kernel
theorem dX2_bestTurn_30 : decode cX2_bestTurn 30 = .ok (.ifCond .eq 29, 3) := by decide +kernel
theorem dX2_bestTurn_33 : decode cX2_bestTurn 33 = .ok (.aload_n 0, 1) := by decide +kernel
theorem dX2_bestTurn_34 : decode cX2_bestTurn 34 = .ok (.getfield 9, 3) := by decide +kernel
theorem dX2_bestTurn_37 : decode cX2_bestTurn 37 = .ok (.iload_n 1, 1) := by decide +kernel
theorem dX2_bestTurn_38 : decode cX2_bestTurn 38 = .ok (.iload 5, 2) := by decide +kernel
theorem dX2_bestTurn_40 : decode cX2_bestTurn 40 = .ok (.ixor, 1) := by decide +kernel
theorem dX2_bestTurn_41 : decode cX2_bestTurn 41 = .ok (.iaload, 1) := by decide +kernel
theorem dX2_bestTurn_42 : decode cX2_bestTurn 42 = .ok (.iload_n 3, 1) := by decide +kernel
theorem dX2_bestTurn_43 : decode cX2_bestTurn 43 = .ok (.if_icmp .ge 16, 3) := by decide +kernel
theorem dX2_bestTurn_46 : decode cX2_bestTurn 46 = .ok (.iload 4, 2) := by decide +kernel
theorem dX2_bestTurn_48 : decode cX2_bestTurn 48 = .ok (.istore_n 2, 1) := by decide +kernel
theorem dX2_bestTurn_49 : decode cX2_bestTurn 49 = .ok (.aload_n 0, 1) := by decide +kernel
theorem dX2_bestTurn_50 : decode cX2_bestTurn 50 = .ok (.getfield 9, 3) := by decide +kernel
theorem dX2_bestTurn_53 : decode cX2_bestTurn 53 = .ok (.iload_n 1, 1) := by decide +kernel
theorem dX2_bestTurn_54 : decode cX2_bestTurn 54 = .ok (.iload 5, 2) := by decide +kernel
theorem dX2_bestTurn_56 : decode cX2_bestTurn 56 = .ok (.ixor, 1) := by decide +kernel
theorem dX2_bestTurn_57 : decode cX2_bestTurn 57 = .ok (.iaload, 1) := by decide +kernel
theorem dX2_bestTurn_58 : decode cX2_bestTurn 58 = .ok (.istore_n 3, 1) := by decide +kernel
theorem dX2_bestTurn_59 : decode cX2_bestTurn 59 = .ok (.iinc 4 1, 3) := by decide +kernel
theorem dX2_bestTurn_62 : decode cX2_bestTurn 62 = .ok (.goto (-54), 3) := by decide +kernel
theorem dX2_bestTurn_65 : decode cX2_bestTurn 65 = .ok (.iload_n 2, 1) := by decide +kernel
theorem dX2_bestTurn_66 : decode cX2_bestTurn 66 = .ok (.ireturn, 1) := by decide +kernel
set_option maxRecDepth 20000 in
theorem ggX2_findSet_J6_bitCount_0f7a4 : GoodIn wsX2_findSet wsJ6_bitCount_0f7a4 := goodIn_r _ [6, 7, 8, 9] (by decide +kernel) (by decide +kernel)
set_option maxRecDepth 20000 in
theorem gX2_findSet_J6_bitCount_0f7a4 : GoodIn wsX2_findSet (va_wsS RX2 75 yJ6_bitCount_0f7a4 wsJ6_bitCount_0f7a4) := goodIn_app (goodIn_of _ (by decide +kernel)) ggX2_findSet_J6_bitCount_0f7a4
theorem dX2_findSet_0 : decode cX2_findSet 0 = .ok (.iload_n 1, 1) := by decide +kernel
theorem dX2_findSet_1 : decode cX2_findSet 1 = .ok (.iconst 1, 1) := by decide +kernel
theorem dX2_findSet_2 : decode cX2_findSet 2 = .ok (.isub, 1) := by decide +kernel
theorem dX2_findSet_3 : decode cX2_findSet 3 = .ok (.istore_n 2, 1) := by decide +kernel
theorem dX2_findSet_4 : decode cX2_findSet 4 = .ok (.aload_n 0, 1) := by decide +kernel
theorem dX2_findSet_5 : decode cX2_findSet 5 = .ok (.iload_n 2, 1) := by decide +kernel
theorem dX2_findSet_6 : decode cX2_findSet 6 = .ok (.putfield 22, 3) := by decide +kernel
theorem dX2_findSet_9 : decode cX2_findSet 9 = .ok (.iconst 0, 1) := by decide +kernel
theorem dX2_findSet_10 : decode cX2_findSet 10 = .ok (.istore_n 3, 1) := by decide +kernel
theorem dX2_findSet_11 : decode cX2_findSet 11 = .ok (.iload_n 3, 1) := by decide +kernel
theorem dX2_findSet_12 : decode cX2_findSet 12 = .ok (.iload_n 1, 1) := by decide +kernel
theorem dX2_findSet_13 : decode cX2_findSet 13 = .ok (.if_icmp .ge 51, 3) := by decide +kernel
theorem dX2_findSet_16 : decode cX2_findSet 16 = .ok (.aload_n 0, 1) := by decide +kernel
theorem dX2_findSet_17 : decode cX2_findSet 17 = .ok (.getfield 9, 3) := by decide +kernel
theorem dX2_findSet_20 : decode cX2_findSet 20 = .ok (.iload_n 2, 1) := by decide +kernel
theorem dX2_findSet_21 : decode cX2_findSet 21 = .ok (.iload_n 3, 1) := by decide +kernel
theorem dX2_findSet_22 : decode cX2_findSet 22 = .ok (.ixor, 1) := by decide +kernel
theorem dX2_findSet_23 : decode cX2_findSet 23 = .ok (.iaload, 1) := by decide +kernel
theorem dX2_findSet_24 : decode cX2_findSet 24 = .ok (.ifCond .ne 7, 3) := by decide +kernel
theorem dX2_findSet_27 : decode cX2_findSet 27 = .ok (.iconst 1, 1) := by decide +kernel
theorem dX2_findSet_28 : decode cX2_findSet 28 = .ok (.goto 4, 3) := by decide +kernel
theorem dX2_findSet_31 : decode cX2_findSet 31 = .ok (.iconst 0, 1) := by decide +kernel
theorem dX2_findSet_32 : decode cX2_findSet 32 = .ok (.istore 4, 2) := by decide +kernel
theorem dX2_findSet_34 : decode cX2_findSet 34 = .ok (.iload 4, 2) := by decide +kernel
theorem dX2_findSet_36 : decode cX2_findSet 36 = .ok (.ifCond .eq 22, 3) := by decide +kernel
theorem dX2_findSet_39 : decode cX2_findSet 39 = .ok (.iload_n 3, 1) := by decide +kernel
theorem dX2_findSet_40 : decode cX2_findSet 40 = .ok (.invokestatic 75, 3) := by decide +kernel
theorem dX2_findSet_43 : decode cX2_findSet 43 = .ok (.aload_n 0, 1) := by decide +kernel
theorem dX2_findSet_44 : decode cX2_findSet 44 = .ok (.getfield 22, 3) := by decide +kernel
theorem dX2_findSet_47 : decode cX2_findSet 47 = .ok (.invokestatic 75, 3) := by decide +kernel
theorem dX2_findSet_50 : decode cX2_findSet 50 = .ok (.if_icmp .ge 8, 3) := by decide +kernel
theorem dX2_findSet_53 : decode cX2_findSet 53 = .ok (.aload_n 0, 1) := by decide +kernel
theorem dX2_findSet_54 : decode cX2_findSet 54 = .ok (.iload_n 3, 1) := by decide +kernel
theorem dX2_findSet_55 : decode cX2_findSet 55 = .ok (.putfield 22, 3) := by decide +kernel
theorem dX2_findSet_58 : decode cX2_findSet 58 = .ok (.iinc 3 1, 3) := by decide +kernel
theorem dX2_findSet_61 : decode cX2_findSet 61 = .ok (.goto (-50), 3) := by decide +kernel
theorem dX2_findSet_64 : decode cX2_findSet 64 = .ok (.return_, 1) := by decide +kernel
set_option maxRecDepth 20000 in
theorem ggX2_findOrder_X2_bestTurn : GoodIn wsX2_findOrder wsX2_bestTurn := goodIn_r _ [10, 11, 2, 3, 5, 12, 13, 14, 15, 16, 17, 18, 19, 20, 21, 22, 23] (by decide +kernel) (by decide +kernel)
set_option maxRecDepth 20000 in
theorem gX2_findOrder_X2_bestTurn : GoodIn wsX2_findOrder (wsV RX2 70 RX2 yX2_bestTurn wsX2_bestTurn) := goodIn_app (goodIn_of _ (by decide +kernel)) ggX2_findOrder_X2_bestTurn
theorem dX2_findOrder_0 : decode cX2_findOrder 0 = .ok (.iload_n 1, 1) := by decide +kernel
theorem dX2_findOrder_1 : decode cX2_findOrder 1 = .ok (.iconst 1, 1) := by decide +kernel
theorem dX2_findOrder_2 : decode cX2_findOrder 2 = .ok (.isub, 1) := by decide +kernel
theorem dX2_findOrder_3 : decode cX2_findOrder 3 = .ok (.istore_n 2, 1) := by decide +kernel
theorem dX2_findOrder_4 : decode cX2_findOrder 4 = .ok (.aload_n 0, 1) := by decide +kernel
theorem dX2_findOrder_5 : decode cX2_findOrder 5 = .ok (.iconst 0, 1) := by decide +kernel
theorem dX2_findOrder_6 : decode cX2_findOrder 6 = .ok (.putfield 18, 3) := by decide +kernel
theorem dX2_findOrder_9 : decode cX2_findOrder 9 = .ok (.iconst 0, 1) := by decide +kernel
theorem dX2_findOrder_10 : decode cX2_findOrder 10 = .ok (.istore_n 3, 1) := by decide +kernel
theorem dX2_findOrder_11 : decode cX2_findOrder 11 = .ok (.iload_n 3, 1) := by decide +kernel
theorem dX2_findOrder_12 : decode cX2_findOrder 12 = .ok (.aload_n 0, 1) := by decide +kernel
theorem dX2_findOrder_13 : decode cX2_findOrder 13 = .ok (.getfield 33, 3) := by decide +kernel
theorem dX2_findOrder_16 : decode cX2_findOrder 16 = .ok (.getfield 44, 3) := by decide +kernel
theorem dX2_findOrder_19 : decode cX2_findOrder 19 = .ok (.if_icmp .ge 45, 3) := by decide +kernel
theorem dX2_findOrder_22 : decode cX2_findOrder 22 = .ok (.aload_n 0, 1) := by decide +kernel
theorem dX2_findOrder_23 : decode cX2_findOrder 23 = .ok (.getfield 15, 3) := by decide +kernel
theorem dX2_findOrder_26 : decode cX2_findOrder 26 = .ok (.iload_n 3, 1) := by decide +kernel
theorem dX2_findOrder_27 : decode cX2_findOrder 27 = .ok (.aload_n 0, 1) := by decide +kernel
theorem dX2_findOrder_28 : decode cX2_findOrder 28 = .ok (.iload_n 2, 1) := by decide +kernel
theorem dX2_findOrder_29 : decode cX2_findOrder 29 = .ok (.invokevirtual 70, 3) := by decide +kernel
theorem dX2_findOrder_32 : decode cX2_findOrder 32 = .ok (.iastore, 1) := by decide +kernel
theorem dX2_findOrder_33 : decode cX2_findOrder 33 = .ok (.iload_n 2, 1) := by decide +kernel
theorem dX2_findOrder_34 : decode cX2_findOrder 34 = .ok (.iconst 1, 1) := by decide +kernel
theorem dX2_findOrder_35 : decode cX2_findOrder 35 = .ok (.aload_n 0, 1) := by decide +kernel
theorem dX2_findOrder_36 : decode cX2_findOrder 36 = .ok (.getfield 15, 3) := by decide +kernel
theorem dX2_findOrder_39 : decode cX2_findOrder 39 = .ok (.iload_n 3, 1) := by decide +kernel
theorem dX2_findOrder_40 : decode cX2_findOrder 40 = .ok (.iaload, 1) := by decide +kernel
theorem dX2_findOrder_41 : decode cX2_findOrder 41 = .ok (.ishl, 1) := by decide +kernel
theorem dX2_findOrder_42 : decode cX2_findOrder 42 = .ok (.ixor, 1) := by decide +kernel
theorem dX2_findOrder_43 : decode cX2_findOrder 43 = .ok (.istore_n 2, 1) := by decide +kernel
theorem dX2_findOrder_44 : decode cX2_findOrder 44 = .ok (.iload_n 3, 1) := by decide +kernel
theorem dX2_findOrder_45 : decode cX2_findOrder 45 = .ok (.ifCond .ne 13, 3) := by decide +kernel
theorem dX2_findOrder_48 : decode cX2_findOrder 48 = .ok (.aload_n 0, 1) := by decide +kernel
theorem dX2_findOrder_49 : decode cX2_findOrder 49 = .ok (.aload_n 0, 1) := by decide +kernel
theorem dX2_findOrder_50 : decode cX2_findOrder 50 = .ok (.getfield 9, 3) := by decide +kernel
theorem dX2_findOrder_53 : decode cX2_findOrder 53 = .ok (.iload_n 2, 1) := by decide +kernel
theorem dX2_findOrder_54 : decode cX2_findOrder 54 = .ok (.iaload, 1) := by decide +kernel
theorem dX2_findOrder_55 : decode cX2_findOrder 55 = .ok (.putfield 18, 3) := by decide +kernel
theorem dX2_findOrder_58 : decode cX2_findOrder 58 = .ok (.iinc 3 1, 3) := by decide +kernel
theorem dX2_findOrder_61 : decode cX2_findOrder 61 = .ok (.goto (-50), 3) := by decide +kernel
theorem dX2_findOrder_64 : decode cX2_findOrder 64 = .ok (.return_, 1) := by decide +kernel
theorem dX3_init_0 : decode cX3_init 0 = .ok (.aload_n 0, 1) := by decide +kernel
theorem dX3_init_1 : decode cX3_init 1 = .ok (.invokespecial 3, 3) := by decide +kernel
theorem dX3_init_4 : decode cX3_init 4 = .ok (.aload_n 0, 1) := by decide +kernel
theorem dX3_init_5 : decode cX3_init 5 = .ok (.bipush 96, 2) := by decide +kernel
theorem dX3_init_7 : decode cX3_init 7 = .ok (.newarray .int, 2) := by decide +kernel
theorem dX3_init_9 : decode cX3_init 9 = .ok (.putfield 9, 3) := by decide +kernel
theorem dX3_init_12 : decode cX3_init 12 = .ok (.aload_n 0, 1) := by decide +kernel
theorem dX3_init_13 : decode cX3_init 13 = .ok (.iconst 0, 1) := by decide +kernel
theorem dX3_init_14 : decode cX3_init 14 = .ok (.putfield 15, 3) := by decide +kernel
theorem dX3_init_17 : decode cX3_init 17 = .ok (.aload_n 0, 1) := by decide +kernel
theorem dX3_init_18 : decode cX3_init 18 = .ok (.aload_n 1, 1) := by decide +kernel
theorem dX3_init_19 : decode cX3_init 19 = .ok (.putfield 19, 3) := by decide +kernel
theorem dX3_init_22 : decode cX3_init 22 = .ok (.aload_n 0, 1) := by decide +kernel
theorem dX3_init_23 : decode cX3_init 23 = .ok (.aload_n 2, 1) := by decide +kernel
theorem dX3_init_24 : decode cX3_init 24 = .ok (.putfield 23, 3) := by decide +kernel
theorem dX3_init_27 : decode cX3_init 27 = .ok (.aload_n 0, 1) := by decide +kernel
theorem dX3_init_28 : decode cX3_init 28 = .ok (.aload_n 3, 1) := by decide +kernel
theorem dX3_init_29 : decode cX3_init 29 = .ok (.putfield 27, 3) := by decide +kernel
theorem dX3_init_32 : decode cX3_init 32 = .ok (.return_, 1) := by decide +kernel
set_option maxRecDepth 20000 in
theorem ggX3_find_X8_noneFailsFor : GoodIn wsX3_find wsX8_noneFailsFor := goodIn_r _ [10, 11, 12, 13, 14, 9, 15, 16, 17, 18, 19, 20, 21, 22, 23, 24, 25, 26, 27, 28, 29, 40, 41, 42, 43, 44, 45, 46, 47] (by decide +kernel) (by decide +kernel)
set_option maxRecDepth 20000 in
theorem gX3_find_X8_noneFailsFor : GoodIn wsX3_find (wsV RX3 34 RX8 yX8_noneFailsFor wsX8_noneFailsFor) := goodIn_app (goodIn_of _ (by decide +kernel)) ggX3_find_X8_noneFailsFor
theorem dX3_find_0 : decode cX3_find 0 = .ok (.aload_n 0, 1) := by decide +kernel
theorem dX3_find_1 : decode cX3_find 1 = .ok (.iconst 0, 1) := by decide +kernel
theorem dX3_find_2 : decode cX3_find 2 = .ok (.putfield 15, 3) := by decide +kernel
theorem dX3_find_5 : decode cX3_find 5 = .ok (.iconst 0, 1) := by decide +kernel
theorem dX3_find_6 : decode cX3_find 6 = .ok (.istore_n 1, 1) := by decide +kernel
theorem dX3_find_7 : decode cX3_find 7 = .ok (.iload_n 1, 1) := by decide +kernel
theorem dX3_find_8 : decode cX3_find 8 = .ok (.aload_n 0, 1) := by decide +kernel
theorem dX3_find_9 : decode cX3_find 9 = .ok (.getfield 19, 3) := by decide +kernel
theorem dX3_find_12 : decode cX3_find 12 = .ok (.getfield 31, 3) := by decide +kernel
theorem dX3_find_15 : decode cX3_find 15 = .ok (.if_icmp .ge 42, 3) := by decide +kernel
theorem dX3_find_18 : decode cX3_find 18 = .ok (.aload_n 0, 1) := by decide +kernel
theorem dX3_find_19 : decode cX3_find 19 = .ok (.getfield 23, 3) := by decide +kernel
theorem dX3_find_22 : decode cX3_find 22 = .ok (.iconst 2, 1) := by decide +kernel
theorem dX3_find_23 : decode cX3_find 23 = .ok (.iload_n 1, 1) := by decide +kernel
theorem dX3_find_24 : decode cX3_find 24 = .ok (.iadd, 1) := by decide +kernel
theorem dX3_find_25 : decode cX3_find 25 = .ok (.invokevirtual 34, 3) := by decide +kernel
theorem dX3_find_28 : decode cX3_find 28 = .ok (.ifCond .eq 23, 3) := by decide +kernel
theorem dX3_find_31 : decode cX3_find 31 = .ok (.aload_n 0, 1) := by decide +kernel
theorem dX3_find_32 : decode cX3_find 32 = .ok (.getfield 9, 3) := by decide +kernel
theorem dX3_find_35 : decode cX3_find 35 = .ok (.aload_n 0, 1) := by decide +kernel
theorem dX3_find_36 : decode cX3_find 36 = .ok (.getfield 15, 3) := by decide +kernel
theorem dX3_find_39 : decode cX3_find 39 = .ok (.iload_n 1, 1) := by decide +kernel
theorem dX3_find_40 : decode cX3_find 40 = .ok (.iastore, 1) := by decide +kernel
theorem dX3_find_41 : decode cX3_find 41 = .ok (.aload_n 0, 1) := by decide +kernel
theorem dX3_find_42 : decode cX3_find 42 = .ok (.dup, 1) := by decide +kernel
theorem dX3_find_43 : decode cX3_find 43 = .ok (.getfield 15, 3) := by decide +kernel
theorem dX3_find_46 : decode cX3_find 46 = .ok (.iconst 1, 1) := by decide +kernel
theorem dX3_find_47 : decode cX3_find 47 = .ok (.iadd, 1) := by decide +kernel
theorem dX3_find_48 : decode cX3_find 48 = .ok (.putfield 15, 3) := by decide +kernel
theorem dX3_find_51 : decode cX3_find 51 = .ok (.iinc 1 1, 3) := by decide +kernel
theorem dX3_find_54 : decode cX3_find 54 = .ok (.goto (-47), 3) := by decide +kernel
theorem dX3_find_57 : decode cX3_find 57 = .ok (.return_, 1) := by decide +kernel
set_option maxRecDepth 20000 in
theorem ggX3_kinds_X3_isUnlikeEarlierOnes : GoodIn wsX3_kinds wsX3_isUnlikeEarlierOnes := goodIn_r _ [6, 7, 8, 9, 10, 11, 12, 13, 14, 15, 16, 17, 18, 19, 20, 21, 22, 23, 24, 25, 26, 27, 28, 29, 30, 31, 32, 33, 34, 35, 36] (by decide +kernel) (by decide +kernel)
set_option maxRecDepth 20000 in
theorem gX3_kinds_X3_isUnlikeEarlierOnes : GoodIn wsX3_kinds (wsV RX3 40 RX3 yX3_isUnlikeEarlierOnes wsX3_isUnlikeEarlierOnes) := goodIn_app (goodIn_of _ (by decide +kernel)) ggX3_kinds_X3_isUnlikeEarlierOnes
theorem dX3_kinds_0 : decode cX3_kinds 0 = .ok (.iconst 0, 1) := by decide +kernel
theorem dX3_kinds_1 : decode cX3_kinds 1 = .ok (.istore_n 1, 1) := by decide +kernel
theorem dX3_kinds_2 : decode cX3_kinds 2 = .ok (.iconst 0, 1) := by decide +kernel
theorem dX3_kinds_3 : decode cX3_kinds 3 = .ok (.istore_n 2, 1) := by decide +kernel
theorem dX3_kinds_4 : decode cX3_kinds 4 = .ok (.iload_n 2, 1) := by decide +kernel
theorem dX3_kinds_5 : decode cX3_kinds 5 = .ok (.aload_n 0, 1) := by decide +kernel
theorem dX3_kinds_6 : decode cX3_kinds 6 = .ok (.getfield 15, 3) := by decide +kernel
theorem dX3_kinds_9 : decode cX3_kinds 9 = .ok (.if_icmp .ge 25, 3) := by decide +kernel
theorem dX3_kinds_12 : decode cX3_kinds 12 = .ok (.iload_n 1, 1) := by decide +kernel
theorem dX3_kinds_13 : decode cX3_kinds 13 = .ok (.aload_n 0, 1) := by decide +kernel
theorem dX3_kinds_14 : decode cX3_kinds 14 = .ok (.iload_n 2, 1) := by decide +kernel
theorem dX3_kinds_15 : decode cX3_kinds 15 = .ok (.invokevirtual 40, 3) := by decide +kernel
theorem dX3_kinds_18 : decode cX3_kinds 18 = .ok (.ifCond .eq 7, 3) := by decide +kernel
theorem dX3_kinds_21 : decode cX3_kinds 21 = .ok (.iconst 1, 1) := by decide +kernel
theorem dX3_kinds_22 : decode cX3_kinds 22 = .ok (.goto 4, 3) := by decide +kernel
theorem dX3_kinds_25 : decode cX3_kinds 25 = .ok (.iconst 0, 1) := by decide +kernel
theorem dX3_kinds_26 : decode cX3_kinds 26 = .ok (.iadd, 1) := by decide +kernel
theorem dX3_kinds_27 : decode cX3_kinds 27 = .ok (.istore_n 1, 1) := by decide +kernel
theorem dX3_kinds_28 : decode cX3_kinds 28 = .ok (.iinc 2 1, 3) := by decide +kernel
theorem dX3_kinds_31 : decode cX3_kinds 31 = .ok (.goto (-27), 3) := by decide +kernel
theorem dX3_kinds_34 : decode cX3_kinds 34 = .ok (.iload_n 1, 1) := by decide +kernel
theorem dX3_kinds_35 : decode cX3_kinds 35 = .ok (.ireturn, 1) := by decide +kernel
set_option maxRecDepth 20000 in
theorem ggX3_isUnlikeEarlierOnes_X7_unlikeMany : GoodIn wsX3_isUnlikeEarlierOnes wsX7_unlikeMany := goodIn_r _ [7, 8, 9, 10, 6, 11, 12, 13, 14, 15, 16, 17, 18, 19, 20, 21, 27, 28, 29, 30] (by decide +kernel) (by decide +kernel)
set_option maxRecDepth 20000 in
theorem gX3_isUnlikeEarlierOnes_X7_unlikeMany : GoodIn wsX3_isUnlikeEarlierOnes (wsV RX3 43 RX7 yX7_unlikeMany wsX7_unlikeMany) := goodIn_app (goodIn_of _ (by decide +kernel)) ggX3_isUnlikeEarlierOnes_X7_unlikeMany
theorem dX3_isUnlikeEarlierOnes_0 : decode cX3_isUnlikeEarlierOnes 0 = .ok (.iconst 0, 1) := by decide +kernel
theorem dX3_isUnlikeEarlierOnes_1 : decode cX3_isUnlikeEarlierOnes 1 = .ok (.istore_n 2, 1) := by decide +kernel
theorem dX3_isUnlikeEarlierOnes_2 : decode cX3_isUnlikeEarlierOnes 2 = .ok (.iload_n 2, 1) := by decide +kernel
theorem dX3_isUnlikeEarlierOnes_3 : decode cX3_isUnlikeEarlierOnes 3 = .ok (.iload_n 1, 1) := by decide +kernel
theorem dX3_isUnlikeEarlierOnes_4 : decode cX3_isUnlikeEarlierOnes 4 = .ok (.if_icmp .ge 37, 3) := by decide +kernel
theorem dX3_isUnlikeEarlierOnes_7 : decode cX3_isUnlikeEarlierOnes 7 = .ok (.aload_n 0, 1) := by decide +kernel
theorem dX3_isUnlikeEarlierOnes_8 : decode cX3_isUnlikeEarlierOnes 8 = .ok (.getfield 27, 3) := by decide +kernel
theorem dX3_isUnlikeEarlierOnes_11 : decode cX3_isUnlikeEarlierOnes 11 = .ok (.iconst 2, 1) := by decide +kernel
theorem dX3_isUnlikeEarlierOnes_12 : decode cX3_isUnlikeEarlierOnes 12 = .ok (.aload_n 0, 1) := by decide +kernel
theorem dX3_isUnlikeEarlierOnes_13 : decode cX3_isUnlikeEarlierOnes 13 = .ok (.getfield 9, 3) := by decide +kernel
theorem dX3_isUnlikeEarlierOnes_16 : decode cX3_isUnlikeEarlierOnes 16 = .ok (.iload_n 2, 1) := by decide +kernel
theorem dX3_isUnlikeEarlierOnes_17 : decode cX3_isUnlikeEarlierOnes 17 = .ok (.iaload, 1) := by decide +kernel
theorem dX3_isUnlikeEarlierOnes_18 : decode cX3_isUnlikeEarlierOnes 18 = .ok (.iadd, 1) := by decide +kernel
theorem dX3_isUnlikeEarlierOnes_19 : decode cX3_isUnlikeEarlierOnes 19 = .ok (.iconst 2, 1) := by decide +kernel
theorem dX3_isUnlikeEarlierOnes_20 : decode cX3_isUnlikeEarlierOnes 20 = .ok (.aload_n 0, 1) := by decide +kernel
theorem dX3_isUnlikeEarlierOnes_21 : decode cX3_isUnlikeEarlierOnes 21 = .ok (.getfield 9, 3) := by decide +kernel
theorem dX3_isUnlikeEarlierOnes_24 : decode cX3_isUnlikeEarlierOnes 24 = .ok (.iload_n 1, 1) := by decide +kernel
theorem dX3_isUnlikeEarlierOnes_25 : decode cX3_isUnlikeEarlierOnes 25 = .ok (.iaload, 1) := by decide +kernel
theorem dX3_isUnlikeEarlierOnes_26 : decode cX3_isUnlikeEarlierOnes 26 = .ok (.iadd, 1) := by decide +kernel
theorem dX3_isUnlikeEarlierOnes_27 : decode cX3_isUnlikeEarlierOnes 27 = .ok (.invokevirtual 43, 3) := by decide +kernel
theorem dX3_isUnlikeEarlierOnes_30 : decode cX3_isUnlikeEarlierOnes 30 = .ok (.ifCond .ne 5, 3) := by decide +kernel
theorem dX3_isUnlikeEarlierOnes_33 : decode cX3_isUnlikeEarlierOnes 33 = .ok (.iconst 0, 1) := by decide +kernel
theorem dX3_isUnlikeEarlierOnes_34 : decode cX3_isUnlikeEarlierOnes 34 = .ok (.ireturn, 1) := by decide +kernel
theorem dX3_isUnlikeEarlierOnes_35 : decode cX3_isUnlikeEarlierOnes 35 = .ok (.iinc 2 1, 3) := by decide +kernel
theorem dX3_isUnlikeEarlierOnes_38 : decode cX3_isUnlikeEarlierOnes 38 = .ok (.goto (-36), 3) := by decide +kernel
theorem dX3_isUnlikeEarlierOnes_41 : decode cX3_isUnlikeEarlierOnes 41 = .ok (.iconst 1, 1) := by decide +kernel
theorem dX3_isUnlikeEarlierOnes_42 : decode cX3_isUnlikeEarlierOnes 42 = .ok (.ireturn, 1) := by decide +kernel
