theorem dX4_init_0 : decode cX4_init 0 = .ok (.aload_n 0, 1) := by decide +kernel
theorem dX4_init_1 : decode cX4_init 1 = .ok (.invokespecial 3, 3) := by decide +kernel
theorem dX4_init_4 : decode cX4_init 4 = .ok (.aload_n 0, 1) := by decide +kernel
theorem dX4_init_5 : decode cX4_init 5 = .ok (.bipush 96, 2) := by decide +kernel
theorem dX4_init_7 : decode cX4_init 7 = .ok (.newarray .int, 2) := by decide +kernel
theorem dX4_init_9 : decode cX4_init 9 = .ok (.putfield 9, 3) := by decide +kernel
theorem dX4_init_12 : decode cX4_init 12 = .ok (.aload_n 0, 1) := by decide +kernel
theorem dX4_init_13 : decode cX4_init 13 = .ok (.bipush (-6), 2) := by decide +kernel
theorem dX4_init_15 : decode cX4_init 15 = .ok (.putfield 15, 3) := by decide +kernel
theorem dX4_init_18 : decode cX4_init 18 = .ok (.aload_n 0, 1) := by decide +kernel
theorem dX4_init_19 : decode cX4_init 19 = .ok (.iconst 0, 1) := by decide +kernel
theorem dX4_init_20 : decode cX4_init 20 = .ok (.putfield 19, 3) := by decide +kernel
theorem dX4_init_23 : decode cX4_init 23 = .ok (.aload_n 0, 1) := by decide +kernel
theorem dX4_init_24 : decode cX4_init 24 = .ok (.bipush 96, 2) := by decide +kernel
theorem dX4_init_26 : decode cX4_init 26 = .ok (.newarray .long, 2) := by decide +kernel
theorem dX4_init_28 : decode cX4_init 28 = .ok (.putfield 22, 3) := by decide +kernel
theorem dX4_init_31 : decode cX4_init 31 = .ok (.aload_n 0, 1) := by decide +kernel
theorem dX4_init_32 : decode cX4_init 32 = .ok (.aload_n 1, 1) := by decide +kernel
theorem dX4_init_33 : decode cX4_init 33 = .ok (.putfield 26, 3) := by decide +kernel
theorem dX4_init_36 : decode cX4_init 36 = .ok (.aload_n 0, 1) := by decide +kernel
theorem dX4_init_37 : decode cX4_init 37 = .ok (.aload_n 2, 1) := by decide +kernel
theorem dX4_init_38 : decode cX4_init 38 = .ok (.putfield 30, 3) := by decide +kernel
theorem dX4_init_41 : decode cX4_init 41 = .ok (.aload_n 0, 1) := by decide +kernel
theorem dX4_init_42 : decode cX4_init 42 = .ok (.aload_n 3, 1) := by decide +kernel
theorem dX4_init_43 : decode cX4_init 43 = .ok (.putfield 34, 3) := by decide +kernel
theorem dX4_init_46 : decode cX4_init 46 = .ok (.return_, 1) := by decide +kernel
set_option maxRecDepth 20000 in
theorem ggX4_settle_X4_testsThatNotice : GoodIn wsX4_settle wsX4_testsThatNotice := goodIn_r _ [8, 9, 10, 11, 12, 13, 14, 15, 16, 17, 18, 19, 20, 21, 22, 23, 24, 25, 26, 27, 28, 29, 30, 31, 32, 33, 34, 40, 41, 42, 43, 44, 45, 46, 47] (by decide +kernel) (by decide +kernel)
set_option maxRecDepth 20000 in
theorem gX4_settle_X4_testsThatNotice : GoodIn wsX4_settle (wsV RX4 43 RX4 yX4_testsThatNotice wsX4_testsThatNotice) := goodIn_app (goodIn_of _ (by decide +kernel)) ggX4_settle_X4_testsThatNotice
theorem dX4_settle_0 : decode cX4_settle 0 = .ok (.iconst 0, 1) := by decide +kernel
theorem dX4_settle_1 : decode cX4_settle 1 = .ok (.istore_n 1, 1) := by decide +kernel
theorem dX4_settle_2 : decode cX4_settle 2 = .ok (.iload_n 1, 1) := by decide +kernel
theorem dX4_settle_3 : decode cX4_settle 3 = .ok (.aload_n 0, 1) := by decide +kernel
theorem dX4_settle_4 : decode cX4_settle 4 = .ok (.getfield 26, 3) := by decide +kernel
theorem dX4_settle_7 : decode cX4_settle 7 = .ok (.getfield 38, 3) := by decide +kernel
theorem dX4_settle_10 : decode cX4_settle 10 = .ok (.if_icmp .ge 20, 3) := by decide +kernel
theorem dX4_settle_13 : decode cX4_settle 13 = .ok (.aload_n 0, 1) := by decide +kernel
theorem dX4_settle_14 : decode cX4_settle 14 = .ok (.getfield 9, 3) := by decide +kernel
theorem dX4_settle_17 : decode cX4_settle 17 = .ok (.iload_n 1, 1) := by decide +kernel
theorem dX4_settle_18 : decode cX4_settle 18 = .ok (.aload_n 0, 1) := by decide +kernel
theorem dX4_settle_19 : decode cX4_settle 19 = .ok (.iload_n 1, 1) := by decide +kernel
theorem dX4_settle_20 : decode cX4_settle 20 = .ok (.invokevirtual 43, 3) := by decide +kernel
theorem dX4_settle_23 : decode cX4_settle 23 = .ok (.iastore, 1) := by decide +kernel
theorem dX4_settle_24 : decode cX4_settle 24 = .ok (.iinc 1 1, 3) := by decide +kernel
theorem dX4_settle_27 : decode cX4_settle 27 = .ok (.goto (-25), 3) := by decide +kernel
theorem dX4_settle_30 : decode cX4_settle 30 = .ok (.return_, 1) := by decide +kernel
set_option maxRecDepth 20000 in
theorem ggX4_testsThatNotice_X7_isUnlikeAt : GoodIn wsX4_testsThatNotice wsX7_isUnlikeAt := goodIn_r _ [9, 10, 11, 12, 8, 13, 14, 15, 16, 17, 18, 19, 31, 32, 33, 34] (by decide +kernel) (by decide +kernel)
set_option maxRecDepth 20000 in
theorem gX4_testsThatNotice_X7_isUnlikeAt : GoodIn wsX4_testsThatNotice (wsV RX4 53 RX7 yX7_isUnlikeAt wsX7_isUnlikeAt) := goodIn_app (goodIn_of _ (by decide +kernel)) ggX4_testsThatNotice_X7_isUnlikeAt
theorem dX4_testsThatNotice_0 : decode cX4_testsThatNotice 0 = .ok (.iconst 0, 1) := by decide +kernel
theorem dX4_testsThatNotice_1 : decode cX4_testsThatNotice 1 = .ok (.istore_n 2, 1) := by decide +kernel
theorem dX4_testsThatNotice_2 : decode cX4_testsThatNotice 2 = .ok (.iconst 0, 1) := by decide +kernel
theorem dX4_testsThatNotice_3 : decode cX4_testsThatNotice 3 = .ok (.istore_n 3, 1) := by decide +kernel
theorem dX4_testsThatNotice_4 : decode cX4_testsThatNotice 4 = .ok (.iload_n 3, 1) := by decide +kernel
theorem dX4_testsThatNotice_5 : decode cX4_testsThatNotice 5 = .ok (.aload_n 0, 1) := by decide +kernel
theorem dX4_testsThatNotice_6 : decode cX4_testsThatNotice 6 = .ok (.getfield 30, 3) := by decide +kernel
theorem dX4_testsThatNotice_9 : decode cX4_testsThatNotice 9 = .ok (.getfield 47, 3) := by decide +kernel
theorem dX4_testsThatNotice_12 : decode cX4_testsThatNotice 12 = .ok (.if_icmp .ge 38, 3) := by decide +kernel
theorem dX4_testsThatNotice_15 : decode cX4_testsThatNotice 15 = .ok (.aload_n 0, 1) := by decide +kernel
theorem dX4_testsThatNotice_16 : decode cX4_testsThatNotice 16 = .ok (.getfield 34, 3) := by decide +kernel
theorem dX4_testsThatNotice_19 : decode cX4_testsThatNotice 19 = .ok (.iconst 2, 1) := by decide +kernel
theorem dX4_testsThatNotice_20 : decode cX4_testsThatNotice 20 = .ok (.iload_n 1, 1) := by decide +kernel
theorem dX4_testsThatNotice_21 : decode cX4_testsThatNotice 21 = .ok (.iadd, 1) := by decide +kernel
theorem dX4_testsThatNotice_22 : decode cX4_testsThatNotice 22 = .ok (.iconst 0, 1) := by decide +kernel
theorem dX4_testsThatNotice_23 : decode cX4_testsThatNotice 23 = .ok (.aload_n 0, 1) := by decide +kernel
theorem dX4_testsThatNotice_24 : decode cX4_testsThatNotice 24 = .ok (.getfield 30, 3) := by decide +kernel
theorem dX4_testsThatNotice_27 : decode cX4_testsThatNotice 27 = .ok (.getfield 50, 3) := by decide +kernel
theorem dX4_testsThatNotice_30 : decode cX4_testsThatNotice 30 = .ok (.iload_n 3, 1) := by decide +kernel
theorem dX4_testsThatNotice_31 : decode cX4_testsThatNotice 31 = .ok (.iaload, 1) := by decide +kernel
theorem dX4_testsThatNotice_32 : decode cX4_testsThatNotice 32 = .ok (.invokevirtual 53, 3) := by decide +kernel
theorem dX4_testsThatNotice_35 : decode cX4_testsThatNotice 35 = .ok (.ifCond .eq 9, 3) := by decide +kernel
theorem dX4_testsThatNotice_38 : decode cX4_testsThatNotice 38 = .ok (.iload_n 2, 1) := by decide +kernel
theorem dX4_testsThatNotice_39 : decode cX4_testsThatNotice 39 = .ok (.iconst 1, 1) := by decide +kernel
theorem dX4_testsThatNotice_40 : decode cX4_testsThatNotice 40 = .ok (.iload_n 3, 1) := by decide +kernel
theorem dX4_testsThatNotice_41 : decode cX4_testsThatNotice 41 = .ok (.ishl, 1) := by decide +kernel
theorem dX4_testsThatNotice_42 : decode cX4_testsThatNotice 42 = .ok (.ior, 1) := by decide +kernel
theorem dX4_testsThatNotice_43 : decode cX4_testsThatNotice 43 = .ok (.istore_n 2, 1) := by decide +kernel
theorem dX4_testsThatNotice_44 : decode cX4_testsThatNotice 44 = .ok (.iinc 3 1, 3) := by decide +kernel
theorem dX4_testsThatNotice_47 : decode cX4_testsThatNotice 47 = .ok (.goto (-43), 3) := by decide +kernel
theorem dX4_testsThatNotice_50 : decode cX4_testsThatNotice 50 = .ok (.iload_n 2, 1) := by decide +kernel
theorem dX4_testsThatNotice_51 : decode cX4_testsThatNotice 51 = .ok (.ireturn, 1) := by decide +kernel
theorem dX4_howManyNoticedBy_0 : decode cX4_howManyNoticedBy 0 = .ok (.iconst 0, 1) := by decide +kernel
theorem dX4_howManyNoticedBy_1 : decode cX4_howManyNoticedBy 1 = .ok (.istore_n 2, 1) := by decide +kernel
theorem dX4_howManyNoticedBy_2 : decode cX4_howManyNoticedBy 2 = .ok (.iconst 0, 1) := by decide +kernel
theorem dX4_howManyNoticedBy_3 : decode cX4_howManyNoticedBy 3 = .ok (.istore_n 3, 1) := by decide +kernel
theorem dX4_howManyNoticedBy_4 : decode cX4_howManyNoticedBy 4 = .ok (.iload_n 3, 1) := by decide +kernel
theorem dX4_howManyNoticedBy_5 : decode cX4_howManyNoticedBy 5 = .ok (.aload_n 0, 1) := by decide +kernel
theorem dX4_howManyNoticedBy_6 : decode cX4_howManyNoticedBy 6 = .ok (.getfield 26, 3) := by decide +kernel
theorem dX4_howManyNoticedBy_9 : decode cX4_howManyNoticedBy 9 = .ok (.getfield 38, 3) := by decide +kernel
theorem dX4_howManyNoticedBy_12 : decode cX4_howManyNoticedBy 12 = .ok (.if_icmp .ge 22, 3) := by decide +kernel
theorem dX4_howManyNoticedBy_15 : decode cX4_howManyNoticedBy 15 = .ok (.iload_n 2, 1) := by decide +kernel
theorem dX4_howManyNoticedBy_16 : decode cX4_howManyNoticedBy 16 = .ok (.aload_n 0, 1) := by decide +kernel
theorem dX4_howManyNoticedBy_17 : decode cX4_howManyNoticedBy 17 = .ok (.getfield 9, 3) := by decide +kernel
theorem dX4_howManyNoticedBy_20 : decode cX4_howManyNoticedBy 20 = .ok (.iload_n 3, 1) := by decide +kernel
theorem dX4_howManyNoticedBy_21 : decode cX4_howManyNoticedBy 21 = .ok (.iaload, 1) := by decide +kernel
theorem dX4_howManyNoticedBy_22 : decode cX4_howManyNoticedBy 22 = .ok (.iload_n 1, 1) := by decide +kernel
theorem dX4_howManyNoticedBy_23 : decode cX4_howManyNoticedBy 23 = .ok (.iushr, 1) := by decide +kernel
theorem dX4_howManyNoticedBy_24 : decode cX4_howManyNoticedBy 24 = .ok (.iconst 1, 1) := by decide +kernel
theorem dX4_howManyNoticedBy_25 : decode cX4_howManyNoticedBy 25 = .ok (.iand, 1) := by decide +kernel
theorem dX4_howManyNoticedBy_26 : decode cX4_howManyNoticedBy 26 = .ok (.iadd, 1) := by decide +kernel
theorem dX4_howManyNoticedBy_27 : decode cX4_howManyNoticedBy 27 = .ok (.istore_n 2, 1) := by decide +kernel
theorem dX4_howManyNoticedBy_28 : decode cX4_howManyNoticedBy 28 = .ok (.iinc 3 1, 3) := by decide +kernel
theorem dX4_howManyNoticedBy_31 : decode cX4_howManyNoticedBy 31 = .ok (.goto (-27), 3) := by decide +kernel
theorem dX4_howManyNoticedBy_34 : decode cX4_howManyNoticedBy 34 = .ok (.iload_n 2, 1) := by decide +kernel
theorem dX4_howManyNoticedBy_35 : decode cX4_howManyNoticedBy 35 = .ok (.ireturn, 1) := by decide +kernel
set_option maxRecDepth 20000 in
theorem ggX4_behindHowMany_X4_isBehind : GoodIn wsX4_behindHowMany wsX4_isBehind := goodIn_r _ [7, 8, 9, 10, 11, 12, 13, 14, 15] (by decide +kernel) (by decide +kernel)
set_option maxRecDepth 20000 in
theorem gX4_behindHowMany_X4_isBehind : GoodIn wsX4_behindHowMany (wsV RX4 59 RX4 yX4_isBehind wsX4_isBehind) := goodIn_app (goodIn_of _ (by decide +kernel)) ggX4_behindHowMany_X4_isBehind
theorem dX4_behindHowMany_0 : decode cX4_behindHowMany 0 = .ok (.iconst 0, 1) := by decide +kernel
theorem dX4_behindHowMany_1 : decode cX4_behindHowMany 1 = .ok (.istore_n 2, 1) := by decide +kernel
theorem dX4_behindHowMany_2 : decode cX4_behindHowMany 2 = .ok (.iconst 0, 1) := by decide +kernel
theorem dX4_behindHowMany_3 : decode cX4_behindHowMany 3 = .ok (.istore_n 3, 1) := by decide +kernel
theorem dX4_behindHowMany_4 : decode cX4_behindHowMany 4 = .ok (.iload_n 3, 1) := by decide +kernel
theorem dX4_behindHowMany_5 : decode cX4_behindHowMany 5 = .ok (.aload_n 0, 1) := by decide +kernel
theorem dX4_behindHowMany_6 : decode cX4_behindHowMany 6 = .ok (.getfield 26, 3) := by decide +kernel
theorem dX4_behindHowMany_9 : decode cX4_behindHowMany 9 = .ok (.getfield 38, 3) := by decide +kernel
theorem dX4_behindHowMany_12 : decode cX4_behindHowMany 12 = .ok (.if_icmp .ge 26, 3) := by decide +kernel
theorem dX4_behindHowMany_15 : decode cX4_behindHowMany 15 = .ok (.iload_n 2, 1) := by decide +kernel
theorem dX4_behindHowMany_16 : decode cX4_behindHowMany 16 = .ok (.aload_n 0, 1) := by decide +kernel
theorem dX4_behindHowMany_17 : decode cX4_behindHowMany 17 = .ok (.iload_n 1, 1) := by decide +kernel
theorem dX4_behindHowMany_18 : decode cX4_behindHowMany 18 = .ok (.iload_n 3, 1) := by decide +kernel
theorem dX4_behindHowMany_19 : decode cX4_behindHowMany 19 = .ok (.invokevirtual 59, 3) := by decide +kernel
theorem dX4_behindHowMany_22 : decode cX4_behindHowMany 22 = .ok (.ifCond .eq 7, 3) := by decide +kernel
theorem dX4_behindHowMany_25 : decode cX4_behindHowMany 25 = .ok (.iconst 1, 1) := by decide +kernel
theorem dX4_behindHowMany_26 : decode cX4_behindHowMany 26 = .ok (.goto 4, 3) := by decide +kernel
theorem dX4_behindHowMany_29 : decode cX4_behindHowMany 29 = .ok (.iconst 0, 1) := by decide +kernel
theorem dX4_behindHowMany_30 : decode cX4_behindHowMany 30 = .ok (.iadd, 1) := by decide +kernel
theorem dX4_behindHowMany_31 : decode cX4_behindHowMany 31 = .ok (.istore_n 2, 1) := by decide +kernel
theorem dX4_behindHowMany_32 : decode cX4_behindHowMany 32 = .ok (.iinc 3 1, 3) := by decide +kernel
theorem dX4_behindHowMany_35 : decode cX4_behindHowMany 35 = .ok (.goto (-31), 3) := by decide +kernel
theorem dX4_behindHowMany_38 : decode cX4_behindHowMany 38 = .ok (.iload_n 2, 1) := by decide +kernel
theorem dX4_behindHowMany_39 : decode cX4_behindHowMany 39 = .ok (.ireturn, 1) := by decide +kernel
theorem dX4_isBehind_0 : decode cX4_isBehind 0 = .ok (.aload_n 0, 1) := by decide +kernel
theorem dX4_isBehind_1 : decode cX4_isBehind 1 = .ok (.getfield 9, 3) := by decide +kernel
theorem dX4_isBehind_4 : decode cX4_isBehind 4 = .ok (.iload_n 2, 1) := by decide +kernel
theorem dX4_isBehind_5 : decode cX4_isBehind 5 = .ok (.iaload, 1) := by decide +kernel
theorem dX4_isBehind_6 : decode cX4_isBehind 6 = .ok (.istore_n 3, 1) := by decide +kernel
theorem dX4_isBehind_7 : decode cX4_isBehind 7 = .ok (.iload_n 3, 1) := by decide +kernel
theorem dX4_isBehind_8 : decode cX4_isBehind 8 = .ok (.ifCond .eq 30, 3) := by decide +kernel
theorem dX4_isBehind_11 : decode cX4_isBehind 11 = .ok (.iload_n 3, 1) := by decide +kernel
theorem dX4_isBehind_12 : decode cX4_isBehind 12 = .ok (.aload_n 0, 1) := by decide +kernel
theorem dX4_isBehind_13 : decode cX4_isBehind 13 = .ok (.getfield 9, 3) := by decide +kernel
theorem dX4_isBehind_16 : decode cX4_isBehind 16 = .ok (.iload_n 1, 1) := by decide +kernel
theorem dX4_isBehind_17 : decode cX4_isBehind 17 = .ok (.iaload, 1) := by decide +kernel
theorem dX4_isBehind_18 : decode cX4_isBehind 18 = .ok (.iconst (-1), 1) := by decide +kernel
theorem dX4_isBehind_19 : decode cX4_isBehind 19 = .ok (.ixor, 1) := by decide +kernel
theorem dX4_isBehind_20 : decode cX4_isBehind 20 = .ok (.iand, 1) := by decide +kernel
theorem dX4_isBehind_21 : decode cX4_isBehind 21 = .ok (.ifCond .ne 17, 3) := by decide +kernel
theorem dX4_isBehind_24 : decode cX4_isBehind 24 = .ok (.iload_n 3, 1) := by decide +kernel
theorem dX4_isBehind_25 : decode cX4_isBehind 25 = .ok (.aload_n 0, 1) := by decide +kernel
theorem dX4_isBehind_26 : decode cX4_isBehind 26 = .ok (.getfield 9, 3) := by decide +kernel
theorem dX4_isBehind_29 : decode cX4_isBehind 29 = .ok (.iload_n 1, 1) := by decide +kernel
theorem dX4_isBehind_30 : decode cX4_isBehind 30 = .ok (.iaload, 1) := by decide +kernel
theorem dX4_isBehind_31 : decode cX4_isBehind 31 = .ok (.if_icmp .eq 7, 3) := by decide +kernel
theorem dX4_isBehind_34 : decode cX4_isBehind 34 = .ok (.iconst 1, 1) := by decide +kernel
theorem dX4_isBehind_35 : decode cX4_isBehind 35 = .ok (.goto 4, 3) := by decide +kernel
theorem dX4_isBehind_38 : decode cX4_isBehind 38 = .ok (.iconst 0, 1) := by decide +kernel
theorem dX4_isBehind_39 : decode cX4_isBehind 39 = .ok (.ireturn, 1) := by decide +kernel
theorem dX4_isHidden_0 : decode cX4_isHidden 0 = .ok (.aload_n 0, 1) := by decide +kernel
theorem dX4_isHidden_1 : decode cX4_isHidden 1 = .ok (.getfield 9, 3) := by decide +kernel
theorem dX4_isHidden_4 : decode cX4_isHidden 4 = .ok (.iload_n 1, 1) := by decide +kernel
theorem dX4_isHidden_5 : decode cX4_isHidden 5 = .ok (.iaload, 1) := by decide +kernel
theorem dX4_isHidden_6 : decode cX4_isHidden 6 = .ok (.ifCond .ne 19, 3) := by decide +kernel
theorem dX4_isHidden_9 : decode cX4_isHidden 9 = .ok (.aload_n 0, 1) := by decide +kernel
theorem dX4_isHidden_10 : decode cX4_isHidden 10 = .ok (.getfield 26, 3) := by decide +kernel
theorem dX4_isHidden_13 : decode cX4_isHidden 13 = .ok (.getfield 63, 3) := by decide +kernel
theorem dX4_isHidden_16 : decode cX4_isHidden 16 = .ok (.iload_n 1, 1) := by decide +kernel
theorem dX4_isHidden_17 : decode cX4_isHidden 17 = .ok (.iaload, 1) := by decide +kernel
theorem dX4_isHidden_18 : decode cX4_isHidden 18 = .ok (.ifCond .eq 7, 3) := by decide +kernel
theorem dX4_isHidden_21 : decode cX4_isHidden 21 = .ok (.iconst 1, 1) := by decide +kernel
theorem dX4_isHidden_22 : decode cX4_isHidden 22 = .ok (.goto 4, 3) := by decide +kernel
theorem dX4_isHidden_25 : decode cX4_isHidden 25 = .ok (.iconst 0, 1) := by decide +kernel
theorem dX4_isHidden_26 : decode cX4_isHidden 26 = .ok (.ireturn, 1) := by decide +kernel
theorem dX4_noticedOnes_0 : decode cX4_noticedOnes 0 = .ok (.iconst 0, 1) := by decide +kernel
theorem dX4_noticedOnes_1 : decode cX4_noticedOnes 1 = .ok (.istore_n 1, 1) := by decide +kernel
theorem dX4_noticedOnes_2 : decode cX4_noticedOnes 2 = .ok (.iconst 0, 1) := by decide +kernel
theorem dX4_noticedOnes_3 : decode cX4_noticedOnes 3 = .ok (.istore_n 2, 1) := by decide +kernel
theorem dX4_noticedOnes_4 : decode cX4_noticedOnes 4 = .ok (.iload_n 2, 1) := by decide +kernel
theorem dX4_noticedOnes_5 : decode cX4_noticedOnes 5 = .ok (.aload_n 0, 1) := by decide +kernel
theorem dX4_noticedOnes_6 : decode cX4_noticedOnes 6 = .ok (.getfield 26, 3) := by decide +kernel
theorem dX4_noticedOnes_9 : decode cX4_noticedOnes 9 = .ok (.getfield 38, 3) := by decide +kernel
theorem dX4_noticedOnes_12 : decode cX4_noticedOnes 12 = .ok (.if_icmp .ge 26, 3) := by decide +kernel
theorem dX4_noticedOnes_15 : decode cX4_noticedOnes 15 = .ok (.iload_n 1, 1) := by decide +kernel
theorem dX4_noticedOnes_16 : decode cX4_noticedOnes 16 = .ok (.aload_n 0, 1) := by decide +kernel
theorem dX4_noticedOnes_17 : decode cX4_noticedOnes 17 = .ok (.getfield 9, 3) := by decide +kernel
theorem dX4_noticedOnes_20 : decode cX4_noticedOnes 20 = .ok (.iload_n 2, 1) := by decide +kernel
theorem dX4_noticedOnes_21 : decode cX4_noticedOnes 21 = .ok (.iaload, 1) := by decide +kernel
theorem dX4_noticedOnes_22 : decode cX4_noticedOnes 22 = .ok (.ifCond .eq 7, 3) := by decide +kernel
theorem dX4_noticedOnes_25 : decode cX4_noticedOnes 25 = .ok (.iconst 1, 1) := by decide +kernel
theorem dX4_noticedOnes_26 : decode cX4_noticedOnes 26 = .ok (.goto 4, 3) := by decide +kernel
theorem dX4_noticedOnes_29 : decode cX4_noticedOnes 29 = .ok (.iconst 0, 1) := by decide +kernel
theorem dX4_noticedOnes_30 : decode cX4_noticedOnes 30 = .ok (.iadd, 1) := by decide +kernel
theorem dX4_noticedOnes_31 : decode cX4_noticedOnes 31 = .ok (.istore_n 1, 1) := by decide +kernel
theorem dX4_noticedOnes_32 : decode cX4_noticedOnes 32 = .ok (.iinc 2 1, 3) := by decide +kernel
theorem dX4_noticedOnes_35 : decode cX4_noticedOnes 35 = .ok (.goto (-31), 3) := by decide +kernel
theorem dX4_noticedOnes_38 : decode cX4_noticedOnes 38 = .ok (.iload_n 1, 1) := by decide +kernel
theorem dX4_noticedOnes_39 : decode cX4_noticedOnes 39 = .ok (.ireturn, 1) := by decide +kernel
set_option maxRecDepth 20000 in
theorem ggX4_hiddenOnes_X4_isHidden : GoodIn wsX4_hiddenOnes wsX4_isHidden := goodIn_r _ [7, 8, 1, 9, 10, 11, 12, 13, 14, 15, 16, 17, 18, 19, 20, 21] (by decide +kernel) (by decide +kernel)
set_option maxRecDepth 20000 in
theorem gX4_hiddenOnes_X4_isHidden : GoodIn wsX4_hiddenOnes (wsV RX4 66 RX4 yX4_isHidden wsX4_isHidden) := goodIn_app (goodIn_of _ (by decide +kernel)) ggX4_hiddenOnes_X4_isHidden
theorem dX4_hiddenOnes_0 : decode cX4_hiddenOnes 0 = .ok (.iconst 0, 1) := by decide +kernel
theorem dX4_hiddenOnes_1 : decode cX4_hiddenOnes 1 = .ok (.istore_n 1, 1) := by decide +kernel
theorem dX4_hiddenOnes_2 : decode cX4_hiddenOnes 2 = .ok (.iconst 0, 1) := by decide +kernel
theorem dX4_hiddenOnes_3 : decode cX4_hiddenOnes 3 = .ok (.istore_n 2, 1) := by decide +kernel
theorem dX4_hiddenOnes_4 : decode cX4_hiddenOnes 4 = .ok (.iload_n 2, 1) := by decide +kernel
theorem dX4_hiddenOnes_5 : decode cX4_hiddenOnes 5 = .ok (.aload_n 0, 1) := by decide +kernel
theorem dX4_hiddenOnes_6 : decode cX4_hiddenOnes 6 = .ok (.getfield 26, 3) := by decide +kernel
theorem dX4_hiddenOnes_9 : decode cX4_hiddenOnes 9 = .ok (.getfield 38, 3) := by decide +kernel
theorem dX4_hiddenOnes_12 : decode cX4_hiddenOnes 12 = .ok (.if_icmp .ge 25, 3) := by decide +kernel
theorem dX4_hiddenOnes_15 : decode cX4_hiddenOnes 15 = .ok (.iload_n 1, 1) := by decide +kernel
theorem dX4_hiddenOnes_16 : decode cX4_hiddenOnes 16 = .ok (.aload_n 0, 1) := by decide +kernel
theorem dX4_hiddenOnes_17 : decode cX4_hiddenOnes 17 = .ok (.iload_n 2, 1) := by decide +kernel
theorem dX4_hiddenOnes_18 : decode cX4_hiddenOnes 18 = .ok (.invokevirtual 66, 3) := by decide +kernel
theorem dX4_hiddenOnes_21 : decode cX4_hiddenOnes 21 = .ok (.ifCond .eq 7, 3) := by decide +kernel
theorem dX4_hiddenOnes_24 : decode cX4_hiddenOnes 24 = .ok (.iconst 1, 1) := by decide +kernel
theorem dX4_hiddenOnes_25 : decode cX4_hiddenOnes 25 = .ok (.goto 4, 3) := by decide +kernel
theorem dX4_hiddenOnes_28 : decode cX4_hiddenOnes 28 = .ok (.iconst 0, 1) := by decide +kernel
theorem dX4_hiddenOnes_29 : decode cX4_hiddenOnes 29 = .ok (.iadd, 1) := by decide +kernel
theorem dX4_hiddenOnes_30 : decode cX4_hiddenOnes 30 = .ok (.istore_n 1, 1) := by decide +kernel
theorem dX4_hiddenOnes_31 : decode cX4_hiddenOnes 31 = .ok (.iinc 2 1, 3) := by decide +kernel
theorem dX4_hiddenOnes_34 : decode cX4_hiddenOnes 34 = .ok (.goto (-30), 3) := by decide +kernel
theorem dX4_hiddenOnes_37 : decode cX4_hiddenOnes 37 = .ok (.iload_n 1, 1) := by decide +kernel
theorem dX4_hiddenOnes_38 : decode cX4_hiddenOnes 38 = .ok (.ireturn, 1) := by decide +kernel
set_option maxRecDepth 20000 in
theorem ggX4_frontOnes_X4_behindHowMany : GoodIn wsX4_frontOnes wsX4_behindHowMany := goodIn_r _ [8, 1, 2, 9, 10, 11, 7, 12, 3, 13, 14, 15, 16, 17, 18, 19, 20, 21, 22, 23, 24] (by decide +kernel) (by decide +kernel)
set_option maxRecDepth 20000 in
theorem gX4_frontOnes_X4_behindHowMany : GoodIn wsX4_frontOnes (wsV RX4 70 RX4 yX4_behindHowMany wsX4_behindHowMany) := goodIn_app (goodIn_of _ (by decide +kernel)) ggX4_frontOnes_X4_behindHowMany
theorem dX4_frontOnes_0 : decode cX4_frontOnes 0 = .ok (.iconst 0, 1) := by decide +kernel
theorem dX4_frontOnes_1 : decode cX4_frontOnes 1 = .ok (.istore_n 1, 1) := by decide +kernel
theorem dX4_frontOnes_2 : decode cX4_frontOnes 2 = .ok (.iconst 0, 1) := by decide +kernel
theorem dX4_frontOnes_3 : decode cX4_frontOnes 3 = .ok (.istore_n 2, 1) := by decide +kernel
theorem dX4_frontOnes_4 : decode cX4_frontOnes 4 = .ok (.iload_n 2, 1) := by decide +kernel
theorem dX4_frontOnes_5 : decode cX4_frontOnes 5 = .ok (.aload_n 0, 1) := by decide +kernel
theorem dX4_frontOnes_6 : decode cX4_frontOnes 6 = .ok (.getfield 26, 3) := by decide +kernel
theorem dX4_frontOnes_9 : decode cX4_frontOnes 9 = .ok (.getfield 38, 3) := by decide +kernel
theorem dX4_frontOnes_12 : decode cX4_frontOnes 12 = .ok (.if_icmp .ge 34, 3) := by decide +kernel
theorem dX4_frontOnes_15 : decode cX4_frontOnes 15 = .ok (.iload_n 1, 1) := by decide +kernel
theorem dX4_frontOnes_16 : decode cX4_frontOnes 16 = .ok (.aload_n 0, 1) := by decide +kernel
theorem dX4_frontOnes_17 : decode cX4_frontOnes 17 = .ok (.getfield 9, 3) := by decide +kernel
theorem dX4_frontOnes_20 : decode cX4_frontOnes 20 = .ok (.iload_n 2, 1) := by decide +kernel
theorem dX4_frontOnes_21 : decode cX4_frontOnes 21 = .ok (.iaload, 1) := by decide +kernel
theorem dX4_frontOnes_22 : decode cX4_frontOnes 22 = .ok (.ifCond .eq 15, 3) := by decide +kernel
theorem dX4_frontOnes_25 : decode cX4_frontOnes 25 = .ok (.aload_n 0, 1) := by decide +kernel
theorem dX4_frontOnes_26 : decode cX4_frontOnes 26 = .ok (.iload_n 2, 1) := by decide +kernel
theorem dX4_frontOnes_27 : decode cX4_frontOnes 27 = .ok (.invokevirtual 70, 3) := by decide +kernel
theorem dX4_frontOnes_30 : decode cX4_frontOnes 30 = .ok (.ifCond .ne 7, 3) := by decide +kernel
theorem dX4_frontOnes_33 : decode cX4_frontOnes 33 = .ok (.iconst 1, 1) := by decide +kernel
theorem dX4_frontOnes_34 : decode cX4_frontOnes 34 = .ok (.goto 4, 3) := by decide +kernel
theorem dX4_frontOnes_37 : decode cX4_frontOnes 37 = .ok (.iconst 0, 1) := by decide +kernel
theorem dX4_frontOnes_38 : decode cX4_frontOnes 38 = .ok (.iadd, 1) := by decide +kernel
theorem dX4_frontOnes_39 : decode cX4_frontOnes 39 = .ok (.istore_n 1, 1) := by decide +kernel
theorem dX4_frontOnes_40 : decode cX4_frontOnes 40 = .ok (.iinc 2 1, 3) := by decide +kernel
theorem dX4_frontOnes_43 : decode cX4_frontOnes 43 = .ok (.goto (-39), 3) := by decide +kernel
theorem dX4_frontOnes_46 : decode cX4_frontOnes 46 = .ok (.iload_n 1, 1) := by decide +kernel
theorem dX4_frontOnes_47 : decode cX4_frontOnes 47 = .ok (.ireturn, 1) := by decide +kernel
set_option maxRecDepth 20000 in
theorem ggX4_findWished_X4_gatherHidden : GoodIn wsX4_findWished wsX4_gatherHidden := goodIn_r _ [7, 8, 9, 10, 11, 12, 13, 14, 6, 15, 16, 17, 18, 19, 20, 21, 22, 23, 24, 25, 33, 34, 35, 36, 37, 38, 39, 40, 41, 42, 43, 44, 45, 46, 47, 48] (by decide +kernel) (by decide +kernel)
set_option maxRecDepth 20000 in
theorem gX4_findWished_X4_gatherHidden : GoodIn wsX4_findWished (wsV RX4 73 RX4 yX4_gatherHidden wsX4_gatherHidden) := goodIn_app (goodIn_of _ (by decide +kernel)) ggX4_findWished_X4_gatherHidden
set_option maxRecDepth 20000 in
theorem ggX4_findWished_X4_findWishedIn : GoodIn wsX4_findWished wsX4_findWishedIn := goodIn_r _ [29, 10, 2, 1, 30, 31, 21, 32, 33, 34, 35, 36, 37, 38, 39] (by decide +kernel) (by decide +kernel)
set_option maxRecDepth 20000 in
theorem gX4_findWished_X4_findWishedIn : GoodIn wsX4_findWished (wsV RX4 76 RX4 yX4_findWishedIn wsX4_findWishedIn) := goodIn_app (goodIn_of _ (by decide +kernel)) ggX4_findWished_X4_findWishedIn
theorem dX4_findWished_0 : decode cX4_findWished 0 = .ok (.aload_n 0, 1) := by decide +kernel
theorem dX4_findWished_1 : decode cX4_findWished 1 = .ok (.bipush (-6), 2) := by decide +kernel
theorem dX4_findWished_3 : decode cX4_findWished 3 = .ok (.putfield 15, 3) := by decide +kernel
theorem dX4_findWished_6 : decode cX4_findWished 6 = .ok (.aload_n 0, 1) := by decide +kernel
theorem dX4_findWished_7 : decode cX4_findWished 7 = .ok (.iconst 0, 1) := by decide +kernel
theorem dX4_findWished_8 : decode cX4_findWished 8 = .ok (.putfield 19, 3) := by decide +kernel
theorem dX4_findWished_11 : decode cX4_findWished 11 = .ok (.iconst 0, 1) := by decide +kernel
theorem dX4_findWished_12 : decode cX4_findWished 12 = .ok (.istore_n 1, 1) := by decide +kernel
theorem dX4_findWished_13 : decode cX4_findWished 13 = .ok (.iload_n 1, 1) := by decide +kernel
theorem dX4_findWished_14 : decode cX4_findWished 14 = .ok (.bipush 8, 2) := by decide +kernel
theorem dX4_findWished_16 : decode cX4_findWished 16 = .ok (.if_icmp .ge 19, 3) := by decide +kernel
theorem dX4_findWished_19 : decode cX4_findWished 19 = .ok (.aload_n 0, 1) := by decide +kernel
theorem dX4_findWished_20 : decode cX4_findWished 20 = .ok (.iload_n 1, 1) := by decide +kernel
theorem dX4_findWished_21 : decode cX4_findWished 21 = .ok (.aload_n 0, 1) := by decide +kernel
theorem dX4_findWished_22 : decode cX4_findWished 22 = .ok (.iload_n 1, 1) := by decide +kernel
theorem dX4_findWished_23 : decode cX4_findWished 23 = .ok (.invokevirtual 73, 3) := by decide +kernel
theorem dX4_findWished_26 : decode cX4_findWished 26 = .ok (.invokevirtual 76, 3) := by decide +kernel
theorem dX4_findWished_29 : decode cX4_findWished 29 = .ok (.iinc 1 1, 3) := by decide +kernel
theorem dX4_findWished_32 : decode cX4_findWished 32 = .ok (.goto (-19), 3) := by decide +kernel
theorem dX4_findWished_35 : decode cX4_findWished 35 = .ok (.return_, 1) := by decide +kernel
set_option maxRecDepth 20000 in
theorem ggX4_gatherHidden_X4_isHidden : GoodIn wsX4_gatherHidden wsX4_isHidden := goodIn_r _ [9, 10, 1, 11, 20, 21, 22, 23, 24, 25, 26, 27, 28, 29, 30, 31] (by decide +kernel) (by decide +kernel)
set_option maxRecDepth 20000 in
theorem gX4_gatherHidden_X4_isHidden : GoodIn wsX4_gatherHidden (wsV RX4 66 RX4 yX4_isHidden wsX4_isHidden) := goodIn_app (goodIn_of _ (by decide +kernel)) ggX4_gatherHidden_X4_isHidden
set_option maxRecDepth 20000 in
theorem ggX4_gatherHidden_X7_unlike : GoodIn wsX4_gatherHidden wsX7_unlike := goodIn_r _ [16, 17, 18, 19, 32, 33, 34, 35] (by decide +kernel) (by decide +kernel)
set_option maxRecDepth 20000 in
theorem gX4_gatherHidden_X7_unlike : GoodIn wsX4_gatherHidden (wsV RX4 80 RX7 yX7_unlike wsX7_unlike) := goodIn_app (goodIn_of _ (by decide +kernel)) ggX4_gatherHidden_X7_unlike
theorem dX4_gatherHidden_0 : decode cX4_gatherHidden 0 = .ok (.iconst 0, 1) := by decide +kernel
theorem dX4_gatherHidden_1 : decode cX4_gatherHidden 1 = .ok (.istore_n 2, 1) := by decide +kernel
theorem dX4_gatherHidden_2 : decode cX4_gatherHidden 2 = .ok (.iconst 0, 1) := by decide +kernel
theorem dX4_gatherHidden_3 : decode cX4_gatherHidden 3 = .ok (.istore_n 3, 1) := by decide +kernel
theorem dX4_gatherHidden_4 : decode cX4_gatherHidden 4 = .ok (.iload_n 3, 1) := by decide +kernel
theorem dX4_gatherHidden_5 : decode cX4_gatherHidden 5 = .ok (.aload_n 0, 1) := by decide +kernel
theorem dX4_gatherHidden_6 : decode cX4_gatherHidden 6 = .ok (.getfield 26, 3) := by decide +kernel
theorem dX4_gatherHidden_9 : decode cX4_gatherHidden 9 = .ok (.getfield 38, 3) := by decide +kernel
theorem dX4_gatherHidden_12 : decode cX4_gatherHidden 12 = .ok (.if_icmp .ge 38, 3) := by decide +kernel
theorem dX4_gatherHidden_15 : decode cX4_gatherHidden 15 = .ok (.aload_n 0, 1) := by decide +kernel
theorem dX4_gatherHidden_16 : decode cX4_gatherHidden 16 = .ok (.iload_n 3, 1) := by decide +kernel
theorem dX4_gatherHidden_17 : decode cX4_gatherHidden 17 = .ok (.invokevirtual 66, 3) := by decide +kernel
theorem dX4_gatherHidden_20 : decode cX4_gatherHidden 20 = .ok (.ifCond .eq 24, 3) := by decide +kernel
theorem dX4_gatherHidden_23 : decode cX4_gatherHidden 23 = .ok (.aload_n 0, 1) := by decide +kernel
theorem dX4_gatherHidden_24 : decode cX4_gatherHidden 24 = .ok (.getfield 22, 3) := by decide +kernel
theorem dX4_gatherHidden_27 : decode cX4_gatherHidden 27 = .ok (.iload_n 2, 1) := by decide +kernel
theorem dX4_gatherHidden_28 : decode cX4_gatherHidden 28 = .ok (.aload_n 0, 1) := by decide +kernel
theorem dX4_gatherHidden_29 : decode cX4_gatherHidden 29 = .ok (.getfield 34, 3) := by decide +kernel
theorem dX4_gatherHidden_32 : decode cX4_gatherHidden 32 = .ok (.iconst 2, 1) := by decide +kernel
theorem dX4_gatherHidden_33 : decode cX4_gatherHidden 33 = .ok (.iload_n 3, 1) := by decide +kernel
theorem dX4_gatherHidden_34 : decode cX4_gatherHidden 34 = .ok (.iadd, 1) := by decide +kernel
theorem dX4_gatherHidden_35 : decode cX4_gatherHidden 35 = .ok (.iconst 0, 1) := by decide +kernel
theorem dX4_gatherHidden_36 : decode cX4_gatherHidden 36 = .ok (.iload_n 1, 1) := by decide +kernel
theorem dX4_gatherHidden_37 : decode cX4_gatherHidden 37 = .ok (.invokevirtual 80, 3) := by decide +kernel
theorem dX4_gatherHidden_40 : decode cX4_gatherHidden 40 = .ok (.lastore, 1) := by decide +kernel
theorem dX4_gatherHidden_41 : decode cX4_gatherHidden 41 = .ok (.iinc 2 1, 3) := by decide +kernel
theorem dX4_gatherHidden_44 : decode cX4_gatherHidden 44 = .ok (.iinc 3 1, 3) := by decide +kernel
theorem dX4_gatherHidden_47 : decode cX4_gatherHidden 47 = .ok (.goto (-43), 3) := by decide +kernel
theorem dX4_gatherHidden_50 : decode cX4_gatherHidden 50 = .ok (.iload_n 2, 1) := by decide +kernel
theorem dX4_gatherHidden_51 : decode cX4_gatherHidden 51 = .ok (.ireturn, 1) := by decide +kernel
set_option maxRecDepth 20000 in
theorem ggX4_findWishedIn_X7_bitAt : GoodIn wsX4_findWishedIn wsX7_bitAt := goodIn_r _ [7] (by decide +kernel) (by decide +kernel)
set_option maxRecDepth 20000 in
theorem gX4_findWishedIn_X7_bitAt : GoodIn wsX4_findWishedIn (va_wsS RX4 84 yX7_bitAt wsX7_bitAt) := goodIn_app (goodIn_of _ (by decide +kernel)) ggX4_findWishedIn_X7_bitAt
theorem dX4_findWishedIn_0 : decode cX4_findWishedIn 0 = .ok (.iconst 0, 1) := by decide +kernel
theorem dX4_findWishedIn_1 : decode cX4_findWishedIn 1 = .ok (.istore_n 3, 1) := by decide +kernel
theorem dX4_findWishedIn_2 : decode cX4_findWishedIn 2 = .ok (.iload_n 3, 1) := by decide +kernel
theorem dX4_findWishedIn_3 : decode cX4_findWishedIn 3 = .ok (.bipush 64, 2) := by decide +kernel
theorem dX4_findWishedIn_5 : decode cX4_findWishedIn 5 = .ok (.if_icmp .ge 68, 3) := by decide +kernel
theorem dX4_findWishedIn_8 : decode cX4_findWishedIn 8 = .ok (.iconst 0, 1) := by decide +kernel
theorem dX4_findWishedIn_9 : decode cX4_findWishedIn 9 = .ok (.istore 4, 2) := by decide +kernel
theorem dX4_findWishedIn_11 : decode cX4_findWishedIn 11 = .ok (.iconst 0, 1) := by decide +kernel
theorem dX4_findWishedIn_12 : decode cX4_findWishedIn 12 = .ok (.istore 5, 2) := by decide +kernel
theorem dX4_findWishedIn_14 : decode cX4_findWishedIn 14 = .ok (.iload 5, 2) := by decide +kernel
theorem dX4_findWishedIn_16 : decode cX4_findWishedIn 16 = .ok (.iload_n 2, 1) := by decide +kernel
theorem dX4_findWishedIn_17 : decode cX4_findWishedIn 17 = .ok (.if_icmp .ge 25, 3) := by decide +kernel
theorem dX4_findWishedIn_20 : decode cX4_findWishedIn 20 = .ok (.iload 4, 2) := by decide +kernel
theorem dX4_findWishedIn_22 : decode cX4_findWishedIn 22 = .ok (.aload_n 0, 1) := by decide +kernel
theorem dX4_findWishedIn_23 : decode cX4_findWishedIn 23 = .ok (.getfield 22, 3) := by decide +kernel
theorem dX4_findWishedIn_26 : decode cX4_findWishedIn 26 = .ok (.iload 5, 2) := by decide +kernel
theorem dX4_findWishedIn_28 : decode cX4_findWishedIn 28 = .ok (.laload, 1) := by decide +kernel
theorem dX4_findWishedIn_29 : decode cX4_findWishedIn 29 = .ok (.iload_n 3, 1) := by decide +kernel
theorem dX4_findWishedIn_30 : decode cX4_findWishedIn 30 = .ok (.invokestatic 84, 3) := by decide +kernel
theorem dX4_findWishedIn_33 : decode cX4_findWishedIn 33 = .ok (.iadd, 1) := by decide +kernel
theorem dX4_findWishedIn_34 : decode cX4_findWishedIn 34 = .ok (.istore 4, 2) := by decide +kernel
theorem dX4_findWishedIn_36 : decode cX4_findWishedIn 36 = .ok (.iinc 5 1, 3) := by decide +kernel
theorem dX4_findWishedIn_39 : decode cX4_findWishedIn 39 = .ok (.goto (-25), 3) := by decide +kernel
theorem dX4_findWishedIn_42 : decode cX4_findWishedIn 42 = .ok (.iload 4, 2) := by decide +kernel
theorem dX4_findWishedIn_44 : decode cX4_findWishedIn 44 = .ok (.aload_n 0, 1) := by decide +kernel
theorem dX4_findWishedIn_45 : decode cX4_findWishedIn 45 = .ok (.getfield 19, 3) := by decide +kernel
theorem dX4_findWishedIn_48 : decode cX4_findWishedIn 48 = .ok (.if_icmp .le 19, 3) := by decide +kernel
theorem dX4_findWishedIn_51 : decode cX4_findWishedIn 51 = .ok (.aload_n 0, 1) := by decide +kernel
theorem dX4_findWishedIn_52 : decode cX4_findWishedIn 52 = .ok (.iload 4, 2) := by decide +kernel
theorem dX4_findWishedIn_54 : decode cX4_findWishedIn 54 = .ok (.putfield 19, 3) := by decide +kernel
theorem dX4_findWishedIn_57 : decode cX4_findWishedIn 57 = .ok (.aload_n 0, 1) := by decide +kernel
theorem dX4_findWishedIn_58 : decode cX4_findWishedIn 58 = .ok (.iload_n 1, 1) := by decide +kernel
theorem dX4_findWishedIn_59 : decode cX4_findWishedIn 59 = .ok (.bipush 64, 2) := by decide +kernel
theorem dX4_findWishedIn_61 : decode cX4_findWishedIn 61 = .ok (.imul, 1) := by decide +kernel
theorem dX4_findWishedIn_62 : decode cX4_findWishedIn 62 = .ok (.iload_n 3, 1) := by decide +kernel
theorem dX4_findWishedIn_63 : decode cX4_findWishedIn 63 = .ok (.iadd, 1) := by decide +kernel
theorem dX4_findWishedIn_64 : decode cX4_findWishedIn 64 = .ok (.putfield 15, 3) := by decide +kernel
theorem dX4_findWishedIn_67 : decode cX4_findWishedIn 67 = .ok (.iinc 3 1, 3) := by decide +kernel
theorem dX4_findWishedIn_70 : decode cX4_findWishedIn 70 = .ok (.goto (-68), 3) := by decide +kernel
theorem dX4_findWishedIn_73 : decode cX4_findWishedIn 73 = .ok (.return_, 1) := by decide +kernel
theorem dX5_init_0 : decode cX5_init 0 = .ok (.aload_n 0, 1) := by decide +kernel
theorem dX5_init_1 : decode cX5_init 1 = .ok (.invokespecial 3, 3) := by decide +kernel
theorem dX5_init_4 : decode cX5_init 4 = .ok (.aload_n 0, 1) := by decide +kernel
theorem dX5_init_5 : decode cX5_init 5 = .ok (.bipush 40, 2) := by decide +kernel
theorem dX5_init_7 : decode cX5_init 7 = .ok (.newarray .int, 2) := by decide +kernel
theorem dX5_init_9 : decode cX5_init 9 = .ok (.putfield 9, 3) := by decide +kernel
theorem dX5_init_12 : decode cX5_init 12 = .ok (.aload_n 0, 1) := by decide +kernel
theorem dX5_init_13 : decode cX5_init 13 = .ok (.iconst 0, 1) := by decide +kernel
theorem dX5_init_14 : decode cX5_init 14 = .ok (.putfield 15, 3) := by decide +kernel
theorem dX5_init_17 : decode cX5_init 17 = .ok (.aload_n 0, 1) := by decide +kernel
theorem dX5_init_18 : decode cX5_init 18 = .ok (.bipush 10, 2) := by decide +kernel
theorem dX5_init_20 : decode cX5_init 20 = .ok (.newarray .int, 2) := by decide +kernel
theorem dX5_init_22 : decode cX5_init 22 = .ok (.putfield 19, 3) := by decide +kernel
theorem dX5_init_25 : decode cX5_init 25 = .ok (.return_, 1) := by decide +kernel
set_option maxRecDepth 20000 in
theorem ggX5_firstFault_X5_deepestLack : GoodIn wsX5_firstFault wsX5_deepestLack := goodIn_r _ [8, 1, 108, 109, 110] (by decide +kernel) (by decide +kernel)
set_option maxRecDepth 20000 in
theorem gX5_firstFault_X5_deepestLack : GoodIn wsX5_firstFault (wsV RX5 22 RX5 yX5_deepestLack wsX5_deepestLack) := goodIn_app (goodIn_of _ (by decide +kernel)) ggX5_firstFault_X5_deepestLack
set_option maxRecDepth 20000 in
theorem ggX5_firstFault_X5_mayStand : GoodIn wsX5_firstFault wsX5_mayStand := goodIn_r _ [11, 12, 13, 14, 15, 16, 17, 18, 19, 20, 21, 22, 23, 24, 25, 26, 27, 28, 29, 30, 31, 32, 33, 34, 35, 36, 37, 38, 39, 40, 41, 42, 43, 44, 45, 46, 47, 48, 49, 50, 51, 52, 53, 54, 55, 56, 57, 58, 59, 60, 61, 62, 63, 64, 65, 66, 67, 68, 69, 70, 71, 72, 73, 74, 75, 76, 77, 78, 79, 80, 81, 82, 83, 84, 85, 86, 87, 88, 89, 90, 91, 92, 93, 94, 95, 96, 97, 98, 99, 100, 101, 102, 103, 104, 105, 106, 107] (by decide +kernel) (by decide +kernel)
set_option maxRecDepth 20000 in
theorem gX5_firstFault_X5_mayStand : GoodIn wsX5_firstFault (va_wsS RX5 26 yX5_mayStand wsX5_mayStand) := goodIn_app (goodIn_of _ (by decide +kernel)) ggX5_firstFault_X5_mayStand
set_option maxRecDepth 20000 in
theorem ggX5_firstFault_X9_partsWanted : GoodIn wsX5_firstFault wsX9_partsWanted := goodIn_r _ [15, 16, 17, 18, 19, 20, 21, 22, 23, 24, 25, 26, 27, 28, 29, 30, 31, 32, 33, 34, 35, 36, 37, 38, 39, 40, 41, 42, 43, 44, 45, 46, 47, 48, 49, 50, 51, 52, 53, 54, 55, 56, 57, 58, 59, 60, 61, 62, 63, 64, 65, 66, 67, 68, 69, 70, 71, 72, 73, 74, 75, 76, 77, 78, 79, 80, 81, 82, 83, 84, 85, 86, 87, 88, 89, 90, 91, 92, 93, 94, 95, 96, 97, 98, 99, 100, 101, 102, 103, 104, 105, 106, 14, 107] (by decide +kernel) (by decide +kernel)
set_option maxRecDepth 20000 in
theorem gX5_firstFault_X9_partsWanted : GoodIn wsX5_firstFault (va_wsS RX5 30 yX9_partsWanted wsX9_partsWanted) := goodIn_app (goodIn_of _ (by decide +kernel)) ggX5_firstFault_X9_partsWanted
theorem dX5_firstFault_0 : decode cX5_firstFault 0 = .ok (.iconst 0, 1) := by decide +kernel
theorem dX5_firstFault_1 : decode cX5_firstFault 1 = .ok (.istore_n 1, 1) := by decide +kernel
theorem dX5_firstFault_2 : decode cX5_firstFault 2 = .ok (.aload_n 0, 1) := by decide +kernel
theorem dX5_firstFault_3 : decode cX5_firstFault 3 = .ok (.getfield 19, 3) := by decide +kernel
theorem dX5_firstFault_6 : decode cX5_firstFault 6 = .ok (.iconst 0, 1) := by decide +kernel
theorem dX5_firstFault_7 : decode cX5_firstFault 7 = .ok (.iconst 1, 1) := by decide +kernel
theorem dX5_firstFault_8 : decode cX5_firstFault 8 = .ok (.iastore, 1) := by decide +kernel
theorem dX5_firstFault_9 : decode cX5_firstFault 9 = .ok (.iconst 0, 1) := by decide +kernel
theorem dX5_firstFault_10 : decode cX5_firstFault 10 = .ok (.istore_n 2, 1) := by decide +kernel
theorem dX5_firstFault_11 : decode cX5_firstFault 11 = .ok (.iload_n 2, 1) := by decide +kernel
theorem dX5_firstFault_12 : decode cX5_firstFault 12 = .ok (.aload_n 0, 1) := by decide +kernel
theorem dX5_firstFault_13 : decode cX5_firstFault 13 = .ok (.getfield 15, 3) := by decide +kernel
theorem dX5_firstFault_16 : decode cX5_firstFault 16 = .ok (.if_icmp .ge 68, 3) := by decide +kernel
theorem dX5_firstFault_19 : decode cX5_firstFault 19 = .ok (.aload_n 0, 1) := by decide +kernel
theorem dX5_firstFault_20 : decode cX5_firstFault 20 = .ok (.iload_n 1, 1) := by decide +kernel
theorem dX5_firstFault_21 : decode cX5_firstFault 21 = .ok (.invokevirtual 22, 3) := by decide +kernel
theorem dX5_firstFault_24 : decode cX5_firstFault 24 = .ok (.istore_n 1, 1) := by decide +kernel
theorem dX5_firstFault_25 : decode cX5_firstFault 25 = .ok (.iload_n 1, 1) := by decide +kernel
theorem dX5_firstFault_26 : decode cX5_firstFault 26 = .ok (.ifCond .lt 16, 3) := by decide +kernel
theorem dX5_firstFault_29 : decode cX5_firstFault 29 = .ok (.aload_n 0, 1) := by decide +kernel
theorem dX5_firstFault_30 : decode cX5_firstFault 30 = .ok (.getfield 9, 3) := by decide +kernel
theorem dX5_firstFault_33 : decode cX5_firstFault 33 = .ok (.iload_n 2, 1) := by decide +kernel
theorem dX5_firstFault_34 : decode cX5_firstFault 34 = .ok (.iaload, 1) := by decide +kernel
theorem dX5_firstFault_35 : decode cX5_firstFault 35 = .ok (.iload_n 1, 1) := by decide +kernel
theorem dX5_firstFault_36 : decode cX5_firstFault 36 = .ok (.invokestatic 26, 3) := by decide +kernel
theorem dX5_firstFault_39 : decode cX5_firstFault 39 = .ok (.ifCond .ne 5, 3) := by decide +kernel
theorem dX5_firstFault_42 : decode cX5_firstFault 42 = .ok (.iload_n 2, 1) := by decide +kernel
theorem dX5_firstFault_43 : decode cX5_firstFault 43 = .ok (.ireturn, 1) := by decide +kernel
theorem dX5_firstFault_44 : decode cX5_firstFault 44 = .ok (.aload_n 0, 1) := by decide +kernel
theorem dX5_firstFault_45 : decode cX5_firstFault 45 = .ok (.getfield 19, 3) := by decide +kernel
theorem dX5_firstFault_48 : decode cX5_firstFault 48 = .ok (.iload_n 1, 1) := by decide +kernel
theorem dX5_firstFault_49 : decode cX5_firstFault 49 = .ok (.dup2, 1) := by decide +kernel
theorem dX5_firstFault_50 : decode cX5_firstFault 50 = .ok (.iaload, 1) := by decide +kernel
theorem dX5_firstFault_51 : decode cX5_firstFault 51 = .ok (.iconst 1, 1) := by decide +kernel
theorem dX5_firstFault_52 : decode cX5_firstFault 52 = .ok (.isub, 1) := by decide +kernel
theorem dX5_firstFault_53 : decode cX5_firstFault 53 = .ok (.iastore, 1) := by decide +kernel
theorem dX5_firstFault_54 : decode cX5_firstFault 54 = .ok (.aload_n 0, 1) := by decide +kernel
theorem dX5_firstFault_55 : decode cX5_firstFault 55 = .ok (.getfield 9, 3) := by decide +kernel
theorem dX5_firstFault_58 : decode cX5_firstFault 58 = .ok (.iload_n 2, 1) := by decide +kernel
theorem dX5_firstFault_59 : decode cX5_firstFault 59 = .ok (.iaload, 1) := by decide +kernel
theorem dX5_firstFault_60 : decode cX5_firstFault 60 = .ok (.invokestatic 30, 3) := by decide +kernel
theorem dX5_firstFault_63 : decode cX5_firstFault 63 = .ok (.istore_n 3, 1) := by decide +kernel
theorem dX5_firstFault_64 : decode cX5_firstFault 64 = .ok (.iload_n 3, 1) := by decide +kernel
theorem dX5_firstFault_65 : decode cX5_firstFault 65 = .ok (.ifCond .le 13, 3) := by decide +kernel
theorem dX5_firstFault_68 : decode cX5_firstFault 68 = .ok (.iinc 1 1, 3) := by decide +kernel
theorem dX5_firstFault_71 : decode cX5_firstFault 71 = .ok (.aload_n 0, 1) := by decide +kernel
theorem dX5_firstFault_72 : decode cX5_firstFault 72 = .ok (.getfield 19, 3) := by decide +kernel
theorem dX5_firstFault_75 : decode cX5_firstFault 75 = .ok (.iload_n 1, 1) := by decide +kernel
theorem dX5_firstFault_76 : decode cX5_firstFault 76 = .ok (.iload_n 3, 1) := by decide +kernel
theorem dX5_firstFault_77 : decode cX5_firstFault 77 = .ok (.iastore, 1) := by decide +kernel
theorem dX5_firstFault_78 : decode cX5_firstFault 78 = .ok (.iinc 2 1, 3) := by decide +kernel
theorem dX5_firstFault_81 : decode cX5_firstFault 81 = .ok (.goto (-70), 3) := by decide +kernel
theorem dX5_firstFault_84 : decode cX5_firstFault 84 = .ok (.aload_n 0, 1) := by decide +kernel
theorem dX5_firstFault_85 : decode cX5_firstFault 85 = .ok (.iload_n 1, 1) := by decide +kernel
theorem dX5_firstFault_86 : decode cX5_firstFault 86 = .ok (.invokevirtual 22, 3) := by decide +kernel
theorem dX5_firstFault_89 : decode cX5_firstFault 89 = .ok (.ifCond .ge 8, 3) := by decide +kernel
theorem dX5_firstFault_92 : decode cX5_firstFault 92 = .ok (.bipush (-6), 2) := by decide +kernel
theorem dX5_firstFault_94 : decode cX5_firstFault 94 = .ok (.goto 7, 3) := by decide +kernel
theorem dX5_firstFault_97 : decode cX5_firstFault 97 = .ok (.aload_n 0, 1) := by decide +kernel
theorem dX5_firstFault_98 : decode cX5_firstFault 98 = .ok (.getfield 15, 3) := by decide +kernel
theorem dX5_firstFault_101 : decode cX5_firstFault 101 = .ok (.ireturn, 1) := by decide +kernel
theorem dX5_deepestLack_0 : decode cX5_deepestLack 0 = .ok (.iload_n 1, 1) := by decide +kernel
theorem dX5_deepestLack_1 : decode cX5_deepestLack 1 = .ok (.istore_n 2, 1) := by decide +kernel
theorem dX5_deepestLack_2 : decode cX5_deepestLack 2 = .ok (.iload_n 2, 1) := by decide +kernel
theorem dX5_deepestLack_3 : decode cX5_deepestLack 3 = .ok (.ifCond .lt 18, 3) := by decide +kernel
theorem dX5_deepestLack_6 : decode cX5_deepestLack 6 = .ok (.aload_n 0, 1) := by decide +kernel
theorem dX5_deepestLack_7 : decode cX5_deepestLack 7 = .ok (.getfield 19, 3) := by decide +kernel
theorem dX5_deepestLack_10 : decode cX5_deepestLack 10 = .ok (.iload_n 2, 1) := by decide +kernel
theorem dX5_deepestLack_11 : decode cX5_deepestLack 11 = .ok (.iaload, 1) := by decide +kernel
theorem dX5_deepestLack_12 : decode cX5_deepestLack 12 = .ok (.ifCond .ne 9, 3) := by decide +kernel
theorem dX5_deepestLack_15 : decode cX5_deepestLack 15 = .ok (.iinc 2 (-1), 3) := by decide +kernel
theorem dX5_deepestLack_18 : decode cX5_deepestLack 18 = .ok (.goto (-16), 3) := by decide +kernel
theorem dX5_deepestLack_21 : decode cX5_deepestLack 21 = .ok (.iload_n 2, 1) := by decide +kernel
theorem dX5_deepestLack_22 : decode cX5_deepestLack 22 = .ok (.ireturn, 1) := by decide +kernel
set_option maxRecDepth 20000 in
theorem ggX5_mayStand_X9_partsWanted : GoodIn wsX5_mayStand wsX9_partsWanted := goodIn_r _ [4, 5, 6, 7, 8, 9, 10, 11, 12, 13, 14, 15, 16, 17, 18, 19, 20, 21, 22, 23, 24, 25, 26, 27, 28, 29, 30, 31, 32, 33, 34, 35, 36, 37, 38, 39, 40, 41, 42, 43, 44, 45, 46, 47, 48, 49, 50, 51, 52, 53, 54, 55, 56, 57, 58, 59, 60, 61, 62, 63, 64, 65, 66, 67, 68, 69, 70, 71, 72, 73, 74, 75, 76, 77, 78, 79, 80, 81, 82, 83, 84, 85, 86, 87, 88, 89, 90, 91, 92, 93, 94, 95, 3, 96] (by decide +kernel) (by decide +kernel)
set_option maxRecDepth 20000 in
theorem gX5_mayStand_X9_partsWanted : GoodIn wsX5_mayStand (va_wsS RX5 30 yX9_partsWanted wsX9_partsWanted) := goodIn_app (goodIn_of _ (by decide +kernel)) ggX5_mayStand_X9_partsWanted
theorem dX5_mayStand_0 : decode cX5_mayStand 0 = .ok (.iload_n 0, 1) := by decide +kernel
theorem dX5_mayStand_1 : decode cX5_mayStand 1 = .ok (.invokestatic 30, 3) := by decide +kernel
theorem dX5_mayStand_4 : decode cX5_mayStand 4 = .ok (.istore_n 2, 1) := by decide +kernel
theorem dX5_mayStand_5 : decode cX5_mayStand 5 = .ok (.iload_n 2, 1) := by decide +kernel
theorem dX5_mayStand_6 : decode cX5_mayStand 6 = .ok (.ifCond .eq 13, 3) := by decide +kernel
theorem dX5_mayStand_9 : decode cX5_mayStand 9 = .ok (.iload_n 2, 1) := by decide +kernel
theorem dX5_mayStand_10 : decode cX5_mayStand 10 = .ok (.ifCond .le 13, 3) := by decide +kernel
theorem dX5_mayStand_13 : decode cX5_mayStand 13 = .ok (.iload_n 1, 1) := by decide +kernel
theorem dX5_mayStand_14 : decode cX5_mayStand 14 = .ok (.bipush 9, 2) := by decide +kernel
theorem dX5_mayStand_16 : decode cX5_mayStand 16 = .ok (.if_icmp .ge 7, 3) := by decide +kernel
theorem dX5_mayStand_19 : decode cX5_mayStand 19 = .ok (.iconst 1, 1) := by decide +kernel
theorem dX5_mayStand_20 : decode cX5_mayStand 20 = .ok (.goto 4, 3) := by decide +kernel
theorem dX5_mayStand_23 : decode cX5_mayStand 23 = .ok (.iconst 0, 1) := by decide +kernel
theorem dX5_mayStand_24 : decode cX5_mayStand 24 = .ok (.ireturn, 1) := by decide +kernel
theorem dX6_init_0 : decode cX6_init 0 = .ok (.aload_n 0, 1) := by decide +kernel
theorem dX6_init_1 : decode cX6_init 1 = .ok (.invokespecial 3, 3) := by decide +kernel
theorem dX6_init_4 : decode cX6_init 4 = .ok (.aload_n 0, 1) := by decide +kernel
theorem dX6_init_5 : decode cX6_init 5 = .ok (.iconst 0, 1) := by decide +kernel
theorem dX6_init_6 : decode cX6_init 6 = .ok (.putfield 9, 3) := by decide +kernel
theorem dX6_init_9 : decode cX6_init 9 = .ok (.aload_n 0, 1) := by decide +kernel
theorem dX6_init_10 : decode cX6_init 10 = .ok (.iconst 0, 1) := by decide +kernel
theorem dX6_init_11 : decode cX6_init 11 = .ok (.putfield 15, 3) := by decide +kernel
theorem dX6_init_14 : decode cX6_init 14 = .ok (.aload_n 0, 1) := by decide +kernel
theorem dX6_init_15 : decode cX6_init 15 = .ok (.aload_n 1, 1) := by decide +kernel
theorem dX6_init_16 : decode cX6_init 16 = .ok (.putfield 18, 3) := by decide +kernel
theorem dX6_init_19 : decode cX6_init 19 = .ok (.return_, 1) := by decide +kernel
set_option maxRecDepth 20000 in
theorem ggX6_isAt_X7_isUnlikeAt : GoodIn wsX6_isAt wsX7_isUnlikeAt := goodIn_r _ [6, 7, 8, 9, 5, 10, 11, 12, 13, 14, 15, 16, 20, 21, 22, 23] (by decide +kernel) (by decide +kernel)
set_option maxRecDepth 20000 in
theorem gX6_isAt_X7_isUnlikeAt : GoodIn wsX6_isAt (wsV RX6 22 RX7 yX7_isUnlikeAt wsX7_isUnlikeAt) := goodIn_app (goodIn_of _ (by decide +kernel)) ggX6_isAt_X7_isUnlikeAt
theorem dX6_isAt_0 : decode cX6_isAt 0 = .ok (.aload_n 0, 1) := by decide +kernel
theorem dX6_isAt_1 : decode cX6_isAt 1 = .ok (.getfield 18, 3) := by decide +kernel
theorem dX6_isAt_4 : decode cX6_isAt 4 = .ok (.iconst 0, 1) := by decide +kernel
theorem dX6_isAt_5 : decode cX6_isAt 5 = .ok (.iconst 1, 1) := by decide +kernel
theorem dX6_isAt_6 : decode cX6_isAt 6 = .ok (.iload_n 1, 1) := by decide +kernel
theorem dX6_isAt_7 : decode cX6_isAt 7 = .ok (.invokevirtual 22, 3) := by decide +kernel
theorem dX6_isAt_10 : decode cX6_isAt 10 = .ok (.ireturn, 1) := by decide +kernel
set_option maxRecDepth 20000 in
theorem ggX6_leastInputs_X6_isAt : GoodIn wsX6_leastInputs wsX6_isAt := goodIn_r _ [5, 6, 7, 8, 9, 10, 11, 12, 13, 14, 15, 16, 17, 18, 19, 20, 21, 28, 29, 30, 31, 32, 33, 34] (by decide +kernel) (by decide +kernel)
set_option maxRecDepth 20000 in
theorem gX6_leastInputs_X6_isAt : GoodIn wsX6_leastInputs (wsV RX6 28 RX6 yX6_isAt wsX6_isAt) := goodIn_app (goodIn_of _ (by decide +kernel)) ggX6_leastInputs_X6_isAt
set_option maxRecDepth 20000 in
theorem ggX6_leastInputs_X6_together : GoodIn wsX6_leastInputs wsX6_together := goodIn_r _ [24, 25, 26, 4, 27] (by decide +kernel) (by decide +kernel)
set_option maxRecDepth 20000 in
theorem gX6_leastInputs_X6_together : GoodIn wsX6_leastInputs (va_wsS RX6 32 yX6_together wsX6_together) := goodIn_app (goodIn_of _ (by decide +kernel)) ggX6_leastInputs_X6_together
theorem dX6_leastInputs_0 : decode cX6_leastInputs 0 = .ok (.bipush (-6), 2) := by decide +kernel
theorem dX6_leastInputs_2 : decode cX6_leastInputs 2 = .ok (.istore_n 1, 1) := by decide +kernel
theorem dX6_leastInputs_3 : decode cX6_leastInputs 3 = .ok (.iconst 0, 1) := by decide +kernel
theorem dX6_leastInputs_4 : decode cX6_leastInputs 4 = .ok (.istore_n 2, 1) := by decide +kernel
theorem dX6_leastInputs_5 : decode cX6_leastInputs 5 = .ok (.iload_n 2, 1) := by decide +kernel
theorem dX6_leastInputs_6 : decode cX6_leastInputs 6 = .ok (.sipush 512, 3) := by decide +kernel
theorem dX6_leastInputs_9 : decode cX6_leastInputs 9 = .ok (.if_icmp .ge 36, 3) := by decide +kernel
theorem dX6_leastInputs_12 : decode cX6_leastInputs 12 = .ok (.aload_n 0, 1) := by decide +kernel
theorem dX6_leastInputs_13 : decode cX6_leastInputs 13 = .ok (.iload_n 2, 1) := by decide +kernel
theorem dX6_leastInputs_14 : decode cX6_leastInputs 14 = .ok (.invokevirtual 28, 3) := by decide +kernel
theorem dX6_leastInputs_17 : decode cX6_leastInputs 17 = .ok (.ifCond .eq 22, 3) := by decide +kernel
theorem dX6_leastInputs_20 : decode cX6_leastInputs 20 = .ok (.iload_n 1, 1) := by decide +kernel
theorem dX6_leastInputs_21 : decode cX6_leastInputs 21 = .ok (.bipush (-6), 2) := by decide +kernel
theorem dX6_leastInputs_23 : decode cX6_leastInputs 23 = .ok (.if_icmp .eq 14, 3) := by decide +kernel
theorem dX6_leastInputs_26 : decode cX6_leastInputs 26 = .ok (.iload_n 2, 1) := by decide +kernel
theorem dX6_leastInputs_27 : decode cX6_leastInputs 27 = .ok (.invokestatic 32, 3) := by decide +kernel
theorem dX6_leastInputs_30 : decode cX6_leastInputs 30 = .ok (.iload_n 1, 1) := by decide +kernel
theorem dX6_leastInputs_31 : decode cX6_leastInputs 31 = .ok (.invokestatic 32, 3) := by decide +kernel
theorem dX6_leastInputs_34 : decode cX6_leastInputs 34 = .ok (.if_icmp .ge 5, 3) := by decide +kernel
theorem dX6_leastInputs_37 : decode cX6_leastInputs 37 = .ok (.iload_n 2, 1) := by decide +kernel
theorem dX6_leastInputs_38 : decode cX6_leastInputs 38 = .ok (.istore_n 1, 1) := by decide +kernel
theorem dX6_leastInputs_39 : decode cX6_leastInputs 39 = .ok (.iinc 2 1, 3) := by decide +kernel
theorem dX6_leastInputs_42 : decode cX6_leastInputs 42 = .ok (.goto (-37), 3) := by decide +kernel
theorem dX6_leastInputs_45 : decode cX6_leastInputs 45 = .ok (.iload_n 1, 1) := by decide +kernel
theorem dX6_leastInputs_46 : decode cX6_leastInputs 46 = .ok (.ireturn, 1) := by decide +kernel
set_option maxRecDepth 20000 in
theorem ggX6_together_X6_digitOf : GoodIn wsX6_together wsX6_digitOf := goodIn_r _ [4] (by decide +kernel) (by decide +kernel)
set_option maxRecDepth 20000 in
theorem gX6_together_X6_digitOf : GoodIn wsX6_together (va_wsS RX6 36 yX6_digitOf wsX6_digitOf) := goodIn_app (goodIn_of _ (by decide +kernel)) ggX6_together_X6_digitOf
theorem dX6_together_0 : decode cX6_together 0 = .ok (.iload_n 0, 1) := by decide +kernel
theorem dX6_together_1 : decode cX6_together 1 = .ok (.iconst 0, 1) := by decide +kernel
theorem dX6_together_2 : decode cX6_together 2 = .ok (.invokestatic 36, 3) := by decide +kernel
theorem dX6_together_5 : decode cX6_together 5 = .ok (.iload_n 0, 1) := by decide +kernel
theorem dX6_together_6 : decode cX6_together 6 = .ok (.iconst 1, 1) := by decide +kernel
theorem dX6_together_7 : decode cX6_together 7 = .ok (.invokestatic 36, 3) := by decide +kernel
theorem dX6_together_10 : decode cX6_together 10 = .ok (.iadd, 1) := by decide +kernel
theorem dX6_together_11 : decode cX6_together 11 = .ok (.iload_n 0, 1) := by decide +kernel
theorem dX6_together_12 : decode cX6_together 12 = .ok (.iconst 2, 1) := by decide +kernel
theorem dX6_together_13 : decode cX6_together 13 = .ok (.invokestatic 36, 3) := by decide +kernel
theorem dX6_together_16 : decode cX6_together 16 = .ok (.iadd, 1) := by decide +kernel
theorem dX6_together_17 : decode cX6_together 17 = .ok (.ireturn, 1) := by decide +kernel
theorem dX6_digitOf_0 : decode cX6_digitOf 0 = .ok (.iload_n 0, 1) := by decide +kernel
theorem dX6_digitOf_1 : decode cX6_digitOf 1 = .ok (.iconst 3, 1) := by decide +kernel
theorem dX6_digitOf_2 : decode cX6_digitOf 2 = .ok (.iload_n 1, 1) := by decide +kernel
theorem dX6_digitOf_3 : decode cX6_digitOf 3 = .ok (.imul, 1) := by decide +kernel
theorem dX6_digitOf_4 : decode cX6_digitOf 4 = .ok (.ishr, 1) := by decide +kernel
theorem dX6_digitOf_5 : decode cX6_digitOf 5 = .ok (.bipush 8, 2) := by decide +kernel
theorem dX6_digitOf_7 : decode cX6_digitOf 7 = .ok (.irem, 1) := by decide +kernel
theorem dX6_digitOf_8 : decode cX6_digitOf 8 = .ok (.ireturn, 1) := by decide +kernel
set_option maxRecDepth 20000 in
theorem ggX6_goDown_X6_nextDown : GoodIn wsX6_goDown wsX6_nextDown := goodIn_r _ [7, 8, 9, 6, 10, 11, 12, 13, 14, 15, 16, 17, 18, 19, 20, 21, 22, 23, 24, 25, 26, 27, 28, 29, 30, 31, 32, 33, 34, 35, 36, 37, 38, 39, 40, 41, 42, 43, 44] (by decide +kernel) (by decide +kernel)
set_option maxRecDepth 20000 in
theorem gX6_goDown_X6_nextDown : GoodIn wsX6_goDown (wsV RX6 40 RX6 yX6_nextDown wsX6_nextDown) := goodIn_app (goodIn_of _ (by decide +kernel)) ggX6_goDown_X6_nextDown
theorem dX6_goDown_0 : decode cX6_goDown 0 = .ok (.aload_n 0, 1) := by decide +kernel
theorem dX6_goDown_1 : decode cX6_goDown 1 = .ok (.iload_n 1, 1) := by decide +kernel
theorem dX6_goDown_2 : decode cX6_goDown 2 = .ok (.putfield 9, 3) := by decide +kernel
theorem dX6_goDown_5 : decode cX6_goDown 5 = .ok (.aload_n 0, 1) := by decide +kernel
theorem dX6_goDown_6 : decode cX6_goDown 6 = .ok (.iconst 0, 1) := by decide +kernel
theorem dX6_goDown_7 : decode cX6_goDown 7 = .ok (.putfield 15, 3) := by decide +kernel
theorem dX6_goDown_10 : decode cX6_goDown 10 = .ok (.iconst 0, 1) := by decide +kernel
theorem dX6_goDown_11 : decode cX6_goDown 11 = .ok (.istore_n 2, 1) := by decide +kernel
theorem dX6_goDown_12 : decode cX6_goDown 12 = .ok (.iload_n 2, 1) := by decide +kernel
theorem dX6_goDown_13 : decode cX6_goDown 13 = .ok (.sipush 512, 3) := by decide +kernel
theorem dX6_goDown_16 : decode cX6_goDown 16 = .ok (.if_icmp .ge 42, 3) := by decide +kernel
theorem dX6_goDown_19 : decode cX6_goDown 19 = .ok (.aload_n 0, 1) := by decide +kernel
theorem dX6_goDown_20 : decode cX6_goDown 20 = .ok (.aload_n 0, 1) := by decide +kernel
theorem dX6_goDown_21 : decode cX6_goDown 21 = .ok (.getfield 9, 3) := by decide +kernel
theorem dX6_goDown_24 : decode cX6_goDown 24 = .ok (.invokevirtual 40, 3) := by decide +kernel
theorem dX6_goDown_27 : decode cX6_goDown 27 = .ok (.istore_n 3, 1) := by decide +kernel
theorem dX6_goDown_28 : decode cX6_goDown 28 = .ok (.iload_n 3, 1) := by decide +kernel
theorem dX6_goDown_29 : decode cX6_goDown 29 = .ok (.aload_n 0, 1) := by decide +kernel
theorem dX6_goDown_30 : decode cX6_goDown 30 = .ok (.getfield 9, 3) := by decide +kernel
theorem dX6_goDown_33 : decode cX6_goDown 33 = .ok (.if_icmp .ne 4, 3) := by decide +kernel
theorem dX6_goDown_36 : decode cX6_goDown 36 = .ok (.return_, 1) := by decide +kernel
theorem dX6_goDown_37 : decode cX6_goDown 37 = .ok (.aload_n 0, 1) := by decide +kernel
theorem dX6_goDown_38 : decode cX6_goDown 38 = .ok (.iload_n 3, 1) := by decide +kernel
theorem dX6_goDown_39 : decode cX6_goDown 39 = .ok (.putfield 9, 3) := by decide +kernel
theorem dX6_goDown_42 : decode cX6_goDown 42 = .ok (.aload_n 0, 1) := by decide +kernel
theorem dX6_goDown_43 : decode cX6_goDown 43 = .ok (.dup, 1) := by decide +kernel
theorem dX6_goDown_44 : decode cX6_goDown 44 = .ok (.getfield 15, 3) := by decide +kernel
theorem dX6_goDown_47 : decode cX6_goDown 47 = .ok (.iconst 1, 1) := by decide +kernel
theorem dX6_goDown_48 : decode cX6_goDown 48 = .ok (.iadd, 1) := by decide +kernel
theorem dX6_goDown_49 : decode cX6_goDown 49 = .ok (.putfield 15, 3) := by decide +kernel
theorem dX6_goDown_52 : decode cX6_goDown 52 = .ok (.iinc 2 1, 3) := by decide +kernel
theorem dX6_goDown_55 : decode cX6_goDown 55 = .ok (.goto (-43), 3) := by decide +kernel
theorem dX6_goDown_58 : decode cX6_goDown 58 = .ok (.return_, 1) := by decide +kernel
set_option maxRecDepth 20000 in
theorem ggX6_nextDown_X6_stepped : GoodIn wsX6_nextDown wsX6_stepped := goodIn_r _ [4, 5, 6, 7, 8, 9, 10, 3, 11] (by decide +kernel) (by decide +kernel)
set_option maxRecDepth 20000 in
theorem gX6_nextDown_X6_stepped : GoodIn wsX6_nextDown (va_wsS RX6 43 yX6_stepped wsX6_stepped) := goodIn_app (goodIn_of _ (by decide +kernel)) ggX6_nextDown_X6_stepped
set_option maxRecDepth 20000 in
theorem ggX6_nextDown_X6_isAt : GoodIn wsX6_nextDown wsX6_isAt := goodIn_r _ [15, 16, 17, 18, 19, 20, 21, 22, 23, 24, 25, 26, 27, 28, 29, 30, 31, 32, 33, 34, 35, 36, 37, 38] (by decide +kernel) (by decide +kernel)
set_option maxRecDepth 20000 in
theorem gX6_nextDown_X6_isAt : GoodIn wsX6_nextDown (wsV RX6 28 RX6 yX6_isAt wsX6_isAt) := goodIn_app (goodIn_of _ (by decide +kernel)) ggX6_nextDown_X6_isAt
theorem dX6_nextDown_0 : decode cX6_nextDown 0 = .ok (.iconst 0, 1) := by decide +kernel
theorem dX6_nextDown_1 : decode cX6_nextDown 1 = .ok (.istore_n 2, 1) := by decide +kernel
theorem dX6_nextDown_2 : decode cX6_nextDown 2 = .ok (.iload_n 2, 1) := by decide +kernel
theorem dX6_nextDown_3 : decode cX6_nextDown 3 = .ok (.iconst 3, 1) := by decide +kernel
theorem dX6_nextDown_4 : decode cX6_nextDown 4 = .ok (.if_icmp .ge 48, 3) := by decide +kernel
theorem dX6_nextDown_7 : decode cX6_nextDown 7 = .ok (.iconst 0, 1) := by decide +kernel
theorem dX6_nextDown_8 : decode cX6_nextDown 8 = .ok (.istore_n 3, 1) := by decide +kernel
theorem dX6_nextDown_9 : decode cX6_nextDown 9 = .ok (.iload_n 3, 1) := by decide +kernel
theorem dX6_nextDown_10 : decode cX6_nextDown 10 = .ok (.iconst 3, 1) := by decide +kernel
theorem dX6_nextDown_11 : decode cX6_nextDown 11 = .ok (.if_icmp .ge 35, 3) := by decide +kernel
theorem dX6_nextDown_14 : decode cX6_nextDown 14 = .ok (.iload_n 1, 1) := by decide +kernel
theorem dX6_nextDown_15 : decode cX6_nextDown 15 = .ok (.iload_n 2, 1) := by decide +kernel
theorem dX6_nextDown_16 : decode cX6_nextDown 16 = .ok (.iload_n 3, 1) := by decide +kernel
theorem dX6_nextDown_17 : decode cX6_nextDown 17 = .ok (.invokestatic 43, 3) := by decide +kernel
theorem dX6_nextDown_20 : decode cX6_nextDown 20 = .ok (.istore 4, 2) := by decide +kernel
theorem dX6_nextDown_22 : decode cX6_nextDown 22 = .ok (.iload 4, 2) := by decide +kernel
theorem dX6_nextDown_24 : decode cX6_nextDown 24 = .ok (.iload_n 1, 1) := by decide +kernel
theorem dX6_nextDown_25 : decode cX6_nextDown 25 = .ok (.if_icmp .eq 15, 3) := by decide +kernel
theorem dX6_nextDown_28 : decode cX6_nextDown 28 = .ok (.aload_n 0, 1) := by decide +kernel
theorem dX6_nextDown_29 : decode cX6_nextDown 29 = .ok (.iload 4, 2) := by decide +kernel
theorem dX6_nextDown_31 : decode cX6_nextDown 31 = .ok (.invokevirtual 28, 3) := by decide +kernel
theorem dX6_nextDown_34 : decode cX6_nextDown 34 = .ok (.ifCond .eq 6, 3) := by decide +kernel
theorem dX6_nextDown_37 : decode cX6_nextDown 37 = .ok (.iload 4, 2) := by decide +kernel
theorem dX6_nextDown_39 : decode cX6_nextDown 39 = .ok (.ireturn, 1) := by decide +kernel
theorem dX6_nextDown_40 : decode cX6_nextDown 40 = .ok (.iinc 3 1, 3) := by decide +kernel
theorem dX6_nextDown_43 : decode cX6_nextDown 43 = .ok (.goto (-34), 3) := by decide +kernel
theorem dX6_nextDown_46 : decode cX6_nextDown 46 = .ok (.iinc 2 1, 3) := by decide +kernel
theorem dX6_nextDown_49 : decode cX6_nextDown 49 = .ok (.goto (-47), 3) := by decide +kernel
theorem dX6_nextDown_52 : decode cX6_nextDown 52 = .ok (.iload_n 1, 1) := by decide +kernel
theorem dX6_nextDown_53 : decode cX6_nextDown 53 = .ok (.ireturn, 1) := by decide +kernel
set_option maxRecDepth 20000 in
theorem ggX6_stepped_X6_digitOf : GoodIn wsX6_stepped wsX6_digitOf := goodIn_r _ [8] (by decide +kernel) (by decide +kernel)
set_option maxRecDepth 20000 in
theorem gX6_stepped_X6_digitOf : GoodIn wsX6_stepped (va_wsS RX6 36 yX6_digitOf wsX6_digitOf) := goodIn_app (goodIn_of _ (by decide +kernel)) ggX6_stepped_X6_digitOf
theorem dX6_stepped_0 : decode cX6_stepped 0 = .ok (.iload_n 0, 1) := by decide +kernel
theorem dX6_stepped_1 : decode cX6_stepped 1 = .ok (.iload_n 2, 1) := by decide +kernel
theorem dX6_stepped_2 : decode cX6_stepped 2 = .ok (.invokestatic 36, 3) := by decide +kernel
theorem dX6_stepped_5 : decode cX6_stepped 5 = .ok (.istore_n 3, 1) := by decide +kernel
theorem dX6_stepped_6 : decode cX6_stepped 6 = .ok (.iload_n 1, 1) := by decide +kernel
theorem dX6_stepped_7 : decode cX6_stepped 7 = .ok (.ifCond .ne 7, 3) := by decide +kernel
theorem dX6_stepped_10 : decode cX6_stepped 10 = .ok (.iconst 0, 1) := by decide +kernel
theorem dX6_stepped_11 : decode cX6_stepped 11 = .ok (.goto 21, 3) := by decide +kernel
theorem dX6_stepped_14 : decode cX6_stepped 14 = .ok (.iload_n 1, 1) := by decide +kernel
theorem dX6_stepped_15 : decode cX6_stepped 15 = .ok (.iconst 1, 1) := by decide +kernel
theorem dX6_stepped_16 : decode cX6_stepped 16 = .ok (.if_icmp .ne 9, 3) := by decide +kernel
theorem dX6_stepped_19 : decode cX6_stepped 19 = .ok (.iload_n 3, 1) := by decide +kernel
theorem dX6_stepped_20 : decode cX6_stepped 20 = .ok (.iconst 2, 1) := by decide +kernel
theorem dX6_stepped_21 : decode cX6_stepped 21 = .ok (.idiv, 1) := by decide +kernel
theorem dX6_stepped_22 : decode cX6_stepped 22 = .ok (.goto 10, 3) := by decide +kernel
theorem dX6_stepped_25 : decode cX6_stepped 25 = .ok (.iload_n 3, 1) := by decide +kernel
theorem dX6_stepped_26 : decode cX6_stepped 26 = .ok (.iconst 1, 1) := by decide +kernel
theorem dX6_stepped_27 : decode cX6_stepped 27 = .ok (.isub, 1) := by decide +kernel
theorem dX6_stepped_28 : decode cX6_stepped 28 = .ok (.iconst 0, 1) := by decide +kernel
theorem dX6_stepped_29 : decode cX6_stepped 29 = .ok (.invokestatic 47, 3) := by decide +kernel
theorem dX6_stepped_32 : decode cX6_stepped 32 = .ok (.istore 4, 2) := by decide +kernel
theorem dX6_stepped_34 : decode cX6_stepped 34 = .ok (.iload_n 0, 1) := by decide +kernel
theorem dX6_stepped_35 : decode cX6_stepped 35 = .ok (.iload_n 3, 1) := by decide +kernel
theorem dX6_stepped_36 : decode cX6_stepped 36 = .ok (.iload 4, 2) := by decide +kernel
theorem dX6_stepped_38 : decode cX6_stepped 38 = .ok (.isub, 1) := by decide +kernel
theorem dX6_stepped_39 : decode cX6_stepped 39 = .ok (.iconst 3, 1) := by decide +kernel
theorem dX6_stepped_40 : decode cX6_stepped 40 = .ok (.iload_n 2, 1) := by decide +kernel
theorem dX6_stepped_41 : decode cX6_stepped 41 = .ok (.imul, 1) := by decide +kernel
theorem dX6_stepped_42 : decode cX6_stepped 42 = .ok (.ishl, 1) := by decide +kernel
theorem dX6_stepped_43 : decode cX6_stepped 43 = .ok (.isub, 1) := by decide +kernel
theorem dX6_stepped_44 : decode cX6_stepped 44 = .ok (.ireturn, 1) := by decide +kernel
theorem dX7_init_0 : decode cX7_init 0 = .ok (.aload_n 0, 1) := by decide +kernel
theorem dX7_init_1 : decode cX7_init 1 = .ok (.invokespecial 3, 3) := by decide +kernel
theorem dX7_init_4 : decode cX7_init 4 = .ok (.aload_n 0, 1) := by decide +kernel
theorem dX7_init_5 : decode cX7_init 5 = .ok (.sipush 784, 3) := by decide +kernel
theorem dX7_init_8 : decode cX7_init 8 = .ok (.newarray .long, 2) := by decide +kernel
theorem dX7_init_10 : decode cX7_init 10 = .ok (.putfield 11, 3) := by decide +kernel
theorem dX7_init_13 : decode cX7_init 13 = .ok (.aload_n 0, 1) := by decide +kernel
theorem dX7_init_14 : decode cX7_init 14 = .ok (.sipush 784, 3) := by decide +kernel
theorem dX7_init_17 : decode cX7_init 17 = .ok (.newarray .long, 2) := by decide +kernel
theorem dX7_init_19 : decode cX7_init 19 = .ok (.putfield 15, 3) := by decide +kernel
theorem dX7_init_22 : decode cX7_init 22 = .ok (.aload_n 0, 1) := by decide +kernel
theorem dX7_init_23 : decode cX7_init 23 = .ok (.sipush 784, 3) := by decide +kernel
theorem dX7_init_26 : decode cX7_init 26 = .ok (.newarray .long, 2) := by decide +kernel
theorem dX7_init_28 : decode cX7_init 28 = .ok (.putfield 18, 3) := by decide +kernel
theorem dX7_init_31 : decode cX7_init 31 = .ok (.aload_n 0, 1) := by decide +kernel
theorem dX7_init_32 : decode cX7_init 32 = .ok (.aload_n 1, 1) := by decide +kernel
theorem dX7_init_33 : decode cX7_init 33 = .ok (.putfield 21, 3) := by decide +kernel
theorem dX7_init_36 : decode cX7_init 36 = .ok (.return_, 1) := by decide +kernel
set_option maxRecDepth 20000 in
theorem ggX7_workOutText_X7_workOutChanged : GoodIn wsX7_workOutText wsX7_workOutChanged := goodIn_r _ [5, 6, 7, 8, 9, 10, 11, 12, 13, 14, 15, 16, 17, 18, 19, 20, 21, 22, 23, 24, 25, 26, 27, 28, 29, 30, 31, 32, 33, 34, 35, 36, 37, 38, 39, 40, 41, 42, 43, 44, 45, 46, 47, 48, 49, 50, 51, 52, 53, 54, 55, 56, 57, 58, 59, 60, 61, 62, 63, 64, 65, 66, 67, 68, 69, 70, 71, 72, 73, 74, 75, 76, 77, 78, 79, 80, 81, 82, 83, 84, 85, 86, 87, 88, 89, 90, 91, 92, 93, 94, 95, 96] (by decide +kernel) (by decide +kernel)
set_option maxRecDepth 20000 in
theorem gX7_workOutText_X7_workOutChanged : GoodIn wsX7_workOutText (wsV RX7 25 RX7 yX7_workOutChanged wsX7_workOutChanged) := goodIn_app (goodIn_of _ (by decide +kernel)) ggX7_workOutText_X7_workOutChanged
theorem dX7_workOutText_0 : decode cX7_workOutText 0 = .ok (.aload_n 0, 1) := by decide +kernel
theorem dX7_workOutText_1 : decode cX7_workOutText 1 = .ok (.iload_n 1, 1) := by decide +kernel
theorem dX7_workOutText_2 : decode cX7_workOutText 2 = .ok (.aload_n 2, 1) := by decide +kernel
theorem dX7_workOutText_3 : decode cX7_workOutText 3 = .ok (.bipush (-6), 2) := by decide +kernel
theorem dX7_workOutText_5 : decode cX7_workOutText 5 = .ok (.iconst 0, 1) := by decide +kernel
theorem dX7_workOutText_6 : decode cX7_workOutText 6 = .ok (.invokevirtual 25, 3) := by decide +kernel
theorem dX7_workOutText_9 : decode cX7_workOutText 9 = .ok (.return_, 1) := by decide +kernel
set_option maxRecDepth 20000 in
theorem ggX7_workOutChanged_X10_workOut : GoodIn wsX7_workOutChanged wsX10_workOut := goodIn_r _ [12, 13, 14, 15, 16, 17, 18, 11, 19, 20, 21, 22, 23, 24, 25, 26, 27, 28, 29, 30, 31, 32, 33, 34, 35, 36, 37, 38, 39, 40, 41, 42, 43, 44, 45, 46, 47, 48, 49, 50, 51, 52, 53, 54, 55, 56, 57, 58, 59, 60, 61, 62, 63, 64, 65, 66, 67, 68, 69, 70, 71, 72, 73, 74, 75, 76, 85, 86, 87, 88, 89, 90, 91, 81, 82, 83, 84] (by decide +kernel) (by decide +kernel)
set_option maxRecDepth 20000 in
theorem gX7_workOutChanged_X10_workOut : GoodIn wsX7_workOutChanged (wsV RX7 29 RX10 yX10_workOut wsX10_workOut) := goodIn_app (goodIn_of _ (by decide +kernel)) ggX7_workOutChanged_X10_workOut
theorem dX7_workOutChanged_0 : decode cX7_workOutChanged 0 = .ok (.iconst 0, 1) := by decide +kernel
theorem dX7_workOutChanged_1 : decode cX7_workOutChanged 1 = .ok (.istore 5, 2) := by decide +kernel
theorem dX7_workOutChanged_3 : decode cX7_workOutChanged 3 = .ok (.iload 5, 2) := by decide +kernel
theorem dX7_workOutChanged_5 : decode cX7_workOutChanged 5 = .ok (.bipush 8, 2) := by decide +kernel
theorem dX7_workOutChanged_7 : decode cX7_workOutChanged 7 = .ok (.if_icmp .ge 79, 3) := by decide +kernel
theorem dX7_workOutChanged_10 : decode cX7_workOutChanged 10 = .ok (.aload_n 0, 1) := by decide +kernel
theorem dX7_workOutChanged_11 : decode cX7_workOutChanged 11 = .ok (.getfield 21, 3) := by decide +kernel
theorem dX7_workOutChanged_14 : decode cX7_workOutChanged 14 = .ok (.aload_n 2, 1) := by decide +kernel
theorem dX7_workOutChanged_15 : decode cX7_workOutChanged 15 = .ok (.iload_n 3, 1) := by decide +kernel
theorem dX7_workOutChanged_16 : decode cX7_workOutChanged 16 = .ok (.iload 4, 2) := by decide +kernel
theorem dX7_workOutChanged_18 : decode cX7_workOutChanged 18 = .ok (.iload 5, 2) := by decide +kernel
theorem dX7_workOutChanged_20 : decode cX7_workOutChanged 20 = .ok (.invokevirtual 29, 3) := by decide +kernel
theorem dX7_workOutChanged_23 : decode cX7_workOutChanged 23 = .ok (.iload_n 1, 1) := by decide +kernel
theorem dX7_workOutChanged_24 : decode cX7_workOutChanged 24 = .ok (.bipush 8, 2) := by decide +kernel
theorem dX7_workOutChanged_26 : decode cX7_workOutChanged 26 = .ok (.imul, 1) := by decide +kernel
theorem dX7_workOutChanged_27 : decode cX7_workOutChanged 27 = .ok (.iload 5, 2) := by decide +kernel
theorem dX7_workOutChanged_29 : decode cX7_workOutChanged 29 = .ok (.iadd, 1) := by decide +kernel
theorem dX7_workOutChanged_30 : decode cX7_workOutChanged 30 = .ok (.istore 6, 2) := by decide +kernel
theorem dX7_workOutChanged_32 : decode cX7_workOutChanged 32 = .ok (.aload_n 0, 1) := by decide +kernel
theorem dX7_workOutChanged_33 : decode cX7_workOutChanged 33 = .ok (.getfield 11, 3) := by decide +kernel
theorem dX7_workOutChanged_36 : decode cX7_workOutChanged 36 = .ok (.iload 6, 2) := by decide +kernel
theorem dX7_workOutChanged_38 : decode cX7_workOutChanged 38 = .ok (.aload_n 0, 1) := by decide +kernel
theorem dX7_workOutChanged_39 : decode cX7_workOutChanged 39 = .ok (.getfield 21, 3) := by decide +kernel
theorem dX7_workOutChanged_42 : decode cX7_workOutChanged 42 = .ok (.getfield 35, 3) := by decide +kernel
theorem dX7_workOutChanged_45 : decode cX7_workOutChanged 45 = .ok (.iconst 0, 1) := by decide +kernel
theorem dX7_workOutChanged_46 : decode cX7_workOutChanged 46 = .ok (.laload, 1) := by decide +kernel
theorem dX7_workOutChanged_47 : decode cX7_workOutChanged 47 = .ok (.lastore, 1) := by decide +kernel
theorem dX7_workOutChanged_48 : decode cX7_workOutChanged 48 = .ok (.aload_n 0, 1) := by decide +kernel
theorem dX7_workOutChanged_49 : decode cX7_workOutChanged 49 = .ok (.getfield 15, 3) := by decide +kernel
theorem dX7_workOutChanged_52 : decode cX7_workOutChanged 52 = .ok (.iload 6, 2) := by decide +kernel
theorem dX7_workOutChanged_54 : decode cX7_workOutChanged 54 = .ok (.aload_n 0, 1) := by decide +kernel
theorem dX7_workOutChanged_55 : decode cX7_workOutChanged 55 = .ok (.getfield 21, 3) := by decide +kernel
theorem dX7_workOutChanged_58 : decode cX7_workOutChanged 58 = .ok (.getfield 36, 3) := by decide +kernel
theorem dX7_workOutChanged_61 : decode cX7_workOutChanged 61 = .ok (.iconst 0, 1) := by decide +kernel
theorem dX7_workOutChanged_62 : decode cX7_workOutChanged 62 = .ok (.laload, 1) := by decide +kernel
theorem dX7_workOutChanged_63 : decode cX7_workOutChanged 63 = .ok (.lastore, 1) := by decide +kernel
theorem dX7_workOutChanged_64 : decode cX7_workOutChanged 64 = .ok (.aload_n 0, 1) := by decide +kernel
theorem dX7_workOutChanged_65 : decode cX7_workOutChanged 65 = .ok (.getfield 18, 3) := by decide +kernel
theorem dX7_workOutChanged_68 : decode cX7_workOutChanged 68 = .ok (.iload 6, 2) := by decide +kernel
theorem dX7_workOutChanged_70 : decode cX7_workOutChanged 70 = .ok (.aload_n 0, 1) := by decide +kernel
theorem dX7_workOutChanged_71 : decode cX7_workOutChanged 71 = .ok (.getfield 21, 3) := by decide +kernel
theorem dX7_workOutChanged_74 : decode cX7_workOutChanged 74 = .ok (.getfield 37, 3) := by decide +kernel
theorem dX7_workOutChanged_77 : decode cX7_workOutChanged 77 = .ok (.iconst 0, 1) := by decide +kernel
theorem dX7_workOutChanged_78 : decode cX7_workOutChanged 78 = .ok (.laload, 1) := by decide +kernel
theorem dX7_workOutChanged_79 : decode cX7_workOutChanged 79 = .ok (.lastore, 1) := by decide +kernel
theorem dX7_workOutChanged_80 : decode cX7_workOutChanged 80 = .ok (.iinc 5 1, 3) := by decide +kernel
theorem dX7_workOutChanged_83 : decode cX7_workOutChanged 83 = .ok (.goto (-80), 3) := by decide +kernel
theorem dX7_workOutChanged_86 : decode cX7_workOutChanged 86 = .ok (.return_, 1) := by decide +kernel
set_option maxRecDepth 20000 in
theorem ggX7_at_X7_bitAt : GoodIn wsX7_at wsX7_bitAt := goodIn_r _ [7] (by decide +kernel) (by decide +kernel)
set_option maxRecDepth 20000 in
theorem gX7_at_X7_bitAt : GoodIn wsX7_at (va_wsS RX7 38 yX7_bitAt wsX7_bitAt) := goodIn_app (goodIn_of _ (by decide +kernel)) ggX7_at_X7_bitAt
theorem dX7_at_0 : decode cX7_at 0 = .ok (.iload_n 1, 1) := by decide +kernel
theorem dX7_at_1 : decode cX7_at 1 = .ok (.bipush 8, 2) := by decide +kernel
theorem dX7_at_3 : decode cX7_at 3 = .ok (.imul, 1) := by decide +kernel
theorem dX7_at_4 : decode cX7_at 4 = .ok (.iload_n 2, 1) := by decide +kernel
theorem dX7_at_5 : decode cX7_at 5 = .ok (.bipush 64, 2) := by decide +kernel
theorem dX7_at_7 : decode cX7_at 7 = .ok (.idiv, 1) := by decide +kernel
theorem dX7_at_8 : decode cX7_at 8 = .ok (.iadd, 1) := by decide +kernel
theorem dX7_at_9 : decode cX7_at 9 = .ok (.istore_n 3, 1) := by decide +kernel
theorem dX7_at_10 : decode cX7_at 10 = .ok (.iload_n 2, 1) := by decide +kernel
theorem dX7_at_11 : decode cX7_at 11 = .ok (.bipush 64, 2) := by decide +kernel
theorem dX7_at_13 : decode cX7_at 13 = .ok (.irem, 1) := by decide +kernel
theorem dX7_at_14 : decode cX7_at 14 = .ok (.istore 4, 2) := by decide +kernel
theorem dX7_at_16 : decode cX7_at 16 = .ok (.aload_n 0, 1) := by decide +kernel
theorem dX7_at_17 : decode cX7_at 17 = .ok (.getfield 11, 3) := by decide +kernel
theorem dX7_at_20 : decode cX7_at 20 = .ok (.iload_n 3, 1) := by decide +kernel
theorem dX7_at_21 : decode cX7_at 21 = .ok (.laload, 1) := by decide +kernel
theorem dX7_at_22 : decode cX7_at 22 = .ok (.iload 4, 2) := by decide +kernel
theorem dX7_at_24 : decode cX7_at 24 = .ok (.invokestatic 38, 3) := by decide +kernel
theorem dX7_at_27 : decode cX7_at 27 = .ok (.iconst 2, 1) := by decide +kernel
theorem dX7_at_28 : decode cX7_at 28 = .ok (.aload_n 0, 1) := by decide +kernel
theorem dX7_at_29 : decode cX7_at 29 = .ok (.getfield 15, 3) := by decide +kernel
theorem dX7_at_32 : decode cX7_at 32 = .ok (.iload_n 3, 1) := by decide +kernel
theorem dX7_at_33 : decode cX7_at 33 = .ok (.laload, 1) := by decide +kernel
theorem dX7_at_34 : decode cX7_at 34 = .ok (.iload 4, 2) := by decide +kernel
theorem dX7_at_36 : decode cX7_at 36 = .ok (.invokestatic 38, 3) := by decide +kernel
theorem dX7_at_39 : decode cX7_at 39 = .ok (.imul, 1) := by decide +kernel
theorem dX7_at_40 : decode cX7_at 40 = .ok (.iadd, 1) := by decide +kernel
theorem dX7_at_41 : decode cX7_at 41 = .ok (.iconst 4, 1) := by decide +kernel
theorem dX7_at_42 : decode cX7_at 42 = .ok (.aload_n 0, 1) := by decide +kernel
theorem dX7_at_43 : decode cX7_at 43 = .ok (.getfield 18, 3) := by decide +kernel
theorem dX7_at_46 : decode cX7_at 46 = .ok (.iload_n 3, 1) := by decide +kernel
theorem dX7_at_47 : decode cX7_at 47 = .ok (.laload, 1) := by decide +kernel
theorem dX7_at_48 : decode cX7_at 48 = .ok (.iload 4, 2) := by decide +kernel
theorem dX7_at_50 : decode cX7_at 50 = .ok (.invokestatic 38, 3) := by decide +kernel
theorem dX7_at_53 : decode cX7_at 53 = .ok (.imul, 1) := by decide +kernel
theorem dX7_at_54 : decode cX7_at 54 = .ok (.iadd, 1) := by decide +kernel
theorem dX7_at_55 : decode cX7_at 55 = .ok (.ireturn, 1) := by decide +kernel
theorem dX7_unlike_0 : decode cX7_unlike 0 = .ok (.iload_n 1, 1) := by decide +kernel
theorem dX7_unlike_1 : decode cX7_unlike 1 = .ok (.bipush 8, 2) := by decide +kernel
theorem dX7_unlike_3 : decode cX7_unlike 3 = .ok (.imul, 1) := by decide +kernel
theorem dX7_unlike_4 : decode cX7_unlike 4 = .ok (.iload_n 3, 1) := by decide +kernel
theorem dX7_unlike_5 : decode cX7_unlike 5 = .ok (.iadd, 1) := by decide +kernel
theorem dX7_unlike_6 : decode cX7_unlike 6 = .ok (.istore 4, 2) := by decide +kernel
theorem dX7_unlike_8 : decode cX7_unlike 8 = .ok (.iload_n 2, 1) := by decide +kernel
theorem dX7_unlike_9 : decode cX7_unlike 9 = .ok (.bipush 8, 2) := by decide +kernel
theorem dX7_unlike_11 : decode cX7_unlike 11 = .ok (.imul, 1) := by decide +kernel
theorem dX7_unlike_12 : decode cX7_unlike 12 = .ok (.iload_n 3, 1) := by decide +kernel
theorem dX7_unlike_13 : decode cX7_unlike 13 = .ok (.iadd, 1) := by decide +kernel
theorem dX7_unlike_14 : decode cX7_unlike 14 = .ok (.istore 5, 2) := by decide +kernel
theorem dX7_unlike_16 : decode cX7_unlike 16 = .ok (.aload_n 0, 1) := by decide +kernel
theorem dX7_unlike_17 : decode cX7_unlike 17 = .ok (.getfield 11, 3) := by decide +kernel
theorem dX7_unlike_20 : decode cX7_unlike 20 = .ok (.iload 4, 2) := by decide +kernel
theorem dX7_unlike_22 : decode cX7_unlike 22 = .ok (.laload, 1) := by decide +kernel
theorem dX7_unlike_23 : decode cX7_unlike 23 = .ok (.aload_n 0, 1) := by decide +kernel
theorem dX7_unlike_24 : decode cX7_unlike 24 = .ok (.getfield 11, 3) := by decide +kernel
theorem dX7_unlike_27 : decode cX7_unlike 27 = .ok (.iload 5, 2) := by decide +kernel
theorem dX7_unlike_29 : decode cX7_unlike 29 = .ok (.laload, 1) := by decide +kernel
theorem dX7_unlike_30 : decode cX7_unlike 30 = .ok (.lxor, 1) := by decide +kernel
theorem dX7_unlike_31 : decode cX7_unlike 31 = .ok (.aload_n 0, 1) := by decide +kernel
theorem dX7_unlike_32 : decode cX7_unlike 32 = .ok (.getfield 15, 3) := by decide +kernel
theorem dX7_unlike_35 : decode cX7_unlike 35 = .ok (.iload 4, 2) := by decide +kernel
theorem dX7_unlike_37 : decode cX7_unlike 37 = .ok (.laload, 1) := by decide +kernel
theorem dX7_unlike_38 : decode cX7_unlike 38 = .ok (.aload_n 0, 1) := by decide +kernel
theorem dX7_unlike_39 : decode cX7_unlike 39 = .ok (.getfield 15, 3) := by decide +kernel
theorem dX7_unlike_42 : decode cX7_unlike 42 = .ok (.iload 5, 2) := by decide +kernel
theorem dX7_unlike_44 : decode cX7_unlike 44 = .ok (.laload, 1) := by decide +kernel
theorem dX7_unlike_45 : decode cX7_unlike 45 = .ok (.lxor, 1) := by decide +kernel
theorem dX7_unlike_46 : decode cX7_unlike 46 = .ok (.lor, 1) := by decide +kernel
theorem dX7_unlike_47 : decode cX7_unlike 47 = .ok (.aload_n 0, 1) := by decide +kernel
theorem dX7_unlike_48 : decode cX7_unlike 48 = .ok (.getfield 18, 3) := by decide +kernel
theorem dX7_unlike_51 : decode cX7_unlike 51 = .ok (.iload 4, 2) := by decide +kernel
theorem dX7_unlike_53 : decode cX7_unlike 53 = .ok (.laload, 1) := by decide +kernel
theorem dX7_unlike_54 : decode cX7_unlike 54 = .ok (.aload_n 0, 1) := by decide +kernel
theorem dX7_unlike_55 : decode cX7_unlike 55 = .ok (.getfield 18, 3) := by decide +kernel
theorem dX7_unlike_58 : decode cX7_unlike 58 = .ok (.iload 5, 2) := by decide +kernel
theorem dX7_unlike_60 : decode cX7_unlike 60 = .ok (.laload, 1) := by decide +kernel
theorem dX7_unlike_61 : decode cX7_unlike 61 = .ok (.lxor, 1) := by decide +kernel
theorem dX7_unlike_62 : decode cX7_unlike 62 = .ok (.lor, 1) := by decide +kernel
theorem dX7_unlike_63 : decode cX7_unlike 63 = .ok (.lreturn, 1) := by decide +kernel
set_option maxRecDepth 20000 in
theorem ggX7_isUnlikeAt_X7_unlike : GoodIn wsX7_isUnlikeAt wsX7_unlike := goodIn_r _ [5, 6, 7, 8, 12, 13, 14, 15] (by decide +kernel) (by decide +kernel)
set_option maxRecDepth 20000 in
theorem gX7_isUnlikeAt_X7_unlike : GoodIn wsX7_isUnlikeAt (wsV RX7 42 RX7 yX7_unlike wsX7_unlike) := goodIn_app (goodIn_of _ (by decide +kernel)) ggX7_isUnlikeAt_X7_unlike
set_option maxRecDepth 20000 in
theorem ggX7_isUnlikeAt_X7_bitAt : GoodIn wsX7_isUnlikeAt wsX7_bitAt := goodIn_r _ [11] (by decide +kernel) (by decide +kernel)
set_option maxRecDepth 20000 in
theorem gX7_isUnlikeAt_X7_bitAt : GoodIn wsX7_isUnlikeAt (va_wsS RX7 38 yX7_bitAt wsX7_bitAt) := goodIn_app (goodIn_of _ (by decide +kernel)) ggX7_isUnlikeAt_X7_bitAt
theorem dX7_isUnlikeAt_0 : decode cX7_isUnlikeAt 0 = .ok (.aload_n 0, 1) := by decide +kernel
theorem dX7_isUnlikeAt_1 : decode cX7_isUnlikeAt 1 = .ok (.iload_n 1, 1) := by decide +kernel
theorem dX7_isUnlikeAt_2 : decode cX7_isUnlikeAt 2 = .ok (.iload_n 2, 1) := by decide +kernel
theorem dX7_isUnlikeAt_3 : decode cX7_isUnlikeAt 3 = .ok (.iload_n 3, 1) := by decide +kernel
theorem dX7_isUnlikeAt_4 : decode cX7_isUnlikeAt 4 = .ok (.bipush 64, 2) := by decide +kernel
theorem dX7_isUnlikeAt_6 : decode cX7_isUnlikeAt 6 = .ok (.idiv, 1) := by decide +kernel
theorem dX7_isUnlikeAt_7 : decode cX7_isUnlikeAt 7 = .ok (.invokevirtual 42, 3) := by decide +kernel
theorem dX7_isUnlikeAt_10 : decode cX7_isUnlikeAt 10 = .ok (.iload_n 3, 1) := by decide +kernel
theorem dX7_isUnlikeAt_11 : decode cX7_isUnlikeAt 11 = .ok (.bipush 64, 2) := by decide +kernel
theorem dX7_isUnlikeAt_13 : decode cX7_isUnlikeAt 13 = .ok (.irem, 1) := by decide +kernel
theorem dX7_isUnlikeAt_14 : decode cX7_isUnlikeAt 14 = .ok (.invokestatic 38, 3) := by decide +kernel
theorem dX7_isUnlikeAt_17 : decode cX7_isUnlikeAt 17 = .ok (.ifCond .eq 7, 3) := by decide +kernel
theorem dX7_isUnlikeAt_20 : decode cX7_isUnlikeAt 20 = .ok (.iconst 1, 1) := by decide +kernel
theorem dX7_isUnlikeAt_21 : decode cX7_isUnlikeAt 21 = .ok (.goto 4, 3) := by decide +kernel
theorem dX7_isUnlikeAt_24 : decode cX7_isUnlikeAt 24 = .ok (.iconst 0, 1) := by decide +kernel
theorem dX7_isUnlikeAt_25 : decode cX7_isUnlikeAt 25 = .ok (.ireturn, 1) := by decide +kernel
set_option maxRecDepth 20000 in
theorem ggX7_unlikeMany_X7_unlike : GoodIn wsX7_unlikeMany wsX7_unlike := goodIn_r _ [5, 6, 7, 8, 16, 17, 18, 19] (by decide +kernel) (by decide +kernel)
set_option maxRecDepth 20000 in
theorem gX7_unlikeMany_X7_unlike : GoodIn wsX7_unlikeMany (wsV RX7 42 RX7 yX7_unlike wsX7_unlike) := goodIn_app (goodIn_of _ (by decide +kernel)) ggX7_unlikeMany_X7_unlike
set_option maxRecDepth 20000 in
theorem ggX7_unlikeMany_J13_bitCount_95d88 : GoodIn wsX7_unlikeMany wsJ13_bitCount_95d88 := goodIn_r _ [12, 13, 14, 15] (by decide +kernel) (by decide +kernel)
set_option maxRecDepth 20000 in
theorem gX7_unlikeMany_J13_bitCount_95d88 : GoodIn wsX7_unlikeMany (va_wsS RX7 46 yJ13_bitCount_95d88 wsJ13_bitCount_95d88) := goodIn_app (goodIn_of _ (by decide +kernel)) ggX7_unlikeMany_J13_bitCount_95d88
theorem dX7_unlikeMany_0 : decode cX7_unlikeMany 0 = .ok (.iconst 0, 1) := by decide +kernel
theorem dX7_unlikeMany_1 : decode cX7_unlikeMany 1 = .ok (.istore_n 3, 1) := by decide +kernel
theorem dX7_unlikeMany_2 : decode cX7_unlikeMany 2 = .ok (.iconst 0, 1) := by decide +kernel
theorem dX7_unlikeMany_3 : decode cX7_unlikeMany 3 = .ok (.istore 4, 2) := by decide +kernel
theorem dX7_unlikeMany_5 : decode cX7_unlikeMany 5 = .ok (.iload 4, 2) := by decide +kernel
theorem dX7_unlikeMany_7 : decode cX7_unlikeMany 7 = .ok (.bipush 8, 2) := by decide +kernel
theorem dX7_unlikeMany_9 : decode cX7_unlikeMany 9 = .ok (.if_icmp .ge 23, 3) := by decide +kernel
theorem dX7_unlikeMany_12 : decode cX7_unlikeMany 12 = .ok (.iload_n 3, 1) := by decide +kernel
theorem dX7_unlikeMany_13 : decode cX7_unlikeMany 13 = .ok (.aload_n 0, 1) := by decide +kernel
theorem dX7_unlikeMany_14 : decode cX7_unlikeMany 14 = .ok (.iload_n 1, 1) := by decide +kernel
theorem dX7_unlikeMany_15 : decode cX7_unlikeMany 15 = .ok (.iload_n 2, 1) := by decide +kernel
theorem dX7_unlikeMany_16 : decode cX7_unlikeMany 16 = .ok (.iload 4, 2) := by decide +kernel
theorem dX7_unlikeMany_18 : decode cX7_unlikeMany 18 = .ok (.invokevirtual 42, 3) := by decide +kernel
theorem dX7_unlikeMany_21 : decode cX7_unlikeMany 21 = .ok (.invokestatic 46, 3) := by decide +kernel
theorem dX7_unlikeMany_24 : decode cX7_unlikeMany 24 = .ok (.iadd, 1) := by decide +kernel
theorem dX7_unlikeMany_25 : decode cX7_unlikeMany 25 = .ok (.istore_n 3, 1) := by decide +kernel
theorem dX7_unlikeMany_26 : decode cX7_unlikeMany 26 = .ok (.iinc 4 1, 3) := by decide +kernel
theorem dX7_unlikeMany_29 : decode cX7_unlikeMany 29 = .ok (.goto (-24), 3) := by decide +kernel
theorem dX7_unlikeMany_32 : decode cX7_unlikeMany 32 = .ok (.iload_n 3, 1) := by decide +kernel
theorem dX7_unlikeMany_33 : decode cX7_unlikeMany 33 = .ok (.ireturn, 1) := by decide +kernel
theorem dX7_bitAt_0 : decode cX7_bitAt 0 = .ok (.lload_n 0, 1) := by decide +kernel
theorem dX7_bitAt_1 : decode cX7_bitAt 1 = .ok (.iload_n 2, 1) := by decide +kernel
theorem dX7_bitAt_2 : decode cX7_bitAt 2 = .ok (.lushr, 1) := by decide +kernel
theorem dX7_bitAt_3 : decode cX7_bitAt 3 = .ok (.lconst 1, 1) := by decide +kernel
theorem dX7_bitAt_4 : decode cX7_bitAt 4 = .ok (.land, 1) := by decide +kernel
theorem dX7_bitAt_5 : decode cX7_bitAt 5 = .ok (.l2i, 1) := by decide +kernel
theorem dX7_bitAt_6 : decode cX7_bitAt 6 = .ok (.ireturn, 1) := by decide +kernel
theorem dX8_init_0 : decode cX8_init 0 = .ok (.aload_n 0, 1) := by decide +kernel
theorem dX8_init_1 : decode cX8_init 1 = .ok (.invokespecial 3, 3) := by decide +kernel
theorem dX8_init_4 : decode cX8_init 4 = .ok (.aload_n 0, 1) := by decide +kernel
theorem dX8_init_5 : decode cX8_init 5 = .ok (.bipush 14, 2) := by decide +kernel
theorem dX8_init_7 : decode cX8_init 7 = .ok (.newarray .int, 2) := by decide +kernel
theorem dX8_init_9 : decode cX8_init 9 = .ok (.putfield 9, 3) := by decide +kernel
theorem dX8_init_12 : decode cX8_init 12 = .ok (.aload_n 0, 1) := by decide +kernel
theorem dX8_init_13 : decode cX8_init 13 = .ok (.bipush 14, 2) := by decide +kernel
theorem dX8_init_15 : decode cX8_init 15 = .ok (.newarray .int, 2) := by decide +kernel
theorem dX8_init_17 : decode cX8_init 17 = .ok (.putfield 15, 3) := by decide +kernel
theorem dX8_init_20 : decode cX8_init 20 = .ok (.aload_n 0, 1) := by decide +kernel
theorem dX8_init_21 : decode cX8_init 21 = .ok (.iconst 0, 1) := by decide +kernel
theorem dX8_init_22 : decode cX8_init 22 = .ok (.putfield 18, 3) := by decide +kernel
theorem dX8_init_25 : decode cX8_init 25 = .ok (.aload_n 0, 1) := by decide +kernel
theorem dX8_init_26 : decode cX8_init 26 = .ok (.aload_n 1, 1) := by decide +kernel
theorem dX8_init_27 : decode cX8_init 27 = .ok (.putfield 22, 3) := by decide +kernel
theorem dX8_init_30 : decode cX8_init 30 = .ok (.return_, 1) := by decide +kernel
theorem dX8_append_0 : decode cX8_append 0 = .ok (.aload_n 0, 1) := by decide +kernel
theorem dX8_append_1 : decode cX8_append 1 = .ok (.getfield 18, 3) := by decide +kernel
theorem dX8_append_4 : decode cX8_append 4 = .ok (.bipush 14, 2) := by decide +kernel
theorem dX8_append_6 : decode cX8_append 6 = .ok (.if_icmp .ge 33, 3) := by decide +kernel
theorem dX8_append_9 : decode cX8_append 9 = .ok (.aload_n 0, 1) := by decide +kernel
theorem dX8_append_10 : decode cX8_append 10 = .ok (.getfield 9, 3) := by decide +kernel
theorem dX8_append_13 : decode cX8_append 13 = .ok (.aload_n 0, 1) := by decide +kernel
theorem dX8_append_14 : decode cX8_append 14 = .ok (.getfield 18, 3) := by decide +kernel
theorem dX8_append_17 : decode cX8_append 17 = .ok (.iload_n 1, 1) := by decide +kernel
theorem dX8_append_18 : decode cX8_append 18 = .ok (.iastore, 1) := by decide +kernel
theorem dX8_append_19 : decode cX8_append 19 = .ok (.aload_n 0, 1) := by decide +kernel
theorem dX8_append_20 : decode cX8_append 20 = .ok (.getfield 15, 3) := by decide +kernel
theorem dX8_append_23 : decode cX8_append 23 = .ok (.aload_n 0, 1) := by decide +kernel
theorem dX8_append_24 : decode cX8_append 24 = .ok (.getfield 18, 3) := by decide +kernel
theorem dX8_append_27 : decode cX8_append 27 = .ok (.iload_n 2, 1) := by decide +kernel
theorem dX8_append_28 : decode cX8_append 28 = .ok (.iastore, 1) := by decide +kernel
theorem dX8_append_29 : decode cX8_append 29 = .ok (.aload_n 0, 1) := by decide +kernel
theorem dX8_append_30 : decode cX8_append 30 = .ok (.dup, 1) := by decide +kernel
theorem dX8_append_31 : decode cX8_append 31 = .ok (.getfield 18, 3) := by decide +kernel
theorem dX8_append_34 : decode cX8_append 34 = .ok (.iconst 1, 1) := by decide +kernel
theorem dX8_append_35 : decode cX8_append 35 = .ok (.iadd, 1) := by decide +kernel
theorem dX8_append_36 : decode cX8_append 36 = .ok (.putfield 18, 3) := by decide +kernel
theorem dX8_append_39 : decode cX8_append 39 = .ok (.return_, 1) := by decide +kernel
theorem dX8_remove_0 : decode cX8_remove 0 = .ok (.iload_n 1, 1) := by decide +kernel
theorem dX8_remove_1 : decode cX8_remove 1 = .ok (.istore_n 2, 1) := by decide +kernel
theorem dX8_remove_2 : decode cX8_remove 2 = .ok (.iload_n 2, 1) := by decide +kernel
theorem dX8_remove_3 : decode cX8_remove 3 = .ok (.iconst 1, 1) := by decide +kernel
theorem dX8_remove_4 : decode cX8_remove 4 = .ok (.iadd, 1) := by decide +kernel
theorem dX8_remove_5 : decode cX8_remove 5 = .ok (.aload_n 0, 1) := by decide +kernel
theorem dX8_remove_6 : decode cX8_remove 6 = .ok (.getfield 18, 3) := by decide +kernel
theorem dX8_remove_9 : decode cX8_remove 9 = .ok (.if_icmp .ge 37, 3) := by decide +kernel
theorem dX8_remove_12 : decode cX8_remove 12 = .ok (.aload_n 0, 1) := by decide +kernel
theorem dX8_remove_13 : decode cX8_remove 13 = .ok (.getfield 9, 3) := by decide +kernel
theorem dX8_remove_16 : decode cX8_remove 16 = .ok (.iload_n 2, 1) := by decide +kernel
theorem dX8_remove_17 : decode cX8_remove 17 = .ok (.aload_n 0, 1) := by decide +kernel
theorem dX8_remove_18 : decode cX8_remove 18 = .ok (.getfield 9, 3) := by decide +kernel
theorem dX8_remove_21 : decode cX8_remove 21 = .ok (.iload_n 2, 1) := by decide +kernel
theorem dX8_remove_22 : decode cX8_remove 22 = .ok (.iconst 1, 1) := by decide +kernel
theorem dX8_remove_23 : decode cX8_remove 23 = .ok (.iadd, 1) := by decide +kernel
theorem dX8_remove_24 : decode cX8_remove 24 = .ok (.iaload, 1) := by decide +kernel
theorem dX8_remove_25 : decode cX8_remove 25 = .ok (.iastore, 1) := by decide +kernel
theorem dX8_remove_26 : decode cX8_remove 26 = .ok (.aload_n 0, 1) := by decide +kernel
theorem dX8_remove_27 : decode cX8_remove 27 = .ok (.getfield 15, 3) := by decide +kernel
theorem dX8_remove_30 : decode cX8_remove 30 = .ok (.iload_n 2, 1) := by decide +kernel
theorem dX8_remove_31 : decode cX8_remove 31 = .ok (.aload_n 0, 1) := by decide +kernel
theorem dX8_remove_32 : decode cX8_remove 32 = .ok (.getfield 15, 3) := by decide +kernel
theorem dX8_remove_35 : decode cX8_remove 35 = .ok (.iload_n 2, 1) := by decide +kernel
theorem dX8_remove_36 : decode cX8_remove 36 = .ok (.iconst 1, 1) := by decide +kernel
theorem dX8_remove_37 : decode cX8_remove 37 = .ok (.iadd, 1) := by decide +kernel
theorem dX8_remove_38 : decode cX8_remove 38 = .ok (.iaload, 1) := by decide +kernel
theorem dX8_remove_39 : decode cX8_remove 39 = .ok (.iastore, 1) := by decide +kernel
theorem dX8_remove_40 : decode cX8_remove 40 = .ok (.iinc 2 1, 3) := by decide +kernel
theorem dX8_remove_43 : decode cX8_remove 43 = .ok (.goto (-41), 3) := by decide +kernel
theorem dX8_remove_46 : decode cX8_remove 46 = .ok (.aload_n 0, 1) := by decide +kernel
theorem dX8_remove_47 : decode cX8_remove 47 = .ok (.dup, 1) := by decide +kernel
theorem dX8_remove_48 : decode cX8_remove 48 = .ok (.getfield 18, 3) := by decide +kernel
theorem dX8_remove_51 : decode cX8_remove 51 = .ok (.iconst 1, 1) := by decide +kernel
theorem dX8_remove_52 : decode cX8_remove 52 = .ok (.isub, 1) := by decide +kernel
theorem dX8_remove_53 : decode cX8_remove 53 = .ok (.putfield 18, 3) := by decide +kernel
theorem dX8_remove_56 : decode cX8_remove 56 = .ok (.return_, 1) := by decide +kernel
set_option maxRecDepth 20000 in
theorem ggX8_failsFor_X7_at : GoodIn wsX8_failsFor wsX7_at := goodIn_r _ [8, 9, 10, 11, 12, 13, 7, 14, 19, 20, 21, 22] (by decide +kernel) (by decide +kernel)
set_option maxRecDepth 20000 in
theorem gX8_failsFor_X7_at : GoodIn wsX8_failsFor (wsV RX8 26 RX7 yX7_at wsX7_at) := goodIn_app (goodIn_of _ (by decide +kernel)) ggX8_failsFor_X7_at
theorem dX8_failsFor_0 : decode cX8_failsFor 0 = .ok (.aload_n 0, 1) := by decide +kernel
theorem dX8_failsFor_1 : decode cX8_failsFor 1 = .ok (.getfield 22, 3) := by decide +kernel
theorem dX8_failsFor_4 : decode cX8_failsFor 4 = .ok (.iload_n 2, 1) := by decide +kernel
theorem dX8_failsFor_5 : decode cX8_failsFor 5 = .ok (.aload_n 0, 1) := by decide +kernel
theorem dX8_failsFor_6 : decode cX8_failsFor 6 = .ok (.getfield 9, 3) := by decide +kernel
theorem dX8_failsFor_9 : decode cX8_failsFor 9 = .ok (.iload_n 1, 1) := by decide +kernel
theorem dX8_failsFor_10 : decode cX8_failsFor 10 = .ok (.iaload, 1) := by decide +kernel
theorem dX8_failsFor_11 : decode cX8_failsFor 11 = .ok (.invokevirtual 26, 3) := by decide +kernel
theorem dX8_failsFor_14 : decode cX8_failsFor 14 = .ok (.aload_n 0, 1) := by decide +kernel
theorem dX8_failsFor_15 : decode cX8_failsFor 15 = .ok (.getfield 15, 3) := by decide +kernel
theorem dX8_failsFor_18 : decode cX8_failsFor 18 = .ok (.iload_n 1, 1) := by decide +kernel
theorem dX8_failsFor_19 : decode cX8_failsFor 19 = .ok (.iaload, 1) := by decide +kernel
theorem dX8_failsFor_20 : decode cX8_failsFor 20 = .ok (.if_icmp .eq 7, 3) := by decide +kernel
theorem dX8_failsFor_23 : decode cX8_failsFor 23 = .ok (.iconst 1, 1) := by decide +kernel
theorem dX8_failsFor_24 : decode cX8_failsFor 24 = .ok (.goto 4, 3) := by decide +kernel
theorem dX8_failsFor_27 : decode cX8_failsFor 27 = .ok (.iconst 0, 1) := by decide +kernel
theorem dX8_failsFor_28 : decode cX8_failsFor 28 = .ok (.ireturn, 1) := by decide +kernel
set_option maxRecDepth 20000 in
theorem ggX8_failing_X8_failsFor : GoodIn wsX8_failing wsX8_failsFor := goodIn_r _ [6, 7, 8, 9, 10, 11, 12, 13, 14, 15, 16, 17, 18, 19, 20, 21, 22, 23, 24, 25, 26, 27, 28] (by decide +kernel) (by decide +kernel)
set_option maxRecDepth 20000 in
theorem gX8_failing_X8_failsFor : GoodIn wsX8_failing (wsV RX8 32 RX8 yX8_failsFor wsX8_failsFor) := goodIn_app (goodIn_of _ (by decide +kernel)) ggX8_failing_X8_failsFor
theorem dX8_failing_0 : decode cX8_failing 0 = .ok (.iconst 0, 1) := by decide +kernel
theorem dX8_failing_1 : decode cX8_failing 1 = .ok (.istore_n 1, 1) := by decide +kernel
theorem dX8_failing_2 : decode cX8_failing 2 = .ok (.iconst 0, 1) := by decide +kernel
theorem dX8_failing_3 : decode cX8_failing 3 = .ok (.istore_n 2, 1) := by decide +kernel
theorem dX8_failing_4 : decode cX8_failing 4 = .ok (.iload_n 2, 1) := by decide +kernel
theorem dX8_failing_5 : decode cX8_failing 5 = .ok (.aload_n 0, 1) := by decide +kernel
theorem dX8_failing_6 : decode cX8_failing 6 = .ok (.getfield 18, 3) := by decide +kernel
theorem dX8_failing_9 : decode cX8_failing 9 = .ok (.if_icmp .ge 26, 3) := by decide +kernel
theorem dX8_failing_12 : decode cX8_failing 12 = .ok (.iload_n 1, 1) := by decide +kernel
theorem dX8_failing_13 : decode cX8_failing 13 = .ok (.aload_n 0, 1) := by decide +kernel
theorem dX8_failing_14 : decode cX8_failing 14 = .ok (.iload_n 2, 1) := by decide +kernel
theorem dX8_failing_15 : decode cX8_failing 15 = .ok (.iconst 0, 1) := by decide +kernel
theorem dX8_failing_16 : decode cX8_failing 16 = .ok (.invokevirtual 32, 3) := by decide +kernel
theorem dX8_failing_19 : decode cX8_failing 19 = .ok (.ifCond .eq 7, 3) := by decide +kernel
theorem dX8_failing_22 : decode cX8_failing 22 = .ok (.iconst 1, 1) := by decide +kernel
theorem dX8_failing_23 : decode cX8_failing 23 = .ok (.goto 4, 3) := by decide +kernel
theorem dX8_failing_26 : decode cX8_failing 26 = .ok (.iconst 0, 1) := by decide +kernel
theorem dX8_failing_27 : decode cX8_failing 27 = .ok (.iadd, 1) := by decide +kernel
theorem dX8_failing_28 : decode cX8_failing 28 = .ok (.istore_n 1, 1) := by decide +kernel
theorem dX8_failing_29 : decode cX8_failing 29 = .ok (.iinc 2 1, 3) := by decide +kernel
theorem dX8_failing_32 : decode cX8_failing 32 = .ok (.goto (-28), 3) := by decide +kernel
theorem dX8_failing_35 : decode cX8_failing 35 = .ok (.iload_n 1, 1) := by decide +kernel
theorem dX8_failing_36 : decode cX8_failing 36 = .ok (.ireturn, 1) := by decide +kernel
set_option maxRecDepth 20000 in
theorem ggX8_noneFailsFor_X8_failsFor : GoodIn wsX8_noneFailsFor wsX8_failsFor := goodIn_r _ [6, 7, 8, 9, 10, 11, 12, 13, 14, 15, 16, 17, 18, 19, 20, 21, 22, 23, 24, 25, 26, 27, 28] (by decide +kernel) (by decide +kernel)
set_option maxRecDepth 20000 in
theorem gX8_noneFailsFor_X8_failsFor : GoodIn wsX8_noneFailsFor (wsV RX8 32 RX8 yX8_failsFor wsX8_failsFor) := goodIn_app (goodIn_of _ (by decide +kernel)) ggX8_noneFailsFor_X8_failsFor
theorem dX8_noneFailsFor_0 : decode cX8_noneFailsFor 0 = .ok (.iconst 0, 1) := by decide +kernel
theorem dX8_noneFailsFor_1 : decode cX8_noneFailsFor 1 = .ok (.istore_n 2, 1) := by decide +kernel
theorem dX8_noneFailsFor_2 : decode cX8_noneFailsFor 2 = .ok (.iload_n 2, 1) := by decide +kernel
theorem dX8_noneFailsFor_3 : decode cX8_noneFailsFor 3 = .ok (.aload_n 0, 1) := by decide +kernel
theorem dX8_noneFailsFor_4 : decode cX8_noneFailsFor 4 = .ok (.getfield 18, 3) := by decide +kernel
theorem dX8_noneFailsFor_7 : decode cX8_noneFailsFor 7 = .ok (.if_icmp .ge 20, 3) := by decide +kernel
theorem dX8_noneFailsFor_10 : decode cX8_noneFailsFor 10 = .ok (.aload_n 0, 1) := by decide +kernel
theorem dX8_noneFailsFor_11 : decode cX8_noneFailsFor 11 = .ok (.iload_n 2, 1) := by decide +kernel
theorem dX8_noneFailsFor_12 : decode cX8_noneFailsFor 12 = .ok (.iload_n 1, 1) := by decide +kernel
theorem dX8_noneFailsFor_13 : decode cX8_noneFailsFor 13 = .ok (.invokevirtual 32, 3) := by decide +kernel
theorem dX8_noneFailsFor_16 : decode cX8_noneFailsFor 16 = .ok (.ifCond .eq 5, 3) := by decide +kernel
theorem dX8_noneFailsFor_19 : decode cX8_noneFailsFor 19 = .ok (.iconst 0, 1) := by decide +kernel
theorem dX8_noneFailsFor_20 : decode cX8_noneFailsFor 20 = .ok (.ireturn, 1) := by decide +kernel
theorem dX8_noneFailsFor_21 : decode cX8_noneFailsFor 21 = .ok (.iinc 2 1, 3) := by decide +kernel
theorem dX8_noneFailsFor_24 : decode cX8_noneFailsFor 24 = .ok (.goto (-22), 3) := by decide +kernel
theorem dX8_noneFailsFor_27 : decode cX8_noneFailsFor 27 = .ok (.iconst 1, 1) := by decide +kernel
theorem dX8_noneFailsFor_28 : decode cX8_noneFailsFor 28 = .ok (.ireturn, 1) := by decide +kernel
theorem dX9_init_0 : decode cX9_init 0 = .ok (.aload_n 0, 1) := by decide +kernel
theorem dX9_init_1 : decode cX9_init 1 = .ok (.invokespecial 3, 3) := by decide +kernel
theorem dX9_init_4 : decode cX9_init 4 = .ok (.aload_n 0, 1) := by decide +kernel
theorem dX9_init_5 : decode cX9_init 5 = .ok (.bipush 24, 2) := by decide +kernel
theorem dX9_init_7 : decode cX9_init 7 = .ok (.newarray .int, 2) := by decide +kernel
theorem dX9_init_9 : decode cX9_init 9 = .ok (.putfield 9, 3) := by decide +kernel
theorem dX9_init_12 : decode cX9_init 12 = .ok (.aload_n 0, 1) := by decide +kernel
theorem dX9_init_13 : decode cX9_init 13 = .ok (.bipush 24, 2) := by decide +kernel
theorem dX9_init_15 : decode cX9_init 15 = .ok (.newarray .int, 2) := by decide +kernel
theorem dX9_init_17 : decode cX9_init 17 = .ok (.putfield 15, 3) := by decide +kernel
theorem dX9_init_20 : decode cX9_init 20 = .ok (.aload_n 0, 1) := by decide +kernel
theorem dX9_init_21 : decode cX9_init 21 = .ok (.bipush 24, 2) := by decide +kernel
theorem dX9_init_23 : decode cX9_init 23 = .ok (.newarray .int, 2) := by decide +kernel
theorem dX9_init_25 : decode cX9_init 25 = .ok (.putfield 18, 3) := by decide +kernel
theorem dX9_init_28 : decode cX9_init 28 = .ok (.aload_n 0, 1) := by decide +kernel
theorem dX9_init_29 : decode cX9_init 29 = .ok (.bipush 24, 2) := by decide +kernel
theorem dX9_init_31 : decode cX9_init 31 = .ok (.newarray .int, 2) := by decide +kernel
theorem dX9_init_33 : decode cX9_init 33 = .ok (.putfield 21, 3) := by decide +kernel
theorem dX9_init_36 : decode cX9_init 36 = .ok (.aload_n 0, 1) := by decide +kernel
theorem dX9_init_37 : decode cX9_init 37 = .ok (.bipush 24, 2) := by decide +kernel
theorem dX9_init_39 : decode cX9_init 39 = .ok (.newarray .int, 2) := by decide +kernel
theorem dX9_init_41 : decode cX9_init 41 = .ok (.putfield 24, 3) := by decide +kernel
theorem dX9_init_44 : decode cX9_init 44 = .ok (.aload_n 0, 1) := by decide +kernel
theorem dX9_init_45 : decode cX9_init 45 = .ok (.bipush 96, 2) := by decide +kernel
theorem dX9_init_47 : decode cX9_init 47 = .ok (.newarray .int, 2) := by decide +kernel
theorem dX9_init_49 : decode cX9_init 49 = .ok (.putfield 27, 3) := by decide +kernel
theorem dX9_init_52 : decode cX9_init 52 = .ok (.aload_n 0, 1) := by decide +kernel
theorem dX9_init_53 : decode cX9_init 53 = .ok (.iconst 1, 1) := by decide +kernel
theorem dX9_init_54 : decode cX9_init 54 = .ok (.putfield 30, 3) := by decide +kernel
theorem dX9_init_57 : decode cX9_init 57 = .ok (.aload_n 0, 1) := by decide +kernel
theorem dX9_init_58 : decode cX9_init 58 = .ok (.getfield 9, 3) := by decide +kernel
theorem dX9_init_61 : decode cX9_init 61 = .ok (.iconst 0, 1) := by decide +kernel
theorem dX9_init_62 : decode cX9_init 62 = .ok (.bipush 48, 2) := by decide +kernel
theorem dX9_init_64 : decode cX9_init 64 = .ok (.iastore, 1) := by decide +kernel
theorem dX9_init_65 : decode cX9_init 65 = .ok (.aload_n 0, 1) := by decide +kernel
theorem dX9_init_66 : decode cX9_init 66 = .ok (.getfield 18, 3) := by decide +kernel
theorem dX9_init_69 : decode cX9_init 69 = .ok (.iconst 0, 1) := by decide +kernel
theorem dX9_init_70 : decode cX9_init 70 = .ok (.bipush (-6), 2) := by decide +kernel
theorem dX9_init_72 : decode cX9_init 72 = .ok (.iastore, 1) := by decide +kernel
theorem dX9_init_73 : decode cX9_init 73 = .ok (.aload_n 0, 1) := by decide +kernel
theorem dX9_init_74 : decode cX9_init 74 = .ok (.getfield 24, 3) := by decide +kernel
theorem dX9_init_77 : decode cX9_init 77 = .ok (.iconst 0, 1) := by decide +kernel
theorem dX9_init_78 : decode cX9_init 78 = .ok (.iconst 1, 1) := by decide +kernel
theorem dX9_init_79 : decode cX9_init 79 = .ok (.iastore, 1) := by decide +kernel
theorem dX9_init_80 : decode cX9_init 80 = .ok (.return_, 1) := by decide +kernel
set_option maxRecDepth 20000 in
theorem ggX9_take_X9_joinParts : GoodIn wsX9_take wsX9_joinParts := goodIn_r _ [11, 12, 2, 1, 13, 14, 15, 16, 17, 18, 10, 19, 20, 21, 22, 23, 24, 25, 26, 27, 28, 29, 30, 31, 32, 33, 34, 35, 36, 37, 38, 39, 40, 41, 42, 43, 44, 45, 46, 47, 48, 49, 50, 51, 52, 53, 54, 55, 56, 57, 58, 59, 60, 61, 62, 63, 64, 65, 66, 67, 68, 69, 70, 71, 72, 73, 74, 75, 76, 77, 78, 79, 80, 81, 82, 83, 84, 85, 86, 87, 88, 89, 90, 91, 92, 93, 94, 95, 96, 97, 98, 99, 100, 101, 102, 103, 104, 105, 106, 107, 108, 109, 110, 111, 112, 113, 114, 115, 116, 117, 118] (by decide +kernel) (by decide +kernel)
set_option maxRecDepth 20000 in
theorem gX9_take_X9_joinParts : GoodIn wsX9_take (wsV RX9 40 RX9 yX9_joinParts wsX9_joinParts) := goodIn_app (goodIn_of _ (by decide +kernel)) ggX9_take_X9_joinParts
theorem dX9_take_0 : decode cX9_take 0 = .ok (.aload_n 0, 1) := by decide +kernel
theorem dX9_take_1 : decode cX9_take 1 = .ok (.iload_n 2, 1) := by decide +kernel
theorem dX9_take_2 : decode cX9_take 2 = .ok (.putfield 30, 3) := by decide +kernel
theorem dX9_take_5 : decode cX9_take 5 = .ok (.aload_n 1, 1) := by decide +kernel
theorem dX9_take_6 : decode cX9_take 6 = .ok (.iconst 0, 1) := by decide +kernel
theorem dX9_take_7 : decode cX9_take 7 = .ok (.aload_n 0, 1) := by decide +kernel
theorem dX9_take_8 : decode cX9_take 8 = .ok (.getfield 9, 3) := by decide +kernel
theorem dX9_take_11 : decode cX9_take 11 = .ok (.iconst 0, 1) := by decide +kernel
theorem dX9_take_12 : decode cX9_take 12 = .ok (.iload_n 2, 1) := by decide +kernel
theorem dX9_take_13 : decode cX9_take 13 = .ok (.invokestatic 34, 3) := by decide +kernel
theorem dX9_take_16 : decode cX9_take 16 = .ok (.iload_n 2, 1) := by decide +kernel
theorem dX9_take_17 : decode cX9_take 17 = .ok (.iconst 1, 1) := by decide +kernel
theorem dX9_take_18 : decode cX9_take 18 = .ok (.isub, 1) := by decide +kernel
theorem dX9_take_19 : decode cX9_take 19 = .ok (.istore_n 3, 1) := by decide +kernel
theorem dX9_take_20 : decode cX9_take 20 = .ok (.iload_n 3, 1) := by decide +kernel
theorem dX9_take_21 : decode cX9_take 21 = .ok (.ifCond .lt 14, 3) := by decide +kernel
theorem dX9_take_24 : decode cX9_take 24 = .ok (.aload_n 0, 1) := by decide +kernel
theorem dX9_take_25 : decode cX9_take 25 = .ok (.iload_n 3, 1) := by decide +kernel
theorem dX9_take_26 : decode cX9_take 26 = .ok (.invokevirtual 40, 3) := by decide +kernel
theorem dX9_take_29 : decode cX9_take 29 = .ok (.iinc 3 (-1), 3) := by decide +kernel
theorem dX9_take_32 : decode cX9_take 32 = .ok (.goto (-12), 3) := by decide +kernel
theorem dX9_take_35 : decode cX9_take 35 = .ok (.return_, 1) := by decide +kernel
set_option maxRecDepth 20000 in
theorem ggX9_joinParts_X9_partsWanted : GoodIn wsX9_joinParts wsX9_partsWanted := goodIn_r _ [11, 12, 13, 14, 15, 16, 17, 18, 19, 20, 21, 22, 23, 24, 25, 26, 27, 28, 29, 30, 31, 32, 33, 34, 35, 36, 37, 38, 39, 40, 41, 42, 43, 44, 45, 46, 47, 48, 49, 50, 51, 52, 53, 54, 55, 56, 57, 58, 59, 60, 61, 62, 63, 64, 65, 66, 67, 68, 69, 70, 71, 72, 73, 74, 75, 76, 77, 78, 79, 80, 81, 82, 83, 84, 85, 86, 87, 88, 89, 90, 91, 92, 93, 94, 95, 96, 97, 98, 99, 100, 101, 102, 10, 103] (by decide +kernel) (by decide +kernel)
set_option maxRecDepth 20000 in
theorem gX9_joinParts_X9_partsWanted : GoodIn wsX9_joinParts (va_wsS RX9 44 yX9_partsWanted wsX9_partsWanted) := goodIn_app (goodIn_of _ (by decide +kernel)) ggX9_joinParts_X9_partsWanted
theorem dX9_joinParts_0 : decode cX9_joinParts 0 = .ok (.iload_n 1, 1) := by decide +kernel
theorem dX9_joinParts_1 : decode cX9_joinParts 1 = .ok (.iconst 1, 1) := by decide +kernel
theorem dX9_joinParts_2 : decode cX9_joinParts 2 = .ok (.iadd, 1) := by decide +kernel
theorem dX9_joinParts_3 : decode cX9_joinParts 3 = .ok (.istore_n 2, 1) := by decide +kernel
theorem dX9_joinParts_4 : decode cX9_joinParts 4 = .ok (.aload_n 0, 1) := by decide +kernel
theorem dX9_joinParts_5 : decode cX9_joinParts 5 = .ok (.getfield 15, 3) := by decide +kernel
theorem dX9_joinParts_8 : decode cX9_joinParts 8 = .ok (.iload_n 1, 1) := by decide +kernel
theorem dX9_joinParts_9 : decode cX9_joinParts 9 = .ok (.aload_n 0, 1) := by decide +kernel
theorem dX9_joinParts_10 : decode cX9_joinParts 10 = .ok (.getfield 9, 3) := by decide +kernel
theorem dX9_joinParts_13 : decode cX9_joinParts 13 = .ok (.iload_n 1, 1) := by decide +kernel
theorem dX9_joinParts_14 : decode cX9_joinParts 14 = .ok (.iaload, 1) := by decide +kernel
theorem dX9_joinParts_15 : decode cX9_joinParts 15 = .ok (.invokestatic 44, 3) := by decide +kernel
theorem dX9_joinParts_18 : decode cX9_joinParts 18 = .ok (.iastore, 1) := by decide +kernel
theorem dX9_joinParts_19 : decode cX9_joinParts 19 = .ok (.iconst 0, 1) := by decide +kernel
theorem dX9_joinParts_20 : decode cX9_joinParts 20 = .ok (.istore_n 3, 1) := by decide +kernel
theorem dX9_joinParts_21 : decode cX9_joinParts 21 = .ok (.iload_n 3, 1) := by decide +kernel
theorem dX9_joinParts_22 : decode cX9_joinParts 22 = .ok (.aload_n 0, 1) := by decide +kernel
theorem dX9_joinParts_23 : decode cX9_joinParts 23 = .ok (.getfield 15, 3) := by decide +kernel
theorem dX9_joinParts_26 : decode cX9_joinParts 26 = .ok (.iload_n 1, 1) := by decide +kernel
theorem dX9_joinParts_27 : decode cX9_joinParts 27 = .ok (.iaload, 1) := by decide +kernel
theorem dX9_joinParts_28 : decode cX9_joinParts 28 = .ok (.if_icmp .ge 51, 3) := by decide +kernel
theorem dX9_joinParts_31 : decode cX9_joinParts 31 = .ok (.iload_n 2, 1) := by decide +kernel
theorem dX9_joinParts_32 : decode cX9_joinParts 32 = .ok (.aload_n 0, 1) := by decide +kernel
theorem dX9_joinParts_33 : decode cX9_joinParts 33 = .ok (.getfield 30, 3) := by decide +kernel
theorem dX9_joinParts_36 : decode cX9_joinParts 36 = .ok (.if_icmp .ge 43, 3) := by decide +kernel
theorem dX9_joinParts_39 : decode cX9_joinParts 39 = .ok (.aload_n 0, 1) := by decide +kernel
theorem dX9_joinParts_40 : decode cX9_joinParts 40 = .ok (.getfield 27, 3) := by decide +kernel
theorem dX9_joinParts_43 : decode cX9_joinParts 43 = .ok (.iconst 4, 1) := by decide +kernel
theorem dX9_joinParts_44 : decode cX9_joinParts 44 = .ok (.iload_n 1, 1) := by decide +kernel
theorem dX9_joinParts_45 : decode cX9_joinParts 45 = .ok (.imul, 1) := by decide +kernel
theorem dX9_joinParts_46 : decode cX9_joinParts 46 = .ok (.iload_n 3, 1) := by decide +kernel
theorem dX9_joinParts_47 : decode cX9_joinParts 47 = .ok (.iadd, 1) := by decide +kernel
theorem dX9_joinParts_48 : decode cX9_joinParts 48 = .ok (.iload_n 2, 1) := by decide +kernel
theorem dX9_joinParts_49 : decode cX9_joinParts 49 = .ok (.iastore, 1) := by decide +kernel
theorem dX9_joinParts_50 : decode cX9_joinParts 50 = .ok (.aload_n 0, 1) := by decide +kernel
theorem dX9_joinParts_51 : decode cX9_joinParts 51 = .ok (.getfield 18, 3) := by decide +kernel
theorem dX9_joinParts_54 : decode cX9_joinParts 54 = .ok (.iload_n 2, 1) := by decide +kernel
theorem dX9_joinParts_55 : decode cX9_joinParts 55 = .ok (.iload_n 1, 1) := by decide +kernel
theorem dX9_joinParts_56 : decode cX9_joinParts 56 = .ok (.iastore, 1) := by decide +kernel
theorem dX9_joinParts_57 : decode cX9_joinParts 57 = .ok (.aload_n 0, 1) := by decide +kernel
theorem dX9_joinParts_58 : decode cX9_joinParts 58 = .ok (.getfield 21, 3) := by decide +kernel
theorem dX9_joinParts_61 : decode cX9_joinParts 61 = .ok (.iload_n 2, 1) := by decide +kernel
theorem dX9_joinParts_62 : decode cX9_joinParts 62 = .ok (.iload_n 3, 1) := by decide +kernel
theorem dX9_joinParts_63 : decode cX9_joinParts 63 = .ok (.iastore, 1) := by decide +kernel
theorem dX9_joinParts_64 : decode cX9_joinParts 64 = .ok (.iload_n 2, 1) := by decide +kernel
theorem dX9_joinParts_65 : decode cX9_joinParts 65 = .ok (.aload_n 0, 1) := by decide +kernel
theorem dX9_joinParts_66 : decode cX9_joinParts 66 = .ok (.getfield 24, 3) := by decide +kernel
theorem dX9_joinParts_69 : decode cX9_joinParts 69 = .ok (.iload_n 2, 1) := by decide +kernel
theorem dX9_joinParts_70 : decode cX9_joinParts 70 = .ok (.iaload, 1) := by decide +kernel
theorem dX9_joinParts_71 : decode cX9_joinParts 71 = .ok (.iadd, 1) := by decide +kernel
theorem dX9_joinParts_72 : decode cX9_joinParts 72 = .ok (.istore_n 2, 1) := by decide +kernel
theorem dX9_joinParts_73 : decode cX9_joinParts 73 = .ok (.iinc 3 1, 3) := by decide +kernel
theorem dX9_joinParts_76 : decode cX9_joinParts 76 = .ok (.goto (-55), 3) := by decide +kernel
theorem dX9_joinParts_79 : decode cX9_joinParts 79 = .ok (.aload_n 0, 1) := by decide +kernel
theorem dX9_joinParts_80 : decode cX9_joinParts 80 = .ok (.getfield 24, 3) := by decide +kernel
theorem dX9_joinParts_83 : decode cX9_joinParts 83 = .ok (.iload_n 1, 1) := by decide +kernel
theorem dX9_joinParts_84 : decode cX9_joinParts 84 = .ok (.iload_n 2, 1) := by decide +kernel
theorem dX9_joinParts_85 : decode cX9_joinParts 85 = .ok (.iload_n 1, 1) := by decide +kernel
theorem dX9_joinParts_86 : decode cX9_joinParts 86 = .ok (.isub, 1) := by decide +kernel
theorem dX9_joinParts_87 : decode cX9_joinParts 87 = .ok (.iastore, 1) := by decide +kernel
theorem dX9_joinParts_88 : decode cX9_joinParts 88 = .ok (.return_, 1) := by decide +kernel
theorem dX9_partOf_0 : decode cX9_partOf 0 = .ok (.aload_n 0, 1) := by decide +kernel
theorem dX9_partOf_1 : decode cX9_partOf 1 = .ok (.getfield 27, 3) := by decide +kernel
theorem dX9_partOf_4 : decode cX9_partOf 4 = .ok (.iconst 4, 1) := by decide +kernel
theorem dX9_partOf_5 : decode cX9_partOf 5 = .ok (.iload_n 1, 1) := by decide +kernel
theorem dX9_partOf_6 : decode cX9_partOf 6 = .ok (.imul, 1) := by decide +kernel
theorem dX9_partOf_7 : decode cX9_partOf 7 = .ok (.iload_n 2, 1) := by decide +kernel
theorem dX9_partOf_8 : decode cX9_partOf 8 = .ok (.iadd, 1) := by decide +kernel
theorem dX9_partOf_9 : decode cX9_partOf 9 = .ok (.iaload, 1) := by decide +kernel
theorem dX9_partOf_10 : decode cX9_partOf 10 = .ok (.ireturn, 1) := by decide +kernel
set_option maxRecDepth 20000 in
theorem ggX9_partsWanted_J0_indexOf_0f7a4 : GoodIn wsX9_partsWanted wsJ0_indexOf_0f7a4 := goodIn_r _ [5, 6, 7, 8, 4, 9, 10, 11, 12, 13, 14, 15, 16, 17, 18, 19, 20, 21, 22, 23, 24, 25, 26, 27, 28, 29, 30, 31, 32, 33, 34, 35, 36, 37, 38, 39, 40, 41, 42, 43, 44, 45, 46, 47, 48, 49, 50, 51, 52, 53, 54, 55, 56, 57, 58, 59, 60, 61, 62, 63, 64, 65, 66, 67, 68, 69, 70, 71, 72, 73, 74, 75, 76, 77, 78, 79, 80, 81, 82, 83, 84, 85, 86, 87, 88, 89] (by decide +kernel) (by decide +kernel)
set_option maxRecDepth 20000 in
theorem gX9_partsWanted_J0_indexOf_0f7a4 : GoodIn wsX9_partsWanted (wsV RX9 50 RJ0 yJ0_indexOf_0f7a4 wsJ0_indexOf_0f7a4) := goodIn_app (goodIn_of _ (by decide +kernel)) ggX9_partsWanted_J0_indexOf_0f7a4
set_option maxRecDepth 20000 in
theorem ggX9_partsWanted_X9_isNumber : GoodIn wsX9_partsWanted wsX9_isNumber := goodIn_r _ [93] (by decide +kernel) (by decide +kernel)
set_option maxRecDepth 20000 in
theorem gX9_partsWanted_X9_isNumber : GoodIn wsX9_partsWanted (va_wsS RX9 57 yX9_isNumber wsX9_isNumber) := goodIn_app (goodIn_of _ (by decide +kernel)) ggX9_partsWanted_X9_isNumber
theorem dX9_partsWanted_0 : decode cX9_partsWanted 0 = .ok (.ldc 48, 2) := by decide +kernel
theorem dX9_partsWanted_2 : decode cX9_partsWanted 2 = .ok (.iload_n 0, 1) := by decide +kernel
theorem dX9_partsWanted_3 : decode cX9_partsWanted 3 = .ok (.i2c, 1) := by decide +kernel
theorem dX9_partsWanted_4 : decode cX9_partsWanted 4 = .ok (.invokevirtual 50, 3) := by decide +kernel
theorem dX9_partsWanted_7 : decode cX9_partsWanted 7 = .ok (.ifCond .lt 5, 3) := by decide +kernel
theorem dX9_partsWanted_10 : decode cX9_partsWanted 10 = .ok (.iconst 2, 1) := by decide +kernel
theorem dX9_partsWanted_11 : decode cX9_partsWanted 11 = .ok (.ireturn, 1) := by decide +kernel
theorem dX9_partsWanted_12 : decode cX9_partsWanted 12 = .ok (.ldc 55, 2) := by decide +kernel
theorem dX9_partsWanted_14 : decode cX9_partsWanted 14 = .ok (.iload_n 0, 1) := by decide +kernel
theorem dX9_partsWanted_15 : decode cX9_partsWanted 15 = .ok (.i2c, 1) := by decide +kernel
theorem dX9_partsWanted_16 : decode cX9_partsWanted 16 = .ok (.invokevirtual 50, 3) := by decide +kernel
theorem dX9_partsWanted_19 : decode cX9_partsWanted 19 = .ok (.ifCond .lt 5, 3) := by decide +kernel
theorem dX9_partsWanted_22 : decode cX9_partsWanted 22 = .ok (.iconst 4, 1) := by decide +kernel
theorem dX9_partsWanted_23 : decode cX9_partsWanted 23 = .ok (.ireturn, 1) := by decide +kernel
theorem dX9_partsWanted_24 : decode cX9_partsWanted 24 = .ok (.iload_n 0, 1) := by decide +kernel
theorem dX9_partsWanted_25 : decode cX9_partsWanted 25 = .ok (.invokestatic 57, 3) := by decide +kernel
theorem dX9_partsWanted_28 : decode cX9_partsWanted 28 = .ok (.ifCond .ne 13, 3) := by decide +kernel
theorem dX9_partsWanted_31 : decode cX9_partsWanted 31 = .ok (.ldc 61, 2) := by decide +kernel
theorem dX9_partsWanted_33 : decode cX9_partsWanted 33 = .ok (.iload_n 0, 1) := by decide +kernel
theorem dX9_partsWanted_34 : decode cX9_partsWanted 34 = .ok (.i2c, 1) := by decide +kernel
theorem dX9_partsWanted_35 : decode cX9_partsWanted 35 = .ok (.invokevirtual 50, 3) := by decide +kernel
theorem dX9_partsWanted_38 : decode cX9_partsWanted 38 = .ok (.ifCond .lt 7, 3) := by decide +kernel
theorem dX9_partsWanted_41 : decode cX9_partsWanted 41 = .ok (.iconst 0, 1) := by decide +kernel
theorem dX9_partsWanted_42 : decode cX9_partsWanted 42 = .ok (.goto 4, 3) := by decide +kernel
theorem dX9_partsWanted_45 : decode cX9_partsWanted 45 = .ok (.iconst (-1), 1) := by decide +kernel
theorem dX9_partsWanted_46 : decode cX9_partsWanted 46 = .ok (.ireturn, 1) := by decide +kernel
theorem dX9_isNumber_0 : decode cX9_isNumber 0 = .ok (.iload_n 0, 1) := by decide +kernel
theorem dX9_isNumber_1 : decode cX9_isNumber 1 = .ok (.bipush 48, 2) := by decide +kernel
theorem dX9_isNumber_3 : decode cX9_isNumber 3 = .ok (.if_icmp .lt 13, 3) := by decide +kernel
theorem dX9_isNumber_6 : decode cX9_isNumber 6 = .ok (.iload_n 0, 1) := by decide +kernel
theorem dX9_isNumber_7 : decode cX9_isNumber 7 = .ok (.bipush 56, 2) := by decide +kernel
theorem dX9_isNumber_9 : decode cX9_isNumber 9 = .ok (.if_icmp .ge 7, 3) := by decide +kernel
theorem dX9_isNumber_12 : decode cX9_isNumber 12 = .ok (.iconst 1, 1) := by decide +kernel
theorem dX9_isNumber_13 : decode cX9_isNumber 13 = .ok (.goto 4, 3) := by decide +kernel
theorem dX9_isNumber_16 : decode cX9_isNumber 16 = .ok (.iconst 0, 1) := by decide +kernel
theorem dX9_isNumber_17 : decode cX9_isNumber 17 = .ok (.ireturn, 1) := by decide +kernel
