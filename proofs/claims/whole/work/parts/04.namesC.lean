theorem dX10_init_0 : decode cX10_init 0 = .ok (.aload_n 0, 1) := by decide +kernel
theorem dX10_init_1 : decode cX10_init 1 = .ok (.invokespecial 3, 3) := by decide +kernel
theorem dX10_init_4 : decode cX10_init 4 = .ok (.aload_n 0, 1) := by decide +kernel
theorem dX10_init_5 : decode cX10_init 5 = .ok (.bipush 24, 2) := by decide +kernel
theorem dX10_init_7 : decode cX10_init 7 = .ok (.newarray .long, 2) := by decide +kernel
theorem dX10_init_9 : decode cX10_init 9 = .ok (.putfield 9, 3) := by decide +kernel
theorem dX10_init_12 : decode cX10_init 12 = .ok (.aload_n 0, 1) := by decide +kernel
theorem dX10_init_13 : decode cX10_init 13 = .ok (.bipush 24, 2) := by decide +kernel
theorem dX10_init_15 : decode cX10_init 15 = .ok (.newarray .long, 2) := by decide +kernel
theorem dX10_init_17 : decode cX10_init 17 = .ok (.putfield 15, 3) := by decide +kernel
theorem dX10_init_20 : decode cX10_init 20 = .ok (.aload_n 0, 1) := by decide +kernel
theorem dX10_init_21 : decode cX10_init 21 = .ok (.bipush 24, 2) := by decide +kernel
theorem dX10_init_23 : decode cX10_init 23 = .ok (.newarray .long, 2) := by decide +kernel
theorem dX10_init_25 : decode cX10_init 25 = .ok (.putfield 18, 3) := by decide +kernel
theorem dX10_init_28 : decode cX10_init 28 = .ok (.aload_n 0, 1) := by decide +kernel
theorem dX10_init_29 : decode cX10_init 29 = .ok (.bipush 24, 2) := by decide +kernel
theorem dX10_init_31 : decode cX10_init 31 = .ok (.newarray .long, 2) := by decide +kernel
theorem dX10_init_33 : decode cX10_init 33 = .ok (.putfield 21, 3) := by decide +kernel
theorem dX10_init_36 : decode cX10_init 36 = .ok (.return_, 1) := by decide +kernel
set_option maxRecDepth 20000 in
theorem ggX10_workOut_X10_putLeaf : GoodIn wsX10_workOut wsX10_putLeaf := goodIn_r _ [8, 9, 10, 11, 12, 13, 14, 15, 16, 17, 7, 18, 19, 20, 21, 22, 23, 24, 25, 73, 74, 75, 76] (by decide +kernel) (by decide +kernel)
set_option maxRecDepth 20000 in
theorem gX10_workOut_X10_putLeaf : GoodIn wsX10_workOut (wsV RX10 37 RX10 yX10_putLeaf wsX10_putLeaf) := goodIn_app (goodIn_of _ (by decide +kernel)) ggX10_workOut_X10_putLeaf
set_option maxRecDepth 20000 in
theorem ggX10_workOut_X9_partOf : GoodIn wsX10_workOut wsX9_partOf := goodIn_r _ [30, 31, 66, 67, 68, 69, 70, 71, 72] (by decide +kernel) (by decide +kernel)
set_option maxRecDepth 20000 in
theorem gX10_workOut_X9_partOf : GoodIn wsX10_workOut (wsV RX10 41 RX9 yX9_partOf wsX9_partOf) := goodIn_app (goodIn_of _ (by decide +kernel)) ggX10_workOut_X9_partOf
set_option maxRecDepth 20000 in
theorem ggX10_workOut_X10_putAct : GoodIn wsX10_workOut wsX10_putAct := goodIn_r _ [35, 36, 37, 38, 7, 39, 23, 24, 25, 19, 20, 21, 22, 40, 41, 42, 43, 44, 45, 46, 47, 48, 49, 50, 51, 52, 53, 54, 55, 56, 73, 74, 75, 76] (by decide +kernel) (by decide +kernel)
set_option maxRecDepth 20000 in
theorem gX10_workOut_X10_putAct : GoodIn wsX10_workOut (wsV RX10 45 RX10 yX10_putAct wsX10_putAct) := goodIn_app (goodIn_of _ (by decide +kernel)) ggX10_workOut_X10_putAct
set_option maxRecDepth 20000 in
theorem ggX10_workOut_X10_putRel : GoodIn wsX10_workOut wsX10_putRel := goodIn_r _ [60, 61, 26, 27, 28, 29, 30, 31, 49, 50, 51, 7, 52, 23, 44, 24, 25, 62, 63, 64, 65, 53, 54, 55, 56, 19, 20, 21, 22, 73, 74, 75, 76, 66, 67, 68, 69, 70, 71, 72] (by decide +kernel) (by decide +kernel)
set_option maxRecDepth 20000 in
theorem gX10_workOut_X10_putRel : GoodIn wsX10_workOut (wsV RX10 49 RX10 yX10_putRel wsX10_putRel) := goodIn_app (goodIn_of _ (by decide +kernel)) ggX10_workOut_X10_putRel
theorem dX10_workOut_0 : decode cX10_workOut 0 = .ok (.aload_n 1, 1) := by decide +kernel
theorem dX10_workOut_1 : decode cX10_workOut 1 = .ok (.getfield 24, 3) := by decide +kernel
theorem dX10_workOut_4 : decode cX10_workOut 4 = .ok (.iconst 1, 1) := by decide +kernel
theorem dX10_workOut_5 : decode cX10_workOut 5 = .ok (.isub, 1) := by decide +kernel
theorem dX10_workOut_6 : decode cX10_workOut 6 = .ok (.istore 5, 2) := by decide +kernel
theorem dX10_workOut_8 : decode cX10_workOut 8 = .ok (.iload 5, 2) := by decide +kernel
theorem dX10_workOut_10 : decode cX10_workOut 10 = .ok (.ifCond .lt 107, 3) := by decide +kernel
theorem dX10_workOut_13 : decode cX10_workOut 13 = .ok (.iload 5, 2) := by decide +kernel
theorem dX10_workOut_15 : decode cX10_workOut 15 = .ok (.iload_n 2, 1) := by decide +kernel
theorem dX10_workOut_16 : decode cX10_workOut 16 = .ok (.if_icmp .ne 7, 3) := by decide +kernel
theorem dX10_workOut_19 : decode cX10_workOut 19 = .ok (.iload_n 3, 1) := by decide +kernel
theorem dX10_workOut_20 : decode cX10_workOut 20 = .ok (.goto 10, 3) := by decide +kernel
theorem dX10_workOut_23 : decode cX10_workOut 23 = .ok (.aload_n 1, 1) := by decide +kernel
theorem dX10_workOut_24 : decode cX10_workOut 24 = .ok (.getfield 30, 3) := by decide +kernel
theorem dX10_workOut_27 : decode cX10_workOut 27 = .ok (.iload 5, 2) := by decide +kernel
theorem dX10_workOut_29 : decode cX10_workOut 29 = .ok (.iaload, 1) := by decide +kernel
theorem dX10_workOut_30 : decode cX10_workOut 30 = .ok (.istore 6, 2) := by decide +kernel
theorem dX10_workOut_32 : decode cX10_workOut 32 = .ok (.aload_n 1, 1) := by decide +kernel
theorem dX10_workOut_33 : decode cX10_workOut 33 = .ok (.getfield 34, 3) := by decide +kernel
theorem dX10_workOut_36 : decode cX10_workOut 36 = .ok (.iload 5, 2) := by decide +kernel
theorem dX10_workOut_38 : decode cX10_workOut 38 = .ok (.iaload, 1) := by decide +kernel
theorem dX10_workOut_39 : decode cX10_workOut 39 = .ok (.lookupswitch 63 #[(0, 25), (2, 38)], 25) := by decide +kernel
theorem dX10_workOut_64 : decode cX10_workOut 64 = .ok (.aload_n 0, 1) := by decide +kernel
theorem dX10_workOut_65 : decode cX10_workOut 65 = .ok (.iload 5, 2) := by decide +kernel
theorem dX10_workOut_67 : decode cX10_workOut 67 = .ok (.iload 6, 2) := by decide +kernel
theorem dX10_workOut_69 : decode cX10_workOut 69 = .ok (.iload 4, 2) := by decide +kernel
theorem dX10_workOut_71 : decode cX10_workOut 71 = .ok (.invokevirtual 37, 3) := by decide +kernel
theorem dX10_workOut_74 : decode cX10_workOut 74 = .ok (.goto 37, 3) := by decide +kernel
theorem dX10_workOut_77 : decode cX10_workOut 77 = .ok (.aload_n 0, 1) := by decide +kernel
theorem dX10_workOut_78 : decode cX10_workOut 78 = .ok (.iload 5, 2) := by decide +kernel
theorem dX10_workOut_80 : decode cX10_workOut 80 = .ok (.iload 6, 2) := by decide +kernel
theorem dX10_workOut_82 : decode cX10_workOut 82 = .ok (.aload_n 1, 1) := by decide +kernel
theorem dX10_workOut_83 : decode cX10_workOut 83 = .ok (.iload 5, 2) := by decide +kernel
theorem dX10_workOut_85 : decode cX10_workOut 85 = .ok (.iconst 0, 1) := by decide +kernel
theorem dX10_workOut_86 : decode cX10_workOut 86 = .ok (.invokevirtual 41, 3) := by decide +kernel
theorem dX10_workOut_89 : decode cX10_workOut 89 = .ok (.aload_n 1, 1) := by decide +kernel
theorem dX10_workOut_90 : decode cX10_workOut 90 = .ok (.iload 5, 2) := by decide +kernel
theorem dX10_workOut_92 : decode cX10_workOut 92 = .ok (.iconst 1, 1) := by decide +kernel
theorem dX10_workOut_93 : decode cX10_workOut 93 = .ok (.invokevirtual 41, 3) := by decide +kernel
theorem dX10_workOut_96 : decode cX10_workOut 96 = .ok (.invokevirtual 45, 3) := by decide +kernel
theorem dX10_workOut_99 : decode cX10_workOut 99 = .ok (.goto 12, 3) := by decide +kernel
theorem dX10_workOut_102 : decode cX10_workOut 102 = .ok (.aload_n 0, 1) := by decide +kernel
theorem dX10_workOut_103 : decode cX10_workOut 103 = .ok (.aload_n 1, 1) := by decide +kernel
theorem dX10_workOut_104 : decode cX10_workOut 104 = .ok (.iload 5, 2) := by decide +kernel
theorem dX10_workOut_106 : decode cX10_workOut 106 = .ok (.iload 6, 2) := by decide +kernel
theorem dX10_workOut_108 : decode cX10_workOut 108 = .ok (.invokevirtual 49, 3) := by decide +kernel
theorem dX10_workOut_111 : decode cX10_workOut 111 = .ok (.iinc 5 (-1), 3) := by decide +kernel
theorem dX10_workOut_114 : decode cX10_workOut 114 = .ok (.goto (-106), 3) := by decide +kernel
theorem dX10_workOut_117 : decode cX10_workOut 117 = .ok (.return_, 1) := by decide +kernel
set_option maxRecDepth 20000 in
theorem ggX10_putLeaf_X10_putNumber : GoodIn wsX10_putLeaf wsX10_putNumber := goodIn_r _ [11, 12, 13, 14, 10, 15, 16, 17, 18, 19, 20, 21, 22] (by decide +kernel) (by decide +kernel)
set_option maxRecDepth 20000 in
theorem gX10_putLeaf_X10_putNumber : GoodIn wsX10_putLeaf (wsV RX10 53 RX10 yX10_putNumber wsX10_putNumber) := goodIn_app (goodIn_of _ (by decide +kernel)) ggX10_putLeaf_X10_putNumber
set_option maxRecDepth 20000 in
theorem ggX10_putLeaf_X10_put : GoodIn wsX10_putLeaf wsX10_put := goodIn_r _ [15, 16, 17, 18, 19, 20, 21, 22] (by decide +kernel) (by decide +kernel)
set_option maxRecDepth 20000 in
theorem gX10_putLeaf_X10_put : GoodIn wsX10_putLeaf (wsV RX10 63 RX10 yX10_put wsX10_put) := goodIn_app (goodIn_of _ (by decide +kernel)) ggX10_putLeaf_X10_put
theorem dX10_putLeaf_0 : decode cX10_putLeaf 0 = .ok (.iload_n 2, 1) := by decide +kernel
theorem dX10_putLeaf_1 : decode cX10_putLeaf 1 = .ok (.tableswitch 70 97 99 #[27, 36, 53], 27) := by decide +kernel
theorem dX10_putLeaf_28 : decode cX10_putLeaf 28 = .ok (.aload_n 0, 1) := by decide +kernel
theorem dX10_putLeaf_29 : decode cX10_putLeaf 29 = .ok (.iload_n 1, 1) := by decide +kernel
theorem dX10_putLeaf_30 : decode cX10_putLeaf 30 = .ok (.iload_n 3, 1) := by decide +kernel
theorem dX10_putLeaf_31 : decode cX10_putLeaf 31 = .ok (.invokevirtual 53, 3) := by decide +kernel
theorem dX10_putLeaf_34 : decode cX10_putLeaf 34 = .ok (.goto 46, 3) := by decide +kernel
theorem dX10_putLeaf_37 : decode cX10_putLeaf 37 = .ok (.aload_n 0, 1) := by decide +kernel
theorem dX10_putLeaf_38 : decode cX10_putLeaf 38 = .ok (.iload_n 1, 1) := by decide +kernel
theorem dX10_putLeaf_39 : decode cX10_putLeaf 39 = .ok (.ldc2_w 57, 3) := by decide +kernel
theorem dX10_putLeaf_42 : decode cX10_putLeaf 42 = .ok (.ldc2_w 59, 3) := by decide +kernel
theorem dX10_putLeaf_45 : decode cX10_putLeaf 45 = .ok (.ldc2_w 61, 3) := by decide +kernel
theorem dX10_putLeaf_48 : decode cX10_putLeaf 48 = .ok (.invokevirtual 63, 3) := by decide +kernel
theorem dX10_putLeaf_51 : decode cX10_putLeaf 51 = .ok (.goto 29, 3) := by decide +kernel
theorem dX10_putLeaf_54 : decode cX10_putLeaf 54 = .ok (.aload_n 0, 1) := by decide +kernel
theorem dX10_putLeaf_55 : decode cX10_putLeaf 55 = .ok (.iload_n 1, 1) := by decide +kernel
theorem dX10_putLeaf_56 : decode cX10_putLeaf 56 = .ok (.ldc2_w 67, 3) := by decide +kernel
theorem dX10_putLeaf_59 : decode cX10_putLeaf 59 = .ok (.ldc2_w 69, 3) := by decide +kernel
theorem dX10_putLeaf_62 : decode cX10_putLeaf 62 = .ok (.ldc2_w 71, 3) := by decide +kernel
theorem dX10_putLeaf_65 : decode cX10_putLeaf 65 = .ok (.invokevirtual 63, 3) := by decide +kernel
theorem dX10_putLeaf_68 : decode cX10_putLeaf 68 = .ok (.goto 12, 3) := by decide +kernel
theorem dX10_putLeaf_71 : decode cX10_putLeaf 71 = .ok (.aload_n 0, 1) := by decide +kernel
theorem dX10_putLeaf_72 : decode cX10_putLeaf 72 = .ok (.iload_n 1, 1) := by decide +kernel
theorem dX10_putLeaf_73 : decode cX10_putLeaf 73 = .ok (.iload_n 2, 1) := by decide +kernel
theorem dX10_putLeaf_74 : decode cX10_putLeaf 74 = .ok (.bipush 48, 2) := by decide +kernel
theorem dX10_putLeaf_76 : decode cX10_putLeaf 76 = .ok (.isub, 1) := by decide +kernel
theorem dX10_putLeaf_77 : decode cX10_putLeaf 77 = .ok (.invokevirtual 53, 3) := by decide +kernel
theorem dX10_putLeaf_80 : decode cX10_putLeaf 80 = .ok (.return_, 1) := by decide +kernel
set_option maxRecDepth 20000 in
theorem ggX10_putAct_X10_putSum : GoodIn wsX10_putAct wsX10_putSum := goodIn_r _ [5, 6, 7, 8, 9, 10, 11, 4, 12, 30, 31, 32, 33] (by decide +kernel) (by decide +kernel)
set_option maxRecDepth 20000 in
theorem gX10_putAct_X10_putSum : GoodIn wsX10_putAct (wsV RX10 73 RX10 yX10_putSum wsX10_putSum) := goodIn_app (goodIn_of _ (by decide +kernel)) ggX10_putAct_X10_putSum
set_option maxRecDepth 20000 in
theorem ggX10_putAct_X10_putDifference : GoodIn wsX10_putAct wsX10_putDifference := goodIn_r _ [16, 6, 17, 7, 8, 9, 10, 11, 4, 12, 30, 31, 32, 33] (by decide +kernel) (by decide +kernel)
set_option maxRecDepth 20000 in
theorem gX10_putAct_X10_putDifference : GoodIn wsX10_putAct (wsV RX10 76 RX10 yX10_putDifference wsX10_putDifference) := goodIn_app (goodIn_of _ (by decide +kernel)) ggX10_putAct_X10_putDifference
set_option maxRecDepth 20000 in
theorem ggX10_putAct_X10_putProduct : GoodIn wsX10_putAct wsX10_putProduct := goodIn_r _ [21, 7, 6, 8, 9, 10, 11, 4, 12, 30, 31, 32, 33] (by decide +kernel) (by decide +kernel)
set_option maxRecDepth 20000 in
theorem gX10_putAct_X10_putProduct : GoodIn wsX10_putAct (wsV RX10 79 RX10 yX10_putProduct wsX10_putProduct) := goodIn_app (goodIn_of _ (by decide +kernel)) ggX10_putAct_X10_putProduct
set_option maxRecDepth 20000 in
theorem ggX10_putAct_X10_below : GoodIn wsX10_putAct wsX10_below := goodIn_r _ [25, 6, 17, 7, 8, 30, 31, 32, 33] (by decide +kernel) (by decide +kernel)
set_option maxRecDepth 20000 in
theorem gX10_putAct_X10_below : GoodIn wsX10_putAct (wsV RX10 82 RX10 yX10_below wsX10_below) := goodIn_app (goodIn_of _ (by decide +kernel)) ggX10_putAct_X10_below
set_option maxRecDepth 20000 in
theorem ggX10_putAct_X10_putChoice : GoodIn wsX10_putAct wsX10_putChoice := goodIn_r _ [29, 6, 17, 7, 8, 9, 10, 11, 4, 12, 30, 31, 32, 33] (by decide +kernel) (by decide +kernel)
set_option maxRecDepth 20000 in
theorem gX10_putAct_X10_putChoice : GoodIn wsX10_putAct (wsV RX10 86 RX10 yX10_putChoice wsX10_putChoice) := goodIn_app (goodIn_of _ (by decide +kernel)) ggX10_putAct_X10_putChoice
theorem dX10_putAct_0 : decode cX10_putAct 0 = .ok (.iload_n 2, 1) := by decide +kernel
theorem dX10_putAct_1 : decode cX10_putAct 1 = .ok (.lookupswitch 94 #[(42, 65), (43, 43), (45, 54), (109, 76)], 43) := by decide +kernel
theorem dX10_putAct_44 : decode cX10_putAct 44 = .ok (.aload_n 0, 1) := by decide +kernel
theorem dX10_putAct_45 : decode cX10_putAct 45 = .ok (.iload_n 1, 1) := by decide +kernel
theorem dX10_putAct_46 : decode cX10_putAct 46 = .ok (.iload_n 3, 1) := by decide +kernel
theorem dX10_putAct_47 : decode cX10_putAct 47 = .ok (.iload 4, 2) := by decide +kernel
theorem dX10_putAct_49 : decode cX10_putAct 49 = .ok (.invokevirtual 73, 3) := by decide +kernel
theorem dX10_putAct_52 : decode cX10_putAct 52 = .ok (.goto 58, 3) := by decide +kernel
theorem dX10_putAct_55 : decode cX10_putAct 55 = .ok (.aload_n 0, 1) := by decide +kernel
theorem dX10_putAct_56 : decode cX10_putAct 56 = .ok (.iload_n 1, 1) := by decide +kernel
theorem dX10_putAct_57 : decode cX10_putAct 57 = .ok (.iload_n 3, 1) := by decide +kernel
theorem dX10_putAct_58 : decode cX10_putAct 58 = .ok (.iload 4, 2) := by decide +kernel
theorem dX10_putAct_60 : decode cX10_putAct 60 = .ok (.invokevirtual 76, 3) := by decide +kernel
theorem dX10_putAct_63 : decode cX10_putAct 63 = .ok (.goto 47, 3) := by decide +kernel
theorem dX10_putAct_66 : decode cX10_putAct 66 = .ok (.aload_n 0, 1) := by decide +kernel
theorem dX10_putAct_67 : decode cX10_putAct 67 = .ok (.iload_n 1, 1) := by decide +kernel
theorem dX10_putAct_68 : decode cX10_putAct 68 = .ok (.iload_n 3, 1) := by decide +kernel
theorem dX10_putAct_69 : decode cX10_putAct 69 = .ok (.iload 4, 2) := by decide +kernel
theorem dX10_putAct_71 : decode cX10_putAct 71 = .ok (.invokevirtual 79, 3) := by decide +kernel
theorem dX10_putAct_74 : decode cX10_putAct 74 = .ok (.goto 36, 3) := by decide +kernel
theorem dX10_putAct_77 : decode cX10_putAct 77 = .ok (.aload_n 0, 1) := by decide +kernel
theorem dX10_putAct_78 : decode cX10_putAct 78 = .ok (.iload_n 1, 1) := by decide +kernel
theorem dX10_putAct_79 : decode cX10_putAct 79 = .ok (.aload_n 0, 1) := by decide +kernel
theorem dX10_putAct_80 : decode cX10_putAct 80 = .ok (.iload_n 3, 1) := by decide +kernel
theorem dX10_putAct_81 : decode cX10_putAct 81 = .ok (.iload 4, 2) := by decide +kernel
theorem dX10_putAct_83 : decode cX10_putAct 83 = .ok (.invokevirtual 82, 3) := by decide +kernel
theorem dX10_putAct_86 : decode cX10_putAct 86 = .ok (.iload_n 3, 1) := by decide +kernel
theorem dX10_putAct_87 : decode cX10_putAct 87 = .ok (.iload 4, 2) := by decide +kernel
theorem dX10_putAct_89 : decode cX10_putAct 89 = .ok (.invokevirtual 86, 3) := by decide +kernel
theorem dX10_putAct_92 : decode cX10_putAct 92 = .ok (.goto 18, 3) := by decide +kernel
theorem dX10_putAct_95 : decode cX10_putAct 95 = .ok (.aload_n 0, 1) := by decide +kernel
theorem dX10_putAct_96 : decode cX10_putAct 96 = .ok (.iload_n 1, 1) := by decide +kernel
theorem dX10_putAct_97 : decode cX10_putAct 97 = .ok (.aload_n 0, 1) := by decide +kernel
theorem dX10_putAct_98 : decode cX10_putAct 98 = .ok (.iload_n 3, 1) := by decide +kernel
theorem dX10_putAct_99 : decode cX10_putAct 99 = .ok (.iload 4, 2) := by decide +kernel
theorem dX10_putAct_101 : decode cX10_putAct 101 = .ok (.invokevirtual 82, 3) := by decide +kernel
theorem dX10_putAct_104 : decode cX10_putAct 104 = .ok (.iload 4, 2) := by decide +kernel
theorem dX10_putAct_106 : decode cX10_putAct 106 = .ok (.iload_n 3, 1) := by decide +kernel
theorem dX10_putAct_107 : decode cX10_putAct 107 = .ok (.invokevirtual 86, 3) := by decide +kernel
theorem dX10_putAct_110 : decode cX10_putAct 110 = .ok (.return_, 1) := by decide +kernel
set_option maxRecDepth 20000 in
theorem ggX10_putRel_X9_partOf : GoodIn wsX10_putRel wsX9_partOf := goodIn_r _ [6, 7, 33, 34, 35, 36, 37, 38, 39] (by decide +kernel) (by decide +kernel)
set_option maxRecDepth 20000 in
theorem gX10_putRel_X9_partOf : GoodIn wsX10_putRel (wsV RX10 41 RX9 yX9_partOf wsX9_partOf) := goodIn_app (goodIn_of _ (by decide +kernel)) ggX10_putRel_X9_partOf
set_option maxRecDepth 20000 in
theorem ggX10_putRel_X10_below : GoodIn wsX10_putRel wsX10_below := goodIn_r _ [12, 13, 14, 15, 16, 29, 30, 31, 32] (by decide +kernel) (by decide +kernel)
set_option maxRecDepth 20000 in
theorem gX10_putRel_X10_below : GoodIn wsX10_putRel (wsV RX10 82 RX10 yX10_below wsX10_below) := goodIn_app (goodIn_of _ (by decide +kernel)) ggX10_putRel_X10_below
set_option maxRecDepth 20000 in
theorem ggX10_putRel_X10_same : GoodIn wsX10_putRel wsX10_same := goodIn_r _ [20, 13, 15, 16, 14, 29, 30, 31, 32] (by decide +kernel) (by decide +kernel)
set_option maxRecDepth 20000 in
theorem gX10_putRel_X10_same : GoodIn wsX10_putRel (wsV RX10 90 RX10 yX10_same wsX10_same) := goodIn_app (goodIn_of _ (by decide +kernel)) ggX10_putRel_X10_same
set_option maxRecDepth 20000 in
theorem ggX10_putRel_X10_putChoice : GoodIn wsX10_putRel wsX10_putChoice := goodIn_r _ [24, 13, 14, 15, 16, 25, 26, 27, 11, 28, 29, 30, 31, 32] (by decide +kernel) (by decide +kernel)
set_option maxRecDepth 20000 in
theorem gX10_putRel_X10_putChoice : GoodIn wsX10_putRel (wsV RX10 86 RX10 yX10_putChoice wsX10_putChoice) := goodIn_app (goodIn_of _ (by decide +kernel)) ggX10_putRel_X10_putChoice
theorem dX10_putRel_0 : decode cX10_putRel 0 = .ok (.aload_n 1, 1) := by decide +kernel
theorem dX10_putRel_1 : decode cX10_putRel 1 = .ok (.iload_n 2, 1) := by decide +kernel
theorem dX10_putRel_2 : decode cX10_putRel 2 = .ok (.iconst 0, 1) := by decide +kernel
theorem dX10_putRel_3 : decode cX10_putRel 3 = .ok (.invokevirtual 41, 3) := by decide +kernel
theorem dX10_putRel_6 : decode cX10_putRel 6 = .ok (.istore 4, 2) := by decide +kernel
theorem dX10_putRel_8 : decode cX10_putRel 8 = .ok (.aload_n 1, 1) := by decide +kernel
theorem dX10_putRel_9 : decode cX10_putRel 9 = .ok (.iload_n 2, 1) := by decide +kernel
theorem dX10_putRel_10 : decode cX10_putRel 10 = .ok (.iconst 1, 1) := by decide +kernel
theorem dX10_putRel_11 : decode cX10_putRel 11 = .ok (.invokevirtual 41, 3) := by decide +kernel
theorem dX10_putRel_14 : decode cX10_putRel 14 = .ok (.istore 5, 2) := by decide +kernel
theorem dX10_putRel_16 : decode cX10_putRel 16 = .ok (.aload_n 0, 1) := by decide +kernel
theorem dX10_putRel_17 : decode cX10_putRel 17 = .ok (.getfield 21, 3) := by decide +kernel
theorem dX10_putRel_20 : decode cX10_putRel 20 = .ok (.iload_n 2, 1) := by decide +kernel
theorem dX10_putRel_21 : decode cX10_putRel 21 = .ok (.iload_n 3, 1) := by decide +kernel
theorem dX10_putRel_22 : decode cX10_putRel 22 = .ok (.bipush 60, 2) := by decide +kernel
theorem dX10_putRel_24 : decode cX10_putRel 24 = .ok (.if_icmp .ne 14, 3) := by decide +kernel
theorem dX10_putRel_27 : decode cX10_putRel 27 = .ok (.aload_n 0, 1) := by decide +kernel
theorem dX10_putRel_28 : decode cX10_putRel 28 = .ok (.iload 4, 2) := by decide +kernel
theorem dX10_putRel_30 : decode cX10_putRel 30 = .ok (.iload 5, 2) := by decide +kernel
theorem dX10_putRel_32 : decode cX10_putRel 32 = .ok (.invokevirtual 82, 3) := by decide +kernel
theorem dX10_putRel_35 : decode cX10_putRel 35 = .ok (.goto 28, 3) := by decide +kernel
theorem dX10_putRel_38 : decode cX10_putRel 38 = .ok (.iload_n 3, 1) := by decide +kernel
theorem dX10_putRel_39 : decode cX10_putRel 39 = .ok (.bipush 62, 2) := by decide +kernel
theorem dX10_putRel_41 : decode cX10_putRel 41 = .ok (.if_icmp .ne 14, 3) := by decide +kernel
theorem dX10_putRel_44 : decode cX10_putRel 44 = .ok (.aload_n 0, 1) := by decide +kernel
theorem dX10_putRel_45 : decode cX10_putRel 45 = .ok (.iload 5, 2) := by decide +kernel
theorem dX10_putRel_47 : decode cX10_putRel 47 = .ok (.iload 4, 2) := by decide +kernel
theorem dX10_putRel_49 : decode cX10_putRel 49 = .ok (.invokevirtual 82, 3) := by decide +kernel
theorem dX10_putRel_52 : decode cX10_putRel 52 = .ok (.goto 11, 3) := by decide +kernel
theorem dX10_putRel_55 : decode cX10_putRel 55 = .ok (.aload_n 0, 1) := by decide +kernel
theorem dX10_putRel_56 : decode cX10_putRel 56 = .ok (.iload 4, 2) := by decide +kernel
theorem dX10_putRel_58 : decode cX10_putRel 58 = .ok (.iload 5, 2) := by decide +kernel
theorem dX10_putRel_60 : decode cX10_putRel 60 = .ok (.invokevirtual 90, 3) := by decide +kernel
theorem dX10_putRel_63 : decode cX10_putRel 63 = .ok (.lastore, 1) := by decide +kernel
theorem dX10_putRel_64 : decode cX10_putRel 64 = .ok (.aload_n 0, 1) := by decide +kernel
theorem dX10_putRel_65 : decode cX10_putRel 65 = .ok (.iload_n 2, 1) := by decide +kernel
theorem dX10_putRel_66 : decode cX10_putRel 66 = .ok (.aload_n 0, 1) := by decide +kernel
theorem dX10_putRel_67 : decode cX10_putRel 67 = .ok (.getfield 21, 3) := by decide +kernel
theorem dX10_putRel_70 : decode cX10_putRel 70 = .ok (.iload_n 2, 1) := by decide +kernel
theorem dX10_putRel_71 : decode cX10_putRel 71 = .ok (.laload, 1) := by decide +kernel
theorem dX10_putRel_72 : decode cX10_putRel 72 = .ok (.aload_n 1, 1) := by decide +kernel
theorem dX10_putRel_73 : decode cX10_putRel 73 = .ok (.iload_n 2, 1) := by decide +kernel
theorem dX10_putRel_74 : decode cX10_putRel 74 = .ok (.iconst 2, 1) := by decide +kernel
theorem dX10_putRel_75 : decode cX10_putRel 75 = .ok (.invokevirtual 41, 3) := by decide +kernel
theorem dX10_putRel_78 : decode cX10_putRel 78 = .ok (.aload_n 1, 1) := by decide +kernel
theorem dX10_putRel_79 : decode cX10_putRel 79 = .ok (.iload_n 2, 1) := by decide +kernel
theorem dX10_putRel_80 : decode cX10_putRel 80 = .ok (.iconst 3, 1) := by decide +kernel
theorem dX10_putRel_81 : decode cX10_putRel 81 = .ok (.invokevirtual 41, 3) := by decide +kernel
theorem dX10_putRel_84 : decode cX10_putRel 84 = .ok (.invokevirtual 86, 3) := by decide +kernel
theorem dX10_putRel_87 : decode cX10_putRel 87 = .ok (.return_, 1) := by decide +kernel
theorem dX10_put_0 : decode cX10_put 0 = .ok (.aload_n 0, 1) := by decide +kernel
theorem dX10_put_1 : decode cX10_put 1 = .ok (.getfield 9, 3) := by decide +kernel
theorem dX10_put_4 : decode cX10_put 4 = .ok (.iload_n 1, 1) := by decide +kernel
theorem dX10_put_5 : decode cX10_put 5 = .ok (.lload_n 2, 1) := by decide +kernel
theorem dX10_put_6 : decode cX10_put 6 = .ok (.lastore, 1) := by decide +kernel
theorem dX10_put_7 : decode cX10_put 7 = .ok (.aload_n 0, 1) := by decide +kernel
theorem dX10_put_8 : decode cX10_put 8 = .ok (.getfield 15, 3) := by decide +kernel
theorem dX10_put_11 : decode cX10_put 11 = .ok (.iload_n 1, 1) := by decide +kernel
theorem dX10_put_12 : decode cX10_put 12 = .ok (.lload 4, 2) := by decide +kernel
theorem dX10_put_14 : decode cX10_put 14 = .ok (.lastore, 1) := by decide +kernel
theorem dX10_put_15 : decode cX10_put 15 = .ok (.aload_n 0, 1) := by decide +kernel
theorem dX10_put_16 : decode cX10_put 16 = .ok (.getfield 18, 3) := by decide +kernel
theorem dX10_put_19 : decode cX10_put 19 = .ok (.iload_n 1, 1) := by decide +kernel
theorem dX10_put_20 : decode cX10_put 20 = .ok (.lload 6, 2) := by decide +kernel
theorem dX10_put_22 : decode cX10_put 22 = .ok (.lastore, 1) := by decide +kernel
theorem dX10_put_23 : decode cX10_put 23 = .ok (.return_, 1) := by decide +kernel
set_option maxRecDepth 20000 in
theorem ggX10_putNumber_X10_put : GoodIn wsX10_putNumber wsX10_put := goodIn_r _ [5, 6, 7, 8, 9, 10, 11, 12] (by decide +kernel) (by decide +kernel)
set_option maxRecDepth 20000 in
theorem gX10_putNumber_X10_put : GoodIn wsX10_putNumber (wsV RX10 63 RX10 yX10_put wsX10_put) := goodIn_app (goodIn_of _ (by decide +kernel)) ggX10_putNumber_X10_put
theorem dX10_putNumber_0 : decode cX10_putNumber 0 = .ok (.aload_n 0, 1) := by decide +kernel
theorem dX10_putNumber_1 : decode cX10_putNumber 1 = .ok (.iload_n 1, 1) := by decide +kernel
theorem dX10_putNumber_2 : decode cX10_putNumber 2 = .ok (.iload_n 2, 1) := by decide +kernel
theorem dX10_putNumber_3 : decode cX10_putNumber 3 = .ok (.i2l, 1) := by decide +kernel
theorem dX10_putNumber_4 : decode cX10_putNumber 4 = .ok (.lconst 1, 1) := by decide +kernel
theorem dX10_putNumber_5 : decode cX10_putNumber 5 = .ok (.land, 1) := by decide +kernel
theorem dX10_putNumber_6 : decode cX10_putNumber 6 = .ok (.lneg, 1) := by decide +kernel
theorem dX10_putNumber_7 : decode cX10_putNumber 7 = .ok (.iload_n 2, 1) := by decide +kernel
theorem dX10_putNumber_8 : decode cX10_putNumber 8 = .ok (.iconst 1, 1) := by decide +kernel
theorem dX10_putNumber_9 : decode cX10_putNumber 9 = .ok (.ishr, 1) := by decide +kernel
theorem dX10_putNumber_10 : decode cX10_putNumber 10 = .ok (.i2l, 1) := by decide +kernel
theorem dX10_putNumber_11 : decode cX10_putNumber 11 = .ok (.lconst 1, 1) := by decide +kernel
theorem dX10_putNumber_12 : decode cX10_putNumber 12 = .ok (.land, 1) := by decide +kernel
theorem dX10_putNumber_13 : decode cX10_putNumber 13 = .ok (.lneg, 1) := by decide +kernel
theorem dX10_putNumber_14 : decode cX10_putNumber 14 = .ok (.iload_n 2, 1) := by decide +kernel
theorem dX10_putNumber_15 : decode cX10_putNumber 15 = .ok (.iconst 2, 1) := by decide +kernel
theorem dX10_putNumber_16 : decode cX10_putNumber 16 = .ok (.ishr, 1) := by decide +kernel
theorem dX10_putNumber_17 : decode cX10_putNumber 17 = .ok (.i2l, 1) := by decide +kernel
theorem dX10_putNumber_18 : decode cX10_putNumber 18 = .ok (.lconst 1, 1) := by decide +kernel
theorem dX10_putNumber_19 : decode cX10_putNumber 19 = .ok (.land, 1) := by decide +kernel
theorem dX10_putNumber_20 : decode cX10_putNumber 20 = .ok (.lneg, 1) := by decide +kernel
theorem dX10_putNumber_21 : decode cX10_putNumber 21 = .ok (.invokevirtual 63, 3) := by decide +kernel
theorem dX10_putNumber_24 : decode cX10_putNumber 24 = .ok (.return_, 1) := by decide +kernel
set_option maxRecDepth 20000 in
theorem ggX10_putSum_X10_put : GoodIn wsX10_putSum wsX10_put := goodIn_r _ [8, 1, 2, 3, 9, 10, 11, 12] (by decide +kernel) (by decide +kernel)
set_option maxRecDepth 20000 in
theorem gX10_putSum_X10_put : GoodIn wsX10_putSum (wsV RX10 63 RX10 yX10_put wsX10_put) := goodIn_app (goodIn_of _ (by decide +kernel)) ggX10_putSum_X10_put
theorem dX10_putSum_0 : decode cX10_putSum 0 = .ok (.aload_n 0, 1) := by decide +kernel
theorem dX10_putSum_1 : decode cX10_putSum 1 = .ok (.getfield 9, 3) := by decide +kernel
theorem dX10_putSum_4 : decode cX10_putSum 4 = .ok (.iload_n 2, 1) := by decide +kernel
theorem dX10_putSum_5 : decode cX10_putSum 5 = .ok (.laload, 1) := by decide +kernel
theorem dX10_putSum_6 : decode cX10_putSum 6 = .ok (.aload_n 0, 1) := by decide +kernel
theorem dX10_putSum_7 : decode cX10_putSum 7 = .ok (.getfield 9, 3) := by decide +kernel
theorem dX10_putSum_10 : decode cX10_putSum 10 = .ok (.iload_n 3, 1) := by decide +kernel
theorem dX10_putSum_11 : decode cX10_putSum 11 = .ok (.laload, 1) := by decide +kernel
theorem dX10_putSum_12 : decode cX10_putSum 12 = .ok (.land, 1) := by decide +kernel
theorem dX10_putSum_13 : decode cX10_putSum 13 = .ok (.lstore 4, 2) := by decide +kernel
theorem dX10_putSum_15 : decode cX10_putSum 15 = .ok (.aload_n 0, 1) := by decide +kernel
theorem dX10_putSum_16 : decode cX10_putSum 16 = .ok (.getfield 15, 3) := by decide +kernel
theorem dX10_putSum_19 : decode cX10_putSum 19 = .ok (.iload_n 2, 1) := by decide +kernel
theorem dX10_putSum_20 : decode cX10_putSum 20 = .ok (.laload, 1) := by decide +kernel
theorem dX10_putSum_21 : decode cX10_putSum 21 = .ok (.aload_n 0, 1) := by decide +kernel
theorem dX10_putSum_22 : decode cX10_putSum 22 = .ok (.getfield 15, 3) := by decide +kernel
theorem dX10_putSum_25 : decode cX10_putSum 25 = .ok (.iload_n 3, 1) := by decide +kernel
theorem dX10_putSum_26 : decode cX10_putSum 26 = .ok (.laload, 1) := by decide +kernel
theorem dX10_putSum_27 : decode cX10_putSum 27 = .ok (.land, 1) := by decide +kernel
theorem dX10_putSum_28 : decode cX10_putSum 28 = .ok (.aload_n 0, 1) := by decide +kernel
theorem dX10_putSum_29 : decode cX10_putSum 29 = .ok (.getfield 15, 3) := by decide +kernel
theorem dX10_putSum_32 : decode cX10_putSum 32 = .ok (.iload_n 2, 1) := by decide +kernel
theorem dX10_putSum_33 : decode cX10_putSum 33 = .ok (.laload, 1) := by decide +kernel
theorem dX10_putSum_34 : decode cX10_putSum 34 = .ok (.aload_n 0, 1) := by decide +kernel
theorem dX10_putSum_35 : decode cX10_putSum 35 = .ok (.getfield 15, 3) := by decide +kernel
theorem dX10_putSum_38 : decode cX10_putSum 38 = .ok (.iload_n 3, 1) := by decide +kernel
theorem dX10_putSum_39 : decode cX10_putSum 39 = .ok (.laload, 1) := by decide +kernel
theorem dX10_putSum_40 : decode cX10_putSum 40 = .ok (.lxor, 1) := by decide +kernel
theorem dX10_putSum_41 : decode cX10_putSum 41 = .ok (.lload 4, 2) := by decide +kernel
theorem dX10_putSum_43 : decode cX10_putSum 43 = .ok (.land, 1) := by decide +kernel
theorem dX10_putSum_44 : decode cX10_putSum 44 = .ok (.lor, 1) := by decide +kernel
theorem dX10_putSum_45 : decode cX10_putSum 45 = .ok (.lstore 6, 2) := by decide +kernel
theorem dX10_putSum_47 : decode cX10_putSum 47 = .ok (.aload_n 0, 1) := by decide +kernel
theorem dX10_putSum_48 : decode cX10_putSum 48 = .ok (.iload_n 1, 1) := by decide +kernel
theorem dX10_putSum_49 : decode cX10_putSum 49 = .ok (.aload_n 0, 1) := by decide +kernel
theorem dX10_putSum_50 : decode cX10_putSum 50 = .ok (.getfield 9, 3) := by decide +kernel
theorem dX10_putSum_53 : decode cX10_putSum 53 = .ok (.iload_n 2, 1) := by decide +kernel
theorem dX10_putSum_54 : decode cX10_putSum 54 = .ok (.laload, 1) := by decide +kernel
theorem dX10_putSum_55 : decode cX10_putSum 55 = .ok (.aload_n 0, 1) := by decide +kernel
theorem dX10_putSum_56 : decode cX10_putSum 56 = .ok (.getfield 9, 3) := by decide +kernel
theorem dX10_putSum_59 : decode cX10_putSum 59 = .ok (.iload_n 3, 1) := by decide +kernel
theorem dX10_putSum_60 : decode cX10_putSum 60 = .ok (.laload, 1) := by decide +kernel
theorem dX10_putSum_61 : decode cX10_putSum 61 = .ok (.lxor, 1) := by decide +kernel
theorem dX10_putSum_62 : decode cX10_putSum 62 = .ok (.aload_n 0, 1) := by decide +kernel
theorem dX10_putSum_63 : decode cX10_putSum 63 = .ok (.getfield 15, 3) := by decide +kernel
theorem dX10_putSum_66 : decode cX10_putSum 66 = .ok (.iload_n 2, 1) := by decide +kernel
theorem dX10_putSum_67 : decode cX10_putSum 67 = .ok (.laload, 1) := by decide +kernel
theorem dX10_putSum_68 : decode cX10_putSum 68 = .ok (.aload_n 0, 1) := by decide +kernel
theorem dX10_putSum_69 : decode cX10_putSum 69 = .ok (.getfield 15, 3) := by decide +kernel
theorem dX10_putSum_72 : decode cX10_putSum 72 = .ok (.iload_n 3, 1) := by decide +kernel
theorem dX10_putSum_73 : decode cX10_putSum 73 = .ok (.laload, 1) := by decide +kernel
theorem dX10_putSum_74 : decode cX10_putSum 74 = .ok (.lxor, 1) := by decide +kernel
theorem dX10_putSum_75 : decode cX10_putSum 75 = .ok (.lload 4, 2) := by decide +kernel
theorem dX10_putSum_77 : decode cX10_putSum 77 = .ok (.lxor, 1) := by decide +kernel
theorem dX10_putSum_78 : decode cX10_putSum 78 = .ok (.aload_n 0, 1) := by decide +kernel
theorem dX10_putSum_79 : decode cX10_putSum 79 = .ok (.getfield 18, 3) := by decide +kernel
theorem dX10_putSum_82 : decode cX10_putSum 82 = .ok (.iload_n 2, 1) := by decide +kernel
theorem dX10_putSum_83 : decode cX10_putSum 83 = .ok (.laload, 1) := by decide +kernel
theorem dX10_putSum_84 : decode cX10_putSum 84 = .ok (.aload_n 0, 1) := by decide +kernel
theorem dX10_putSum_85 : decode cX10_putSum 85 = .ok (.getfield 18, 3) := by decide +kernel
theorem dX10_putSum_88 : decode cX10_putSum 88 = .ok (.iload_n 3, 1) := by decide +kernel
theorem dX10_putSum_89 : decode cX10_putSum 89 = .ok (.laload, 1) := by decide +kernel
theorem dX10_putSum_90 : decode cX10_putSum 90 = .ok (.lxor, 1) := by decide +kernel
theorem dX10_putSum_91 : decode cX10_putSum 91 = .ok (.lload 6, 2) := by decide +kernel
theorem dX10_putSum_93 : decode cX10_putSum 93 = .ok (.lxor, 1) := by decide +kernel
theorem dX10_putSum_94 : decode cX10_putSum 94 = .ok (.invokevirtual 63, 3) := by decide +kernel
theorem dX10_putSum_97 : decode cX10_putSum 97 = .ok (.return_, 1) := by decide +kernel
set_option maxRecDepth 20000 in
theorem ggX10_putDifference_X10_put : GoodIn wsX10_putDifference wsX10_put := goodIn_r _ [9, 1, 3, 4, 10, 11, 12, 13] (by decide +kernel) (by decide +kernel)
set_option maxRecDepth 20000 in
theorem gX10_putDifference_X10_put : GoodIn wsX10_putDifference (wsV RX10 63 RX10 yX10_put wsX10_put) := goodIn_app (goodIn_of _ (by decide +kernel)) ggX10_putDifference_X10_put
theorem dX10_putDifference_0 : decode cX10_putDifference 0 = .ok (.aload_n 0, 1) := by decide +kernel
theorem dX10_putDifference_1 : decode cX10_putDifference 1 = .ok (.getfield 9, 3) := by decide +kernel
theorem dX10_putDifference_4 : decode cX10_putDifference 4 = .ok (.iload_n 2, 1) := by decide +kernel
theorem dX10_putDifference_5 : decode cX10_putDifference 5 = .ok (.laload, 1) := by decide +kernel
theorem dX10_putDifference_6 : decode cX10_putDifference 6 = .ok (.ldc2_w 93, 3) := by decide +kernel
theorem dX10_putDifference_9 : decode cX10_putDifference 9 = .ok (.lxor, 1) := by decide +kernel
theorem dX10_putDifference_10 : decode cX10_putDifference 10 = .ok (.aload_n 0, 1) := by decide +kernel
theorem dX10_putDifference_11 : decode cX10_putDifference 11 = .ok (.getfield 9, 3) := by decide +kernel
theorem dX10_putDifference_14 : decode cX10_putDifference 14 = .ok (.iload_n 3, 1) := by decide +kernel
theorem dX10_putDifference_15 : decode cX10_putDifference 15 = .ok (.laload, 1) := by decide +kernel
theorem dX10_putDifference_16 : decode cX10_putDifference 16 = .ok (.land, 1) := by decide +kernel
theorem dX10_putDifference_17 : decode cX10_putDifference 17 = .ok (.lstore 4, 2) := by decide +kernel
theorem dX10_putDifference_19 : decode cX10_putDifference 19 = .ok (.aload_n 0, 1) := by decide +kernel
theorem dX10_putDifference_20 : decode cX10_putDifference 20 = .ok (.getfield 15, 3) := by decide +kernel
theorem dX10_putDifference_23 : decode cX10_putDifference 23 = .ok (.iload_n 2, 1) := by decide +kernel
theorem dX10_putDifference_24 : decode cX10_putDifference 24 = .ok (.laload, 1) := by decide +kernel
theorem dX10_putDifference_25 : decode cX10_putDifference 25 = .ok (.ldc2_w 93, 3) := by decide +kernel
theorem dX10_putDifference_28 : decode cX10_putDifference 28 = .ok (.lxor, 1) := by decide +kernel
theorem dX10_putDifference_29 : decode cX10_putDifference 29 = .ok (.aload_n 0, 1) := by decide +kernel
theorem dX10_putDifference_30 : decode cX10_putDifference 30 = .ok (.getfield 15, 3) := by decide +kernel
theorem dX10_putDifference_33 : decode cX10_putDifference 33 = .ok (.iload_n 3, 1) := by decide +kernel
theorem dX10_putDifference_34 : decode cX10_putDifference 34 = .ok (.laload, 1) := by decide +kernel
theorem dX10_putDifference_35 : decode cX10_putDifference 35 = .ok (.land, 1) := by decide +kernel
theorem dX10_putDifference_36 : decode cX10_putDifference 36 = .ok (.aload_n 0, 1) := by decide +kernel
theorem dX10_putDifference_37 : decode cX10_putDifference 37 = .ok (.getfield 15, 3) := by decide +kernel
theorem dX10_putDifference_40 : decode cX10_putDifference 40 = .ok (.iload_n 2, 1) := by decide +kernel
theorem dX10_putDifference_41 : decode cX10_putDifference 41 = .ok (.laload, 1) := by decide +kernel
theorem dX10_putDifference_42 : decode cX10_putDifference 42 = .ok (.aload_n 0, 1) := by decide +kernel
theorem dX10_putDifference_43 : decode cX10_putDifference 43 = .ok (.getfield 15, 3) := by decide +kernel
theorem dX10_putDifference_46 : decode cX10_putDifference 46 = .ok (.iload_n 3, 1) := by decide +kernel
theorem dX10_putDifference_47 : decode cX10_putDifference 47 = .ok (.laload, 1) := by decide +kernel
theorem dX10_putDifference_48 : decode cX10_putDifference 48 = .ok (.lxor, 1) := by decide +kernel
theorem dX10_putDifference_49 : decode cX10_putDifference 49 = .ok (.ldc2_w 93, 3) := by decide +kernel
theorem dX10_putDifference_52 : decode cX10_putDifference 52 = .ok (.lxor, 1) := by decide +kernel
theorem dX10_putDifference_53 : decode cX10_putDifference 53 = .ok (.lload 4, 2) := by decide +kernel
theorem dX10_putDifference_55 : decode cX10_putDifference 55 = .ok (.land, 1) := by decide +kernel
theorem dX10_putDifference_56 : decode cX10_putDifference 56 = .ok (.lor, 1) := by decide +kernel
theorem dX10_putDifference_57 : decode cX10_putDifference 57 = .ok (.lstore 6, 2) := by decide +kernel
theorem dX10_putDifference_59 : decode cX10_putDifference 59 = .ok (.aload_n 0, 1) := by decide +kernel
theorem dX10_putDifference_60 : decode cX10_putDifference 60 = .ok (.iload_n 1, 1) := by decide +kernel
theorem dX10_putDifference_61 : decode cX10_putDifference 61 = .ok (.aload_n 0, 1) := by decide +kernel
theorem dX10_putDifference_62 : decode cX10_putDifference 62 = .ok (.getfield 9, 3) := by decide +kernel
theorem dX10_putDifference_65 : decode cX10_putDifference 65 = .ok (.iload_n 2, 1) := by decide +kernel
theorem dX10_putDifference_66 : decode cX10_putDifference 66 = .ok (.laload, 1) := by decide +kernel
theorem dX10_putDifference_67 : decode cX10_putDifference 67 = .ok (.aload_n 0, 1) := by decide +kernel
theorem dX10_putDifference_68 : decode cX10_putDifference 68 = .ok (.getfield 9, 3) := by decide +kernel
theorem dX10_putDifference_71 : decode cX10_putDifference 71 = .ok (.iload_n 3, 1) := by decide +kernel
theorem dX10_putDifference_72 : decode cX10_putDifference 72 = .ok (.laload, 1) := by decide +kernel
theorem dX10_putDifference_73 : decode cX10_putDifference 73 = .ok (.lxor, 1) := by decide +kernel
theorem dX10_putDifference_74 : decode cX10_putDifference 74 = .ok (.aload_n 0, 1) := by decide +kernel
theorem dX10_putDifference_75 : decode cX10_putDifference 75 = .ok (.getfield 15, 3) := by decide +kernel
theorem dX10_putDifference_78 : decode cX10_putDifference 78 = .ok (.iload_n 2, 1) := by decide +kernel
theorem dX10_putDifference_79 : decode cX10_putDifference 79 = .ok (.laload, 1) := by decide +kernel
theorem dX10_putDifference_80 : decode cX10_putDifference 80 = .ok (.aload_n 0, 1) := by decide +kernel
theorem dX10_putDifference_81 : decode cX10_putDifference 81 = .ok (.getfield 15, 3) := by decide +kernel
theorem dX10_putDifference_84 : decode cX10_putDifference 84 = .ok (.iload_n 3, 1) := by decide +kernel
theorem dX10_putDifference_85 : decode cX10_putDifference 85 = .ok (.laload, 1) := by decide +kernel
theorem dX10_putDifference_86 : decode cX10_putDifference 86 = .ok (.lxor, 1) := by decide +kernel
theorem dX10_putDifference_87 : decode cX10_putDifference 87 = .ok (.lload 4, 2) := by decide +kernel
theorem dX10_putDifference_89 : decode cX10_putDifference 89 = .ok (.lxor, 1) := by decide +kernel
theorem dX10_putDifference_90 : decode cX10_putDifference 90 = .ok (.aload_n 0, 1) := by decide +kernel
theorem dX10_putDifference_91 : decode cX10_putDifference 91 = .ok (.getfield 18, 3) := by decide +kernel
theorem dX10_putDifference_94 : decode cX10_putDifference 94 = .ok (.iload_n 2, 1) := by decide +kernel
theorem dX10_putDifference_95 : decode cX10_putDifference 95 = .ok (.laload, 1) := by decide +kernel
theorem dX10_putDifference_96 : decode cX10_putDifference 96 = .ok (.aload_n 0, 1) := by decide +kernel
theorem dX10_putDifference_97 : decode cX10_putDifference 97 = .ok (.getfield 18, 3) := by decide +kernel
theorem dX10_putDifference_100 : decode cX10_putDifference 100 = .ok (.iload_n 3, 1) := by decide +kernel
theorem dX10_putDifference_101 : decode cX10_putDifference 101 = .ok (.laload, 1) := by decide +kernel
theorem dX10_putDifference_102 : decode cX10_putDifference 102 = .ok (.lxor, 1) := by decide +kernel
theorem dX10_putDifference_103 : decode cX10_putDifference 103 = .ok (.lload 6, 2) := by decide +kernel
theorem dX10_putDifference_105 : decode cX10_putDifference 105 = .ok (.lxor, 1) := by decide +kernel
theorem dX10_putDifference_106 : decode cX10_putDifference 106 = .ok (.invokevirtual 63, 3) := by decide +kernel
theorem dX10_putDifference_109 : decode cX10_putDifference 109 = .ok (.return_, 1) := by decide +kernel
set_option maxRecDepth 20000 in
theorem ggX10_putProduct_X10_put : GoodIn wsX10_putProduct wsX10_put := goodIn_r _ [8, 2, 1, 3, 9, 10, 11, 12] (by decide +kernel) (by decide +kernel)
set_option maxRecDepth 20000 in
theorem gX10_putProduct_X10_put : GoodIn wsX10_putProduct (wsV RX10 63 RX10 yX10_put wsX10_put) := goodIn_app (goodIn_of _ (by decide +kernel)) ggX10_putProduct_X10_put
theorem dX10_putProduct_0 : decode cX10_putProduct 0 = .ok (.aload_n 0, 1) := by decide +kernel
theorem dX10_putProduct_1 : decode cX10_putProduct 1 = .ok (.getfield 15, 3) := by decide +kernel
theorem dX10_putProduct_4 : decode cX10_putProduct 4 = .ok (.iload_n 2, 1) := by decide +kernel
theorem dX10_putProduct_5 : decode cX10_putProduct 5 = .ok (.laload, 1) := by decide +kernel
theorem dX10_putProduct_6 : decode cX10_putProduct 6 = .ok (.aload_n 0, 1) := by decide +kernel
theorem dX10_putProduct_7 : decode cX10_putProduct 7 = .ok (.getfield 9, 3) := by decide +kernel
theorem dX10_putProduct_10 : decode cX10_putProduct 10 = .ok (.iload_n 3, 1) := by decide +kernel
theorem dX10_putProduct_11 : decode cX10_putProduct 11 = .ok (.laload, 1) := by decide +kernel
theorem dX10_putProduct_12 : decode cX10_putProduct 12 = .ok (.land, 1) := by decide +kernel
theorem dX10_putProduct_13 : decode cX10_putProduct 13 = .ok (.lstore 4, 2) := by decide +kernel
theorem dX10_putProduct_15 : decode cX10_putProduct 15 = .ok (.aload_n 0, 1) := by decide +kernel
theorem dX10_putProduct_16 : decode cX10_putProduct 16 = .ok (.getfield 9, 3) := by decide +kernel
theorem dX10_putProduct_19 : decode cX10_putProduct 19 = .ok (.iload_n 2, 1) := by decide +kernel
theorem dX10_putProduct_20 : decode cX10_putProduct 20 = .ok (.laload, 1) := by decide +kernel
theorem dX10_putProduct_21 : decode cX10_putProduct 21 = .ok (.aload_n 0, 1) := by decide +kernel
theorem dX10_putProduct_22 : decode cX10_putProduct 22 = .ok (.getfield 15, 3) := by decide +kernel
theorem dX10_putProduct_25 : decode cX10_putProduct 25 = .ok (.iload_n 3, 1) := by decide +kernel
theorem dX10_putProduct_26 : decode cX10_putProduct 26 = .ok (.laload, 1) := by decide +kernel
theorem dX10_putProduct_27 : decode cX10_putProduct 27 = .ok (.land, 1) := by decide +kernel
theorem dX10_putProduct_28 : decode cX10_putProduct 28 = .ok (.lstore 6, 2) := by decide +kernel
theorem dX10_putProduct_30 : decode cX10_putProduct 30 = .ok (.aload_n 0, 1) := by decide +kernel
theorem dX10_putProduct_31 : decode cX10_putProduct 31 = .ok (.getfield 18, 3) := by decide +kernel
theorem dX10_putProduct_34 : decode cX10_putProduct 34 = .ok (.iload_n 2, 1) := by decide +kernel
theorem dX10_putProduct_35 : decode cX10_putProduct 35 = .ok (.laload, 1) := by decide +kernel
theorem dX10_putProduct_36 : decode cX10_putProduct 36 = .ok (.aload_n 0, 1) := by decide +kernel
theorem dX10_putProduct_37 : decode cX10_putProduct 37 = .ok (.getfield 9, 3) := by decide +kernel
theorem dX10_putProduct_40 : decode cX10_putProduct 40 = .ok (.iload_n 3, 1) := by decide +kernel
theorem dX10_putProduct_41 : decode cX10_putProduct 41 = .ok (.laload, 1) := by decide +kernel
theorem dX10_putProduct_42 : decode cX10_putProduct 42 = .ok (.land, 1) := by decide +kernel
theorem dX10_putProduct_43 : decode cX10_putProduct 43 = .ok (.aload_n 0, 1) := by decide +kernel
theorem dX10_putProduct_44 : decode cX10_putProduct 44 = .ok (.getfield 15, 3) := by decide +kernel
theorem dX10_putProduct_47 : decode cX10_putProduct 47 = .ok (.iload_n 2, 1) := by decide +kernel
theorem dX10_putProduct_48 : decode cX10_putProduct 48 = .ok (.laload, 1) := by decide +kernel
theorem dX10_putProduct_49 : decode cX10_putProduct 49 = .ok (.aload_n 0, 1) := by decide +kernel
theorem dX10_putProduct_50 : decode cX10_putProduct 50 = .ok (.getfield 15, 3) := by decide +kernel
theorem dX10_putProduct_53 : decode cX10_putProduct 53 = .ok (.iload_n 3, 1) := by decide +kernel
theorem dX10_putProduct_54 : decode cX10_putProduct 54 = .ok (.laload, 1) := by decide +kernel
theorem dX10_putProduct_55 : decode cX10_putProduct 55 = .ok (.land, 1) := by decide +kernel
theorem dX10_putProduct_56 : decode cX10_putProduct 56 = .ok (.lxor, 1) := by decide +kernel
theorem dX10_putProduct_57 : decode cX10_putProduct 57 = .ok (.aload_n 0, 1) := by decide +kernel
theorem dX10_putProduct_58 : decode cX10_putProduct 58 = .ok (.getfield 9, 3) := by decide +kernel
theorem dX10_putProduct_61 : decode cX10_putProduct 61 = .ok (.iload_n 2, 1) := by decide +kernel
theorem dX10_putProduct_62 : decode cX10_putProduct 62 = .ok (.laload, 1) := by decide +kernel
theorem dX10_putProduct_63 : decode cX10_putProduct 63 = .ok (.aload_n 0, 1) := by decide +kernel
theorem dX10_putProduct_64 : decode cX10_putProduct 64 = .ok (.getfield 18, 3) := by decide +kernel
theorem dX10_putProduct_67 : decode cX10_putProduct 67 = .ok (.iload_n 3, 1) := by decide +kernel
theorem dX10_putProduct_68 : decode cX10_putProduct 68 = .ok (.laload, 1) := by decide +kernel
theorem dX10_putProduct_69 : decode cX10_putProduct 69 = .ok (.land, 1) := by decide +kernel
theorem dX10_putProduct_70 : decode cX10_putProduct 70 = .ok (.lxor, 1) := by decide +kernel
theorem dX10_putProduct_71 : decode cX10_putProduct 71 = .ok (.lstore 8, 2) := by decide +kernel
theorem dX10_putProduct_73 : decode cX10_putProduct 73 = .ok (.aload_n 0, 1) := by decide +kernel
theorem dX10_putProduct_74 : decode cX10_putProduct 74 = .ok (.iload_n 1, 1) := by decide +kernel
theorem dX10_putProduct_75 : decode cX10_putProduct 75 = .ok (.aload_n 0, 1) := by decide +kernel
theorem dX10_putProduct_76 : decode cX10_putProduct 76 = .ok (.getfield 9, 3) := by decide +kernel
theorem dX10_putProduct_79 : decode cX10_putProduct 79 = .ok (.iload_n 2, 1) := by decide +kernel
theorem dX10_putProduct_80 : decode cX10_putProduct 80 = .ok (.laload, 1) := by decide +kernel
theorem dX10_putProduct_81 : decode cX10_putProduct 81 = .ok (.aload_n 0, 1) := by decide +kernel
theorem dX10_putProduct_82 : decode cX10_putProduct 82 = .ok (.getfield 9, 3) := by decide +kernel
theorem dX10_putProduct_85 : decode cX10_putProduct 85 = .ok (.iload_n 3, 1) := by decide +kernel
theorem dX10_putProduct_86 : decode cX10_putProduct 86 = .ok (.laload, 1) := by decide +kernel
theorem dX10_putProduct_87 : decode cX10_putProduct 87 = .ok (.land, 1) := by decide +kernel
theorem dX10_putProduct_88 : decode cX10_putProduct 88 = .ok (.lload 4, 2) := by decide +kernel
theorem dX10_putProduct_90 : decode cX10_putProduct 90 = .ok (.lload 6, 2) := by decide +kernel
theorem dX10_putProduct_92 : decode cX10_putProduct 92 = .ok (.lxor, 1) := by decide +kernel
theorem dX10_putProduct_93 : decode cX10_putProduct 93 = .ok (.lload 8, 2) := by decide +kernel
theorem dX10_putProduct_95 : decode cX10_putProduct 95 = .ok (.lload 4, 2) := by decide +kernel
theorem dX10_putProduct_97 : decode cX10_putProduct 97 = .ok (.lload 6, 2) := by decide +kernel
theorem dX10_putProduct_99 : decode cX10_putProduct 99 = .ok (.land, 1) := by decide +kernel
theorem dX10_putProduct_100 : decode cX10_putProduct 100 = .ok (.lxor, 1) := by decide +kernel
theorem dX10_putProduct_101 : decode cX10_putProduct 101 = .ok (.invokevirtual 63, 3) := by decide +kernel
theorem dX10_putProduct_104 : decode cX10_putProduct 104 = .ok (.return_, 1) := by decide +kernel
set_option maxRecDepth 20000 in
theorem ggX10_putChoice_X10_put : GoodIn wsX10_putChoice wsX10_put := goodIn_r _ [9, 1, 3, 4, 10, 11, 12, 13] (by decide +kernel) (by decide +kernel)
set_option maxRecDepth 20000 in
theorem gX10_putChoice_X10_put : GoodIn wsX10_putChoice (wsV RX10 63 RX10 yX10_put wsX10_put) := goodIn_app (goodIn_of _ (by decide +kernel)) ggX10_putChoice_X10_put
theorem dX10_putChoice_0 : decode cX10_putChoice 0 = .ok (.aload_n 0, 1) := by decide +kernel
theorem dX10_putChoice_1 : decode cX10_putChoice 1 = .ok (.iload_n 1, 1) := by decide +kernel
theorem dX10_putChoice_2 : decode cX10_putChoice 2 = .ok (.lload_n 2, 1) := by decide +kernel
theorem dX10_putChoice_3 : decode cX10_putChoice 3 = .ok (.aload_n 0, 1) := by decide +kernel
theorem dX10_putChoice_4 : decode cX10_putChoice 4 = .ok (.getfield 9, 3) := by decide +kernel
theorem dX10_putChoice_7 : decode cX10_putChoice 7 = .ok (.iload 4, 2) := by decide +kernel
theorem dX10_putChoice_9 : decode cX10_putChoice 9 = .ok (.laload, 1) := by decide +kernel
theorem dX10_putChoice_10 : decode cX10_putChoice 10 = .ok (.land, 1) := by decide +kernel
theorem dX10_putChoice_11 : decode cX10_putChoice 11 = .ok (.lload_n 2, 1) := by decide +kernel
theorem dX10_putChoice_12 : decode cX10_putChoice 12 = .ok (.ldc2_w 93, 3) := by decide +kernel
theorem dX10_putChoice_15 : decode cX10_putChoice 15 = .ok (.lxor, 1) := by decide +kernel
theorem dX10_putChoice_16 : decode cX10_putChoice 16 = .ok (.aload_n 0, 1) := by decide +kernel
theorem dX10_putChoice_17 : decode cX10_putChoice 17 = .ok (.getfield 9, 3) := by decide +kernel
theorem dX10_putChoice_20 : decode cX10_putChoice 20 = .ok (.iload 5, 2) := by decide +kernel
theorem dX10_putChoice_22 : decode cX10_putChoice 22 = .ok (.laload, 1) := by decide +kernel
theorem dX10_putChoice_23 : decode cX10_putChoice 23 = .ok (.land, 1) := by decide +kernel
theorem dX10_putChoice_24 : decode cX10_putChoice 24 = .ok (.lor, 1) := by decide +kernel
theorem dX10_putChoice_25 : decode cX10_putChoice 25 = .ok (.lload_n 2, 1) := by decide +kernel
theorem dX10_putChoice_26 : decode cX10_putChoice 26 = .ok (.aload_n 0, 1) := by decide +kernel
theorem dX10_putChoice_27 : decode cX10_putChoice 27 = .ok (.getfield 15, 3) := by decide +kernel
theorem dX10_putChoice_30 : decode cX10_putChoice 30 = .ok (.iload 4, 2) := by decide +kernel
theorem dX10_putChoice_32 : decode cX10_putChoice 32 = .ok (.laload, 1) := by decide +kernel
theorem dX10_putChoice_33 : decode cX10_putChoice 33 = .ok (.land, 1) := by decide +kernel
theorem dX10_putChoice_34 : decode cX10_putChoice 34 = .ok (.lload_n 2, 1) := by decide +kernel
theorem dX10_putChoice_35 : decode cX10_putChoice 35 = .ok (.ldc2_w 93, 3) := by decide +kernel
theorem dX10_putChoice_38 : decode cX10_putChoice 38 = .ok (.lxor, 1) := by decide +kernel
theorem dX10_putChoice_39 : decode cX10_putChoice 39 = .ok (.aload_n 0, 1) := by decide +kernel
theorem dX10_putChoice_40 : decode cX10_putChoice 40 = .ok (.getfield 15, 3) := by decide +kernel
theorem dX10_putChoice_43 : decode cX10_putChoice 43 = .ok (.iload 5, 2) := by decide +kernel
theorem dX10_putChoice_45 : decode cX10_putChoice 45 = .ok (.laload, 1) := by decide +kernel
theorem dX10_putChoice_46 : decode cX10_putChoice 46 = .ok (.land, 1) := by decide +kernel
theorem dX10_putChoice_47 : decode cX10_putChoice 47 = .ok (.lor, 1) := by decide +kernel
theorem dX10_putChoice_48 : decode cX10_putChoice 48 = .ok (.lload_n 2, 1) := by decide +kernel
theorem dX10_putChoice_49 : decode cX10_putChoice 49 = .ok (.aload_n 0, 1) := by decide +kernel
theorem dX10_putChoice_50 : decode cX10_putChoice 50 = .ok (.getfield 18, 3) := by decide +kernel
theorem dX10_putChoice_53 : decode cX10_putChoice 53 = .ok (.iload 4, 2) := by decide +kernel
theorem dX10_putChoice_55 : decode cX10_putChoice 55 = .ok (.laload, 1) := by decide +kernel
theorem dX10_putChoice_56 : decode cX10_putChoice 56 = .ok (.land, 1) := by decide +kernel
theorem dX10_putChoice_57 : decode cX10_putChoice 57 = .ok (.lload_n 2, 1) := by decide +kernel
theorem dX10_putChoice_58 : decode cX10_putChoice 58 = .ok (.ldc2_w 93, 3) := by decide +kernel
theorem dX10_putChoice_61 : decode cX10_putChoice 61 = .ok (.lxor, 1) := by decide +kernel
theorem dX10_putChoice_62 : decode cX10_putChoice 62 = .ok (.aload_n 0, 1) := by decide +kernel
theorem dX10_putChoice_63 : decode cX10_putChoice 63 = .ok (.getfield 18, 3) := by decide +kernel
theorem dX10_putChoice_66 : decode cX10_putChoice 66 = .ok (.iload 5, 2) := by decide +kernel
theorem dX10_putChoice_68 : decode cX10_putChoice 68 = .ok (.laload, 1) := by decide +kernel
theorem dX10_putChoice_69 : decode cX10_putChoice 69 = .ok (.land, 1) := by decide +kernel
theorem dX10_putChoice_70 : decode cX10_putChoice 70 = .ok (.lor, 1) := by decide +kernel
theorem dX10_putChoice_71 : decode cX10_putChoice 71 = .ok (.invokevirtual 63, 3) := by decide +kernel
theorem dX10_putChoice_74 : decode cX10_putChoice 74 = .ok (.return_, 1) := by decide +kernel
theorem dX10_below_0 : decode cX10_below 0 = .ok (.aload_n 0, 1) := by decide +kernel
theorem dX10_below_1 : decode cX10_below 1 = .ok (.getfield 9, 3) := by decide +kernel
theorem dX10_below_4 : decode cX10_below 4 = .ok (.iload_n 1, 1) := by decide +kernel
theorem dX10_below_5 : decode cX10_below 5 = .ok (.laload, 1) := by decide +kernel
theorem dX10_below_6 : decode cX10_below 6 = .ok (.ldc2_w 93, 3) := by decide +kernel
theorem dX10_below_9 : decode cX10_below 9 = .ok (.lxor, 1) := by decide +kernel
theorem dX10_below_10 : decode cX10_below 10 = .ok (.aload_n 0, 1) := by decide +kernel
theorem dX10_below_11 : decode cX10_below 11 = .ok (.getfield 9, 3) := by decide +kernel
theorem dX10_below_14 : decode cX10_below 14 = .ok (.iload_n 2, 1) := by decide +kernel
theorem dX10_below_15 : decode cX10_below 15 = .ok (.laload, 1) := by decide +kernel
theorem dX10_below_16 : decode cX10_below 16 = .ok (.land, 1) := by decide +kernel
theorem dX10_below_17 : decode cX10_below 17 = .ok (.lstore_n 3, 1) := by decide +kernel
theorem dX10_below_18 : decode cX10_below 18 = .ok (.aload_n 0, 1) := by decide +kernel
theorem dX10_below_19 : decode cX10_below 19 = .ok (.getfield 15, 3) := by decide +kernel
theorem dX10_below_22 : decode cX10_below 22 = .ok (.iload_n 1, 1) := by decide +kernel
theorem dX10_below_23 : decode cX10_below 23 = .ok (.laload, 1) := by decide +kernel
theorem dX10_below_24 : decode cX10_below 24 = .ok (.ldc2_w 93, 3) := by decide +kernel
theorem dX10_below_27 : decode cX10_below 27 = .ok (.lxor, 1) := by decide +kernel
theorem dX10_below_28 : decode cX10_below 28 = .ok (.aload_n 0, 1) := by decide +kernel
theorem dX10_below_29 : decode cX10_below 29 = .ok (.getfield 15, 3) := by decide +kernel
theorem dX10_below_32 : decode cX10_below 32 = .ok (.iload_n 2, 1) := by decide +kernel
theorem dX10_below_33 : decode cX10_below 33 = .ok (.laload, 1) := by decide +kernel
theorem dX10_below_34 : decode cX10_below 34 = .ok (.land, 1) := by decide +kernel
theorem dX10_below_35 : decode cX10_below 35 = .ok (.aload_n 0, 1) := by decide +kernel
theorem dX10_below_36 : decode cX10_below 36 = .ok (.getfield 15, 3) := by decide +kernel
theorem dX10_below_39 : decode cX10_below 39 = .ok (.iload_n 1, 1) := by decide +kernel
theorem dX10_below_40 : decode cX10_below 40 = .ok (.laload, 1) := by decide +kernel
theorem dX10_below_41 : decode cX10_below 41 = .ok (.aload_n 0, 1) := by decide +kernel
theorem dX10_below_42 : decode cX10_below 42 = .ok (.getfield 15, 3) := by decide +kernel
theorem dX10_below_45 : decode cX10_below 45 = .ok (.iload_n 2, 1) := by decide +kernel
theorem dX10_below_46 : decode cX10_below 46 = .ok (.laload, 1) := by decide +kernel
theorem dX10_below_47 : decode cX10_below 47 = .ok (.lxor, 1) := by decide +kernel
theorem dX10_below_48 : decode cX10_below 48 = .ok (.ldc2_w 93, 3) := by decide +kernel
theorem dX10_below_51 : decode cX10_below 51 = .ok (.lxor, 1) := by decide +kernel
theorem dX10_below_52 : decode cX10_below 52 = .ok (.lload_n 3, 1) := by decide +kernel
theorem dX10_below_53 : decode cX10_below 53 = .ok (.land, 1) := by decide +kernel
theorem dX10_below_54 : decode cX10_below 54 = .ok (.lor, 1) := by decide +kernel
theorem dX10_below_55 : decode cX10_below 55 = .ok (.lstore 5, 2) := by decide +kernel
theorem dX10_below_57 : decode cX10_below 57 = .ok (.aload_n 0, 1) := by decide +kernel
theorem dX10_below_58 : decode cX10_below 58 = .ok (.getfield 18, 3) := by decide +kernel
theorem dX10_below_61 : decode cX10_below 61 = .ok (.iload_n 1, 1) := by decide +kernel
theorem dX10_below_62 : decode cX10_below 62 = .ok (.laload, 1) := by decide +kernel
theorem dX10_below_63 : decode cX10_below 63 = .ok (.ldc2_w 93, 3) := by decide +kernel
theorem dX10_below_66 : decode cX10_below 66 = .ok (.lxor, 1) := by decide +kernel
theorem dX10_below_67 : decode cX10_below 67 = .ok (.aload_n 0, 1) := by decide +kernel
theorem dX10_below_68 : decode cX10_below 68 = .ok (.getfield 18, 3) := by decide +kernel
theorem dX10_below_71 : decode cX10_below 71 = .ok (.iload_n 2, 1) := by decide +kernel
theorem dX10_below_72 : decode cX10_below 72 = .ok (.laload, 1) := by decide +kernel
theorem dX10_below_73 : decode cX10_below 73 = .ok (.land, 1) := by decide +kernel
theorem dX10_below_74 : decode cX10_below 74 = .ok (.aload_n 0, 1) := by decide +kernel
theorem dX10_below_75 : decode cX10_below 75 = .ok (.getfield 18, 3) := by decide +kernel
theorem dX10_below_78 : decode cX10_below 78 = .ok (.iload_n 1, 1) := by decide +kernel
theorem dX10_below_79 : decode cX10_below 79 = .ok (.laload, 1) := by decide +kernel
theorem dX10_below_80 : decode cX10_below 80 = .ok (.aload_n 0, 1) := by decide +kernel
theorem dX10_below_81 : decode cX10_below 81 = .ok (.getfield 18, 3) := by decide +kernel
theorem dX10_below_84 : decode cX10_below 84 = .ok (.iload_n 2, 1) := by decide +kernel
theorem dX10_below_85 : decode cX10_below 85 = .ok (.laload, 1) := by decide +kernel
theorem dX10_below_86 : decode cX10_below 86 = .ok (.lxor, 1) := by decide +kernel
theorem dX10_below_87 : decode cX10_below 87 = .ok (.ldc2_w 93, 3) := by decide +kernel
theorem dX10_below_90 : decode cX10_below 90 = .ok (.lxor, 1) := by decide +kernel
theorem dX10_below_91 : decode cX10_below 91 = .ok (.lload 5, 2) := by decide +kernel
theorem dX10_below_93 : decode cX10_below 93 = .ok (.land, 1) := by decide +kernel
theorem dX10_below_94 : decode cX10_below 94 = .ok (.lor, 1) := by decide +kernel
theorem dX10_below_95 : decode cX10_below 95 = .ok (.lreturn, 1) := by decide +kernel
theorem dX10_same_0 : decode cX10_same 0 = .ok (.aload_n 0, 1) := by decide +kernel
theorem dX10_same_1 : decode cX10_same 1 = .ok (.getfield 9, 3) := by decide +kernel
theorem dX10_same_4 : decode cX10_same 4 = .ok (.iload_n 1, 1) := by decide +kernel
theorem dX10_same_5 : decode cX10_same 5 = .ok (.laload, 1) := by decide +kernel
theorem dX10_same_6 : decode cX10_same 6 = .ok (.aload_n 0, 1) := by decide +kernel
theorem dX10_same_7 : decode cX10_same 7 = .ok (.getfield 9, 3) := by decide +kernel
theorem dX10_same_10 : decode cX10_same 10 = .ok (.iload_n 2, 1) := by decide +kernel
theorem dX10_same_11 : decode cX10_same 11 = .ok (.laload, 1) := by decide +kernel
theorem dX10_same_12 : decode cX10_same 12 = .ok (.lxor, 1) := by decide +kernel
theorem dX10_same_13 : decode cX10_same 13 = .ok (.aload_n 0, 1) := by decide +kernel
theorem dX10_same_14 : decode cX10_same 14 = .ok (.getfield 15, 3) := by decide +kernel
theorem dX10_same_17 : decode cX10_same 17 = .ok (.iload_n 1, 1) := by decide +kernel
theorem dX10_same_18 : decode cX10_same 18 = .ok (.laload, 1) := by decide +kernel
theorem dX10_same_19 : decode cX10_same 19 = .ok (.aload_n 0, 1) := by decide +kernel
theorem dX10_same_20 : decode cX10_same 20 = .ok (.getfield 15, 3) := by decide +kernel
theorem dX10_same_23 : decode cX10_same 23 = .ok (.iload_n 2, 1) := by decide +kernel
theorem dX10_same_24 : decode cX10_same 24 = .ok (.laload, 1) := by decide +kernel
theorem dX10_same_25 : decode cX10_same 25 = .ok (.lxor, 1) := by decide +kernel
theorem dX10_same_26 : decode cX10_same 26 = .ok (.lor, 1) := by decide +kernel
theorem dX10_same_27 : decode cX10_same 27 = .ok (.aload_n 0, 1) := by decide +kernel
theorem dX10_same_28 : decode cX10_same 28 = .ok (.getfield 18, 3) := by decide +kernel
theorem dX10_same_31 : decode cX10_same 31 = .ok (.iload_n 1, 1) := by decide +kernel
theorem dX10_same_32 : decode cX10_same 32 = .ok (.laload, 1) := by decide +kernel
theorem dX10_same_33 : decode cX10_same 33 = .ok (.aload_n 0, 1) := by decide +kernel
theorem dX10_same_34 : decode cX10_same 34 = .ok (.getfield 18, 3) := by decide +kernel
theorem dX10_same_37 : decode cX10_same 37 = .ok (.iload_n 2, 1) := by decide +kernel
theorem dX10_same_38 : decode cX10_same 38 = .ok (.laload, 1) := by decide +kernel
theorem dX10_same_39 : decode cX10_same 39 = .ok (.lxor, 1) := by decide +kernel
theorem dX10_same_40 : decode cX10_same 40 = .ok (.lor, 1) := by decide +kernel
theorem dX10_same_41 : decode cX10_same 41 = .ok (.ldc2_w 93, 3) := by decide +kernel
theorem dX10_same_44 : decode cX10_same 44 = .ok (.lxor, 1) := by decide +kernel
theorem dX10_same_45 : decode cX10_same 45 = .ok (.lreturn, 1) := by decide +kernel
set_option maxRecDepth 20000 in
theorem ggX10_nodesRun_X10_workOut : GoodIn wsX10_nodesRun wsX10_workOut := goodIn_r _ [7, 1, 8, 9, 10, 11, 12, 6, 13, 14, 15, 16, 17, 18, 19, 20, 21, 22, 23, 24, 25, 26, 27, 28, 29, 30, 31, 32, 33, 34, 35, 36, 37, 38, 39, 40, 41, 42, 43, 44, 45, 46, 47, 48, 49, 50, 51, 52, 53, 54, 55, 56, 57, 58, 59, 60, 61, 62, 63, 64, 65, 66, 67, 68, 69, 70, 76, 77, 78, 79, 80, 81, 82, 83, 84, 85, 86] (by decide +kernel) (by decide +kernel)
set_option maxRecDepth 20000 in
theorem gX10_nodesRun_X10_workOut : GoodIn wsX10_nodesRun (wsV RX10 95 RX10 yX10_workOut wsX10_workOut) := goodIn_app (goodIn_of _ (by decide +kernel)) ggX10_nodesRun_X10_workOut
set_option maxRecDepth 20000 in
theorem ggX10_nodesRun_X10_isTaken : GoodIn wsX10_nodesRun wsX10_isTaken := goodIn_r _ [74, 66, 2, 75, 83, 84, 85, 86, 76, 77, 78, 79, 80, 81, 82] (by decide +kernel) (by decide +kernel)
set_option maxRecDepth 20000 in
theorem gX10_nodesRun_X10_isTaken : GoodIn wsX10_nodesRun (wsV RX10 102 RX10 yX10_isTaken wsX10_isTaken) := goodIn_app (goodIn_of _ (by decide +kernel)) ggX10_nodesRun_X10_isTaken
theorem dX10_nodesRun_0 : decode cX10_nodesRun 0 = .ok (.aload_n 0, 1) := by decide +kernel
theorem dX10_nodesRun_1 : decode cX10_nodesRun 1 = .ok (.aload_n 1, 1) := by decide +kernel
theorem dX10_nodesRun_2 : decode cX10_nodesRun 2 = .ok (.bipush (-6), 2) := by decide +kernel
theorem dX10_nodesRun_4 : decode cX10_nodesRun 4 = .ok (.iconst 0, 1) := by decide +kernel
theorem dX10_nodesRun_5 : decode cX10_nodesRun 5 = .ok (.iload_n 2, 1) := by decide +kernel
theorem dX10_nodesRun_6 : decode cX10_nodesRun 6 = .ok (.bipush 64, 2) := by decide +kernel
theorem dX10_nodesRun_8 : decode cX10_nodesRun 8 = .ok (.idiv, 1) := by decide +kernel
theorem dX10_nodesRun_9 : decode cX10_nodesRun 9 = .ok (.invokevirtual 95, 3) := by decide +kernel
theorem dX10_nodesRun_12 : decode cX10_nodesRun 12 = .ok (.iconst 1, 1) := by decide +kernel
theorem dX10_nodesRun_13 : decode cX10_nodesRun 13 = .ok (.istore_n 3, 1) := by decide +kernel
theorem dX10_nodesRun_14 : decode cX10_nodesRun 14 = .ok (.iconst 1, 1) := by decide +kernel
theorem dX10_nodesRun_15 : decode cX10_nodesRun 15 = .ok (.istore 4, 2) := by decide +kernel
theorem dX10_nodesRun_17 : decode cX10_nodesRun 17 = .ok (.iload 4, 2) := by decide +kernel
theorem dX10_nodesRun_19 : decode cX10_nodesRun 19 = .ok (.aload_n 1, 1) := by decide +kernel
theorem dX10_nodesRun_20 : decode cX10_nodesRun 20 = .ok (.getfield 24, 3) := by decide +kernel
theorem dX10_nodesRun_23 : decode cX10_nodesRun 23 = .ok (.if_icmp .ge 48, 3) := by decide +kernel
theorem dX10_nodesRun_26 : decode cX10_nodesRun 26 = .ok (.aload_n 1, 1) := by decide +kernel
theorem dX10_nodesRun_27 : decode cX10_nodesRun 27 = .ok (.getfield 99, 3) := by decide +kernel
theorem dX10_nodesRun_30 : decode cX10_nodesRun 30 = .ok (.iload 4, 2) := by decide +kernel
theorem dX10_nodesRun_32 : decode cX10_nodesRun 32 = .ok (.iaload, 1) := by decide +kernel
theorem dX10_nodesRun_33 : decode cX10_nodesRun 33 = .ok (.istore 5, 2) := by decide +kernel
theorem dX10_nodesRun_35 : decode cX10_nodesRun 35 = .ok (.iload_n 3, 1) := by decide +kernel
theorem dX10_nodesRun_36 : decode cX10_nodesRun 36 = .ok (.iload 5, 2) := by decide +kernel
theorem dX10_nodesRun_38 : decode cX10_nodesRun 38 = .ok (.iushr, 1) := by decide +kernel
theorem dX10_nodesRun_39 : decode cX10_nodesRun 39 = .ok (.iconst 1, 1) := by decide +kernel
theorem dX10_nodesRun_40 : decode cX10_nodesRun 40 = .ok (.iand, 1) := by decide +kernel
theorem dX10_nodesRun_41 : decode cX10_nodesRun 41 = .ok (.ifCond .eq 24, 3) := by decide +kernel
theorem dX10_nodesRun_44 : decode cX10_nodesRun 44 = .ok (.aload_n 0, 1) := by decide +kernel
theorem dX10_nodesRun_45 : decode cX10_nodesRun 45 = .ok (.aload_n 1, 1) := by decide +kernel
theorem dX10_nodesRun_46 : decode cX10_nodesRun 46 = .ok (.iload 4, 2) := by decide +kernel
theorem dX10_nodesRun_48 : decode cX10_nodesRun 48 = .ok (.iload_n 2, 1) := by decide +kernel
theorem dX10_nodesRun_49 : decode cX10_nodesRun 49 = .ok (.bipush 64, 2) := by decide +kernel
theorem dX10_nodesRun_51 : decode cX10_nodesRun 51 = .ok (.irem, 1) := by decide +kernel
theorem dX10_nodesRun_52 : decode cX10_nodesRun 52 = .ok (.invokevirtual 102, 3) := by decide +kernel
theorem dX10_nodesRun_55 : decode cX10_nodesRun 55 = .ok (.ifCond .eq 10, 3) := by decide +kernel
theorem dX10_nodesRun_58 : decode cX10_nodesRun 58 = .ok (.iload_n 3, 1) := by decide +kernel
theorem dX10_nodesRun_59 : decode cX10_nodesRun 59 = .ok (.iconst 1, 1) := by decide +kernel
theorem dX10_nodesRun_60 : decode cX10_nodesRun 60 = .ok (.iload 4, 2) := by decide +kernel
theorem dX10_nodesRun_62 : decode cX10_nodesRun 62 = .ok (.ishl, 1) := by decide +kernel
theorem dX10_nodesRun_63 : decode cX10_nodesRun 63 = .ok (.ior, 1) := by decide +kernel
theorem dX10_nodesRun_64 : decode cX10_nodesRun 64 = .ok (.istore_n 3, 1) := by decide +kernel
theorem dX10_nodesRun_65 : decode cX10_nodesRun 65 = .ok (.iinc 4 1, 3) := by decide +kernel
theorem dX10_nodesRun_68 : decode cX10_nodesRun 68 = .ok (.goto (-51), 3) := by decide +kernel
theorem dX10_nodesRun_71 : decode cX10_nodesRun 71 = .ok (.iload_n 3, 1) := by decide +kernel
theorem dX10_nodesRun_72 : decode cX10_nodesRun 72 = .ok (.ireturn, 1) := by decide +kernel
theorem dX10_isTaken_0 : decode cX10_isTaken 0 = .ok (.aload_n 0, 1) := by decide +kernel
theorem dX10_isTaken_1 : decode cX10_isTaken 1 = .ok (.getfield 21, 3) := by decide +kernel
theorem dX10_isTaken_4 : decode cX10_isTaken 4 = .ok (.aload_n 1, 1) := by decide +kernel
theorem dX10_isTaken_5 : decode cX10_isTaken 5 = .ok (.getfield 99, 3) := by decide +kernel
theorem dX10_isTaken_8 : decode cX10_isTaken 8 = .ok (.iload_n 2, 1) := by decide +kernel
theorem dX10_isTaken_9 : decode cX10_isTaken 9 = .ok (.iaload, 1) := by decide +kernel
theorem dX10_isTaken_10 : decode cX10_isTaken 10 = .ok (.laload, 1) := by decide +kernel
theorem dX10_isTaken_11 : decode cX10_isTaken 11 = .ok (.iload_n 3, 1) := by decide +kernel
theorem dX10_isTaken_12 : decode cX10_isTaken 12 = .ok (.lushr, 1) := by decide +kernel
theorem dX10_isTaken_13 : decode cX10_isTaken 13 = .ok (.lconst 1, 1) := by decide +kernel
theorem dX10_isTaken_14 : decode cX10_isTaken 14 = .ok (.land, 1) := by decide +kernel
theorem dX10_isTaken_15 : decode cX10_isTaken 15 = .ok (.lconst 0, 1) := by decide +kernel
theorem dX10_isTaken_16 : decode cX10_isTaken 16 = .ok (.lcmp, 1) := by decide +kernel
theorem dX10_isTaken_17 : decode cX10_isTaken 17 = .ok (.ifCond .eq 7, 3) := by decide +kernel
theorem dX10_isTaken_20 : decode cX10_isTaken 20 = .ok (.iconst 1, 1) := by decide +kernel
theorem dX10_isTaken_21 : decode cX10_isTaken 21 = .ok (.goto 4, 3) := by decide +kernel
theorem dX10_isTaken_24 : decode cX10_isTaken 24 = .ok (.iconst 0, 1) := by decide +kernel
theorem dX10_isTaken_25 : decode cX10_isTaken 25 = .ok (.istore 4, 2) := by decide +kernel
theorem dX10_isTaken_27 : decode cX10_isTaken 27 = .ok (.aload_n 1, 1) := by decide +kernel
theorem dX10_isTaken_28 : decode cX10_isTaken 28 = .ok (.getfield 106, 3) := by decide +kernel
theorem dX10_isTaken_31 : decode cX10_isTaken 31 = .ok (.iload_n 2, 1) := by decide +kernel
theorem dX10_isTaken_32 : decode cX10_isTaken 32 = .ok (.iaload, 1) := by decide +kernel
theorem dX10_isTaken_33 : decode cX10_isTaken 33 = .ok (.lookupswitch 41 #[(2, 27), (3, 30)], 27) := by decide +kernel
theorem dX10_isTaken_60 : decode cX10_isTaken 60 = .ok (.iload 4, 2) := by decide +kernel
theorem dX10_isTaken_62 : decode cX10_isTaken 62 = .ok (.ireturn, 1) := by decide +kernel
theorem dX10_isTaken_63 : decode cX10_isTaken 63 = .ok (.iload 4, 2) := by decide +kernel
theorem dX10_isTaken_65 : decode cX10_isTaken 65 = .ok (.ifCond .ne 7, 3) := by decide +kernel
theorem dX10_isTaken_68 : decode cX10_isTaken 68 = .ok (.iconst 1, 1) := by decide +kernel
theorem dX10_isTaken_69 : decode cX10_isTaken 69 = .ok (.goto 4, 3) := by decide +kernel
theorem dX10_isTaken_72 : decode cX10_isTaken 72 = .ok (.iconst 0, 1) := by decide +kernel
theorem dX10_isTaken_73 : decode cX10_isTaken 73 = .ok (.ireturn, 1) := by decide +kernel
theorem dX10_isTaken_74 : decode cX10_isTaken 74 = .ok (.iconst 1, 1) := by decide +kernel
theorem dX10_isTaken_75 : decode cX10_isTaken 75 = .ok (.ireturn, 1) := by decide +kernel
