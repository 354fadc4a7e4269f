set_option maxRecDepth 20000 in
theorem gX12_test_X12_areInputs : GoodIn wsX12_test (va_wsS RX12 130 yX12_areInputs wsX12_areInputs) := goodIn_app (goodIn_of _ (by decide +kernel)) ggX12_test_X12_areInputs
set_option maxRecDepth 20000 in
theorem ggX12_test_X12_in : GoodIn wsX12_test wsX12_in := goodIn_r _ [12] (by decide +kernel) (by decide +kernel)
set_option maxRecDepth 20000 in
theorem gX12_test_X12_in : GoodIn wsX12_test (va_wsS RX12 81 yX12_in wsX12_in) := goodIn_app (goodIn_of _ (by decide +kernel)) ggX12_test_X12_in
theorem dX12_test_0 : decode cX12_test 0 = .ok (.iload_n 1, 1) := by decide +kernel
theorem dX12_test_1 : decode cX12_test 1 = .ok (.invokestatic 130, 3) := by decide +kernel
theorem dX12_test_4 : decode cX12_test 4 = .ok (.ifCond .eq 15, 3) := by decide +kernel
theorem dX12_test_7 : decode cX12_test 7 = .ok (.iload_n 2, 1) := by decide +kernel
theorem dX12_test_8 : decode cX12_test 8 = .ok (.i2l, 1) := by decide +kernel
theorem dX12_test_9 : decode cX12_test 9 = .ok (.lconst 0, 1) := by decide +kernel
theorem dX12_test_10 : decode cX12_test 10 = .ok (.ldc2_w 170, 3) := by decide +kernel
theorem dX12_test_13 : decode cX12_test 13 = .ok (.invokestatic 81, 3) := by decide +kernel
theorem dX12_test_16 : decode cX12_test 16 = .ok (.ifCond .ne 6, 3) := by decide +kernel
theorem dX12_test_19 : decode cX12_test 19 = .ok (.bipush (-2), 2) := by decide +kernel
theorem dX12_test_21 : decode cX12_test 21 = .ok (.ireturn, 1) := by decide +kernel
theorem dX12_test_22 : decode cX12_test 22 = .ok (.aload_n 0, 1) := by decide +kernel
theorem dX12_test_23 : decode cX12_test 23 = .ok (.getfield 155, 3) := by decide +kernel
theorem dX12_test_26 : decode cX12_test 26 = .ok (.bipush 14, 2) := by decide +kernel
theorem dX12_test_28 : decode cX12_test 28 = .ok (.if_icmp .ne 6, 3) := by decide +kernel
theorem dX12_test_31 : decode cX12_test 31 = .ok (.bipush (-4), 2) := by decide +kernel
theorem dX12_test_33 : decode cX12_test 33 = .ok (.ireturn, 1) := by decide +kernel
theorem dX12_test_34 : decode cX12_test 34 = .ok (.aload_n 0, 1) := by decide +kernel
theorem dX12_test_35 : decode cX12_test 35 = .ok (.getfield 53, 3) := by decide +kernel
theorem dX12_test_38 : decode cX12_test 38 = .ok (.aload_n 0, 1) := by decide +kernel
theorem dX12_test_39 : decode cX12_test 39 = .ok (.getfield 155, 3) := by decide +kernel
theorem dX12_test_42 : decode cX12_test 42 = .ok (.iload_n 1, 1) := by decide +kernel
theorem dX12_test_43 : decode cX12_test 43 = .ok (.iastore, 1) := by decide +kernel
theorem dX12_test_44 : decode cX12_test 44 = .ok (.aload_n 0, 1) := by decide +kernel
theorem dX12_test_45 : decode cX12_test 45 = .ok (.getfield 56, 3) := by decide +kernel
theorem dX12_test_48 : decode cX12_test 48 = .ok (.aload_n 0, 1) := by decide +kernel
theorem dX12_test_49 : decode cX12_test 49 = .ok (.getfield 155, 3) := by decide +kernel
theorem dX12_test_52 : decode cX12_test 52 = .ok (.iload_n 2, 1) := by decide +kernel
theorem dX12_test_53 : decode cX12_test 53 = .ok (.iastore, 1) := by decide +kernel
theorem dX12_test_54 : decode cX12_test 54 = .ok (.aload_n 0, 1) := by decide +kernel
theorem dX12_test_55 : decode cX12_test 55 = .ok (.dup, 1) := by decide +kernel
theorem dX12_test_56 : decode cX12_test 56 = .ok (.getfield 155, 3) := by decide +kernel
theorem dX12_test_59 : decode cX12_test 59 = .ok (.iconst 1, 1) := by decide +kernel
theorem dX12_test_60 : decode cX12_test 60 = .ok (.iadd, 1) := by decide +kernel
theorem dX12_test_61 : decode cX12_test 61 = .ok (.putfield 155, 3) := by decide +kernel
theorem dX12_test_64 : decode cX12_test 64 = .ok (.aload_n 0, 1) := by decide +kernel
theorem dX12_test_65 : decode cX12_test 65 = .ok (.getfield 155, 3) := by decide +kernel
theorem dX12_test_68 : decode cX12_test 68 = .ok (.iconst 1, 1) := by decide +kernel
theorem dX12_test_69 : decode cX12_test 69 = .ok (.isub, 1) := by decide +kernel
theorem dX12_test_70 : decode cX12_test 70 = .ok (.ireturn, 1) := by decide +kernel
set_option maxRecDepth 20000 in
theorem ggX12_isTest_X12_in : GoodIn wsX12_isTest wsX12_in := goodIn_r _ [5] (by decide +kernel) (by decide +kernel)
set_option maxRecDepth 20000 in
theorem gX12_isTest_X12_in : GoodIn wsX12_isTest (va_wsS RX12 81 yX12_in wsX12_in) := goodIn_app (goodIn_of _ (by decide +kernel)) ggX12_isTest_X12_in
theorem dX12_isTest_0 : decode cX12_isTest 0 = .ok (.iload_n 1, 1) := by decide +kernel
theorem dX12_isTest_1 : decode cX12_isTest 1 = .ok (.i2l, 1) := by decide +kernel
theorem dX12_isTest_2 : decode cX12_isTest 2 = .ok (.lconst 0, 1) := by decide +kernel
theorem dX12_isTest_3 : decode cX12_isTest 3 = .ok (.aload_n 0, 1) := by decide +kernel
theorem dX12_isTest_4 : decode cX12_isTest 4 = .ok (.getfield 155, 3) := by decide +kernel
theorem dX12_isTest_7 : decode cX12_isTest 7 = .ok (.iconst 1, 1) := by decide +kernel
theorem dX12_isTest_8 : decode cX12_isTest 8 = .ok (.isub, 1) := by decide +kernel
theorem dX12_isTest_9 : decode cX12_isTest 9 = .ok (.i2l, 1) := by decide +kernel
theorem dX12_isTest_10 : decode cX12_isTest 10 = .ok (.invokestatic 81, 3) := by decide +kernel
theorem dX12_isTest_13 : decode cX12_isTest 13 = .ok (.ireturn, 1) := by decide +kernel
set_option maxRecDepth 20000 in
theorem ggX12_drop_X12_isTest : GoodIn wsX12_drop wsX12_isTest := goodIn_r _ [8, 2, 9, 10, 7, 11, 12, 13, 14, 15, 16, 17, 18, 19, 20, 21, 22, 23, 24, 25, 26, 27, 28, 29, 30, 31, 32, 33, 34, 35, 36] (by decide +kernel) (by decide +kernel)
set_option maxRecDepth 20000 in
theorem gX12_drop_X12_isTest : GoodIn wsX12_drop (wsV RX12 172 RX12 yX12_isTest wsX12_isTest) := goodIn_app (goodIn_of _ (by decide +kernel)) ggX12_drop_X12_isTest
theorem dX12_drop_0 : decode cX12_drop 0 = .ok (.aload_n 0, 1) := by decide +kernel
theorem dX12_drop_1 : decode cX12_drop 1 = .ok (.iload_n 1, 1) := by decide +kernel
theorem dX12_drop_2 : decode cX12_drop 2 = .ok (.invokevirtual 172, 3) := by decide +kernel
theorem dX12_drop_5 : decode cX12_drop 5 = .ok (.ifCond .ne 5, 3) := by decide +kernel
theorem dX12_drop_8 : decode cX12_drop 8 = .ok (.iconst (-1), 1) := by decide +kernel
theorem dX12_drop_9 : decode cX12_drop 9 = .ok (.ireturn, 1) := by decide +kernel
theorem dX12_drop_10 : decode cX12_drop 10 = .ok (.aload_n 0, 1) := by decide +kernel
theorem dX12_drop_11 : decode cX12_drop 11 = .ok (.getfield 53, 3) := by decide +kernel
theorem dX12_drop_14 : decode cX12_drop 14 = .ok (.iload_n 1, 1) := by decide +kernel
theorem dX12_drop_15 : decode cX12_drop 15 = .ok (.iaload, 1) := by decide +kernel
theorem dX12_drop_16 : decode cX12_drop 16 = .ok (.istore_n 2, 1) := by decide +kernel
theorem dX12_drop_17 : decode cX12_drop 17 = .ok (.iload_n 1, 1) := by decide +kernel
theorem dX12_drop_18 : decode cX12_drop 18 = .ok (.istore_n 3, 1) := by decide +kernel
theorem dX12_drop_19 : decode cX12_drop 19 = .ok (.iload_n 3, 1) := by decide +kernel
theorem dX12_drop_20 : decode cX12_drop 20 = .ok (.aload_n 0, 1) := by decide +kernel
theorem dX12_drop_21 : decode cX12_drop 21 = .ok (.getfield 155, 3) := by decide +kernel
theorem dX12_drop_24 : decode cX12_drop 24 = .ok (.iconst 1, 1) := by decide +kernel
theorem dX12_drop_25 : decode cX12_drop 25 = .ok (.isub, 1) := by decide +kernel
theorem dX12_drop_26 : decode cX12_drop 26 = .ok (.if_icmp .ge 37, 3) := by decide +kernel
theorem dX12_drop_29 : decode cX12_drop 29 = .ok (.aload_n 0, 1) := by decide +kernel
theorem dX12_drop_30 : decode cX12_drop 30 = .ok (.getfield 53, 3) := by decide +kernel
theorem dX12_drop_33 : decode cX12_drop 33 = .ok (.iload_n 3, 1) := by decide +kernel
theorem dX12_drop_34 : decode cX12_drop 34 = .ok (.aload_n 0, 1) := by decide +kernel
theorem dX12_drop_35 : decode cX12_drop 35 = .ok (.getfield 53, 3) := by decide +kernel
theorem dX12_drop_38 : decode cX12_drop 38 = .ok (.iload_n 3, 1) := by decide +kernel
theorem dX12_drop_39 : decode cX12_drop 39 = .ok (.iconst 1, 1) := by decide +kernel
theorem dX12_drop_40 : decode cX12_drop 40 = .ok (.iadd, 1) := by decide +kernel
theorem dX12_drop_41 : decode cX12_drop 41 = .ok (.iaload, 1) := by decide +kernel
theorem dX12_drop_42 : decode cX12_drop 42 = .ok (.iastore, 1) := by decide +kernel
theorem dX12_drop_43 : decode cX12_drop 43 = .ok (.aload_n 0, 1) := by decide +kernel
theorem dX12_drop_44 : decode cX12_drop 44 = .ok (.getfield 56, 3) := by decide +kernel
theorem dX12_drop_47 : decode cX12_drop 47 = .ok (.iload_n 3, 1) := by decide +kernel
theorem dX12_drop_48 : decode cX12_drop 48 = .ok (.aload_n 0, 1) := by decide +kernel
theorem dX12_drop_49 : decode cX12_drop 49 = .ok (.getfield 56, 3) := by decide +kernel
theorem dX12_drop_52 : decode cX12_drop 52 = .ok (.iload_n 3, 1) := by decide +kernel
theorem dX12_drop_53 : decode cX12_drop 53 = .ok (.iconst 1, 1) := by decide +kernel
theorem dX12_drop_54 : decode cX12_drop 54 = .ok (.iadd, 1) := by decide +kernel
theorem dX12_drop_55 : decode cX12_drop 55 = .ok (.iaload, 1) := by decide +kernel
theorem dX12_drop_56 : decode cX12_drop 56 = .ok (.iastore, 1) := by decide +kernel
theorem dX12_drop_57 : decode cX12_drop 57 = .ok (.iinc 3 1, 3) := by decide +kernel
theorem dX12_drop_60 : decode cX12_drop 60 = .ok (.goto (-41), 3) := by decide +kernel
theorem dX12_drop_63 : decode cX12_drop 63 = .ok (.aload_n 0, 1) := by decide +kernel
theorem dX12_drop_64 : decode cX12_drop 64 = .ok (.dup, 1) := by decide +kernel
theorem dX12_drop_65 : decode cX12_drop 65 = .ok (.getfield 155, 3) := by decide +kernel
theorem dX12_drop_68 : decode cX12_drop 68 = .ok (.iconst 1, 1) := by decide +kernel
theorem dX12_drop_69 : decode cX12_drop 69 = .ok (.isub, 1) := by decide +kernel
theorem dX12_drop_70 : decode cX12_drop 70 = .ok (.putfield 155, 3) := by decide +kernel
theorem dX12_drop_73 : decode cX12_drop 73 = .ok (.iload_n 2, 1) := by decide +kernel
theorem dX12_drop_74 : decode cX12_drop 74 = .ok (.ireturn, 1) := by decide +kernel
theorem dX12_doesFail_0 : decode cX12_doesFail 0 = .ok (.aload_n 0, 1) := by decide +kernel
theorem dX12_doesFail_1 : decode cX12_doesFail 1 = .ok (.getfield 47, 3) := by decide +kernel
theorem dX12_doesFail_4 : decode cX12_doesFail 4 = .ok (.aload_n 0, 1) := by decide +kernel
theorem dX12_doesFail_5 : decode cX12_doesFail 5 = .ok (.getfield 53, 3) := by decide +kernel
theorem dX12_doesFail_8 : decode cX12_doesFail 8 = .ok (.iload_n 1, 1) := by decide +kernel
theorem dX12_doesFail_9 : decode cX12_doesFail 9 = .ok (.iaload, 1) := by decide +kernel
theorem dX12_doesFail_10 : decode cX12_doesFail 10 = .ok (.iaload, 1) := by decide +kernel
theorem dX12_doesFail_11 : decode cX12_doesFail 11 = .ok (.aload_n 0, 1) := by decide +kernel
theorem dX12_doesFail_12 : decode cX12_doesFail 12 = .ok (.getfield 56, 3) := by decide +kernel
theorem dX12_doesFail_15 : decode cX12_doesFail 15 = .ok (.iload_n 1, 1) := by decide +kernel
theorem dX12_doesFail_16 : decode cX12_doesFail 16 = .ok (.iaload, 1) := by decide +kernel
theorem dX12_doesFail_17 : decode cX12_doesFail 17 = .ok (.if_icmp .eq 7, 3) := by decide +kernel
theorem dX12_doesFail_20 : decode cX12_doesFail 20 = .ok (.iconst 1, 1) := by decide +kernel
theorem dX12_doesFail_21 : decode cX12_doesFail 21 = .ok (.goto 4, 3) := by decide +kernel
theorem dX12_doesFail_24 : decode cX12_doesFail 24 = .ok (.iconst 0, 1) := by decide +kernel
theorem dX12_doesFail_25 : decode cX12_doesFail 25 = .ok (.ireturn, 1) := by decide +kernel
set_option maxRecDepth 20000 in
theorem ggX12_of_X12_isTest : GoodIn wsX12_of wsX12_isTest := goodIn_r _ [9, 10, 11, 12, 8, 13, 68, 69, 70, 71, 72, 73, 74, 75, 76, 77, 78, 79, 80, 81, 82, 83, 84, 85, 86, 87, 88, 89, 90, 91, 92] (by decide +kernel) (by decide +kernel)
set_option maxRecDepth 20000 in
theorem gX12_of_X12_isTest : GoodIn wsX12_of (wsV RX12 172 RX12 yX12_isTest wsX12_isTest) := goodIn_app (goodIn_of _ (by decide +kernel)) ggX12_of_X12_isTest
set_option maxRecDepth 20000 in
theorem ggX12_of_X12_findNoticed : GoodIn wsX12_of wsX12_findNoticed := goodIn_r _ [17, 1, 2, 10, 18, 3, 19, 20, 21, 22, 8, 23, 24, 25, 26, 27, 28, 29, 30, 31, 32, 33, 34, 35, 36, 37, 38, 39, 40, 11, 12, 13, 41, 42, 43, 44, 45, 46, 47, 48, 49, 50, 51, 52, 53, 54, 55, 56, 57, 58, 59, 60, 61, 62, 63, 68, 69, 70, 71, 72, 73, 74, 75, 76, 77, 78, 79, 80, 81, 82, 83, 84, 85, 86, 87, 88, 89, 90, 91, 92] (by decide +kernel) (by decide +kernel)
set_option maxRecDepth 20000 in
theorem gX12_of_X12_findNoticed : GoodIn wsX12_of (wsV RX12 161 RX12 yX12_findNoticed wsX12_findNoticed) := goodIn_app (goodIn_of _ (by decide +kernel)) ggX12_of_X12_findNoticed
set_option maxRecDepth 20000 in
theorem ggX12_of_X12_doesFail : GoodIn wsX12_of wsX12_doesFail := goodIn_r _ [67, 19, 3, 4, 68, 69, 70, 71, 72, 73, 74, 75, 76, 77, 78, 79, 80, 81, 82, 83, 84, 85, 86, 87, 88, 89, 90, 91, 92] (by decide +kernel) (by decide +kernel)
set_option maxRecDepth 20000 in
theorem gX12_of_X12_doesFail : GoodIn wsX12_of (wsV RX12 175 RX12 yX12_doesFail wsX12_doesFail) := goodIn_app (goodIn_of _ (by decide +kernel)) ggX12_of_X12_doesFail
theorem dX12_of_0 : decode cX12_of 0 = .ok (.aload_n 0, 1) := by decide +kernel
theorem dX12_of_1 : decode cX12_of 1 = .ok (.iload_n 1, 1) := by decide +kernel
theorem dX12_of_2 : decode cX12_of 2 = .ok (.invokevirtual 172, 3) := by decide +kernel
theorem dX12_of_5 : decode cX12_of 5 = .ok (.ifCond .ne 5, 3) := by decide +kernel
theorem dX12_of_8 : decode cX12_of 8 = .ok (.iconst (-1), 1) := by decide +kernel
theorem dX12_of_9 : decode cX12_of 9 = .ok (.ireturn, 1) := by decide +kernel
theorem dX12_of_10 : decode cX12_of 10 = .ok (.aload_n 0, 1) := by decide +kernel
theorem dX12_of_11 : decode cX12_of 11 = .ok (.invokevirtual 161, 3) := by decide +kernel
theorem dX12_of_14 : decode cX12_of 14 = .ok (.iconst 0, 1) := by decide +kernel
theorem dX12_of_15 : decode cX12_of 15 = .ok (.istore_n 3, 1) := by decide +kernel
theorem dX12_of_16 : decode cX12_of 16 = .ok (.iconst 0, 1) := by decide +kernel
theorem dX12_of_17 : decode cX12_of 17 = .ok (.istore 4, 2) := by decide +kernel
theorem dX12_of_19 : decode cX12_of 19 = .ok (.iload 4, 2) := by decide +kernel
theorem dX12_of_21 : decode cX12_of 21 = .ok (.aload_n 0, 1) := by decide +kernel
theorem dX12_of_22 : decode cX12_of 22 = .ok (.getfield 141, 3) := by decide +kernel
theorem dX12_of_25 : decode cX12_of 25 = .ok (.if_icmp .ge 23, 3) := by decide +kernel
theorem dX12_of_28 : decode cX12_of 28 = .ok (.iload_n 3, 1) := by decide +kernel
theorem dX12_of_29 : decode cX12_of 29 = .ok (.aload_n 0, 1) := by decide +kernel
theorem dX12_of_30 : decode cX12_of 30 = .ok (.getfield 59, 3) := by decide +kernel
theorem dX12_of_33 : decode cX12_of 33 = .ok (.iload 4, 2) := by decide +kernel
theorem dX12_of_35 : decode cX12_of 35 = .ok (.iaload, 1) := by decide +kernel
theorem dX12_of_36 : decode cX12_of 36 = .ok (.iload_n 1, 1) := by decide +kernel
theorem dX12_of_37 : decode cX12_of 37 = .ok (.ishr, 1) := by decide +kernel
theorem dX12_of_38 : decode cX12_of 38 = .ok (.iconst 1, 1) := by decide +kernel
theorem dX12_of_39 : decode cX12_of 39 = .ok (.iand, 1) := by decide +kernel
theorem dX12_of_40 : decode cX12_of 40 = .ok (.iadd, 1) := by decide +kernel
theorem dX12_of_41 : decode cX12_of 41 = .ok (.istore_n 3, 1) := by decide +kernel
theorem dX12_of_42 : decode cX12_of 42 = .ok (.iinc 4 1, 3) := by decide +kernel
theorem dX12_of_45 : decode cX12_of 45 = .ok (.goto (-26), 3) := by decide +kernel
theorem dX12_of_48 : decode cX12_of 48 = .ok (.iload_n 2, 1) := by decide +kernel
theorem dX12_of_49 : decode cX12_of 49 = .ok (.ifCond .ne 12, 3) := by decide +kernel
theorem dX12_of_52 : decode cX12_of 52 = .ok (.aload_n 0, 1) := by decide +kernel
theorem dX12_of_53 : decode cX12_of 53 = .ok (.getfield 53, 3) := by decide +kernel
theorem dX12_of_56 : decode cX12_of 56 = .ok (.iload_n 1, 1) := by decide +kernel
theorem dX12_of_57 : decode cX12_of 57 = .ok (.iaload, 1) := by decide +kernel
theorem dX12_of_58 : decode cX12_of 58 = .ok (.goto 49, 3) := by decide +kernel
theorem dX12_of_61 : decode cX12_of 61 = .ok (.iload_n 2, 1) := by decide +kernel
theorem dX12_of_62 : decode cX12_of 62 = .ok (.iconst 1, 1) := by decide +kernel
theorem dX12_of_63 : decode cX12_of 63 = .ok (.if_icmp .ne 12, 3) := by decide +kernel
theorem dX12_of_66 : decode cX12_of 66 = .ok (.aload_n 0, 1) := by decide +kernel
theorem dX12_of_67 : decode cX12_of 67 = .ok (.getfield 56, 3) := by decide +kernel
theorem dX12_of_70 : decode cX12_of 70 = .ok (.iload_n 1, 1) := by decide +kernel
theorem dX12_of_71 : decode cX12_of 71 = .ok (.iaload, 1) := by decide +kernel
theorem dX12_of_72 : decode cX12_of 72 = .ok (.goto 35, 3) := by decide +kernel
theorem dX12_of_75 : decode cX12_of 75 = .ok (.iload_n 2, 1) := by decide +kernel
theorem dX12_of_76 : decode cX12_of 76 = .ok (.iconst 2, 1) := by decide +kernel
theorem dX12_of_77 : decode cX12_of 77 = .ok (.if_icmp .ne 19, 3) := by decide +kernel
theorem dX12_of_80 : decode cX12_of 80 = .ok (.aload_n 0, 1) := by decide +kernel
theorem dX12_of_81 : decode cX12_of 81 = .ok (.iload_n 1, 1) := by decide +kernel
theorem dX12_of_82 : decode cX12_of 82 = .ok (.invokevirtual 175, 3) := by decide +kernel
theorem dX12_of_85 : decode cX12_of 85 = .ok (.ifCond .eq 7, 3) := by decide +kernel
theorem dX12_of_88 : decode cX12_of 88 = .ok (.iconst 1, 1) := by decide +kernel
theorem dX12_of_89 : decode cX12_of 89 = .ok (.goto 18, 3) := by decide +kernel
theorem dX12_of_92 : decode cX12_of 92 = .ok (.iconst 0, 1) := by decide +kernel
theorem dX12_of_93 : decode cX12_of 93 = .ok (.goto 14, 3) := by decide +kernel
theorem dX12_of_96 : decode cX12_of 96 = .ok (.iload_n 2, 1) := by decide +kernel
theorem dX12_of_97 : decode cX12_of 97 = .ok (.iconst 3, 1) := by decide +kernel
theorem dX12_of_98 : decode cX12_of 98 = .ok (.if_icmp .ne 7, 3) := by decide +kernel
theorem dX12_of_101 : decode cX12_of 101 = .ok (.iload_n 3, 1) := by decide +kernel
theorem dX12_of_102 : decode cX12_of 102 = .ok (.goto 5, 3) := by decide +kernel
theorem dX12_of_105 : decode cX12_of 105 = .ok (.bipush (-2), 2) := by decide +kernel
theorem dX12_of_107 : decode cX12_of 107 = .ok (.ireturn, 1) := by decide +kernel
set_option maxRecDepth 20000 in
theorem ggX12_isOne_X12_behindOf : GoodIn wsX12_isOne wsX12_behindOf := goodIn_r _ [7, 8, 9, 10, 11, 6, 12, 2, 13, 14, 15, 16, 17, 18, 19, 20, 21, 22, 23, 24, 25, 26, 27, 28, 29, 30, 31, 32, 33, 34, 35, 36, 37] (by decide +kernel) (by decide +kernel)
set_option maxRecDepth 20000 in
theorem gX12_isOne_X12_behindOf : GoodIn wsX12_isOne (wsV RX12 167 RX12 yX12_behindOf wsX12_behindOf) := goodIn_app (goodIn_of _ (by decide +kernel)) ggX12_isOne_X12_behindOf
theorem dX12_isOne_0 : decode cX12_isOne 0 = .ok (.iload_n 2, 1) := by decide +kernel
theorem dX12_isOne_1 : decode cX12_isOne 1 = .ok (.tableswitch 81 0 2 #[27, 42, 57], 27) := by decide +kernel
theorem dX12_isOne_28 : decode cX12_isOne 28 = .ok (.aload_n 0, 1) := by decide +kernel
theorem dX12_isOne_29 : decode cX12_isOne 29 = .ok (.getfield 40, 3) := by decide +kernel
theorem dX12_isOne_32 : decode cX12_isOne 32 = .ok (.iload_n 1, 1) := by decide +kernel
theorem dX12_isOne_33 : decode cX12_isOne 33 = .ok (.iaload, 1) := by decide +kernel
theorem dX12_isOne_34 : decode cX12_isOne 34 = .ok (.ifCond .ne 7, 3) := by decide +kernel
theorem dX12_isOne_37 : decode cX12_isOne 37 = .ok (.iconst 1, 1) := by decide +kernel
theorem dX12_isOne_38 : decode cX12_isOne 38 = .ok (.goto 4, 3) := by decide +kernel
theorem dX12_isOne_41 : decode cX12_isOne 41 = .ok (.iconst 0, 1) := by decide +kernel
theorem dX12_isOne_42 : decode cX12_isOne 42 = .ok (.ireturn, 1) := by decide +kernel
theorem dX12_isOne_43 : decode cX12_isOne 43 = .ok (.aload_n 0, 1) := by decide +kernel
theorem dX12_isOne_44 : decode cX12_isOne 44 = .ok (.getfield 59, 3) := by decide +kernel
theorem dX12_isOne_47 : decode cX12_isOne 47 = .ok (.iload_n 1, 1) := by decide +kernel
theorem dX12_isOne_48 : decode cX12_isOne 48 = .ok (.iaload, 1) := by decide +kernel
theorem dX12_isOne_49 : decode cX12_isOne 49 = .ok (.ifCond .eq 7, 3) := by decide +kernel
theorem dX12_isOne_52 : decode cX12_isOne 52 = .ok (.iconst 1, 1) := by decide +kernel
theorem dX12_isOne_53 : decode cX12_isOne 53 = .ok (.goto 4, 3) := by decide +kernel
theorem dX12_isOne_56 : decode cX12_isOne 56 = .ok (.iconst 0, 1) := by decide +kernel
theorem dX12_isOne_57 : decode cX12_isOne 57 = .ok (.ireturn, 1) := by decide +kernel
theorem dX12_isOne_58 : decode cX12_isOne 58 = .ok (.aload_n 0, 1) := by decide +kernel
theorem dX12_isOne_59 : decode cX12_isOne 59 = .ok (.getfield 40, 3) := by decide +kernel
theorem dX12_isOne_62 : decode cX12_isOne 62 = .ok (.iload_n 1, 1) := by decide +kernel
theorem dX12_isOne_63 : decode cX12_isOne 63 = .ok (.iaload, 1) := by decide +kernel
theorem dX12_isOne_64 : decode cX12_isOne 64 = .ok (.ifCond .eq 16, 3) := by decide +kernel
theorem dX12_isOne_67 : decode cX12_isOne 67 = .ok (.aload_n 0, 1) := by decide +kernel
theorem dX12_isOne_68 : decode cX12_isOne 68 = .ok (.getfield 59, 3) := by decide +kernel
theorem dX12_isOne_71 : decode cX12_isOne 71 = .ok (.iload_n 1, 1) := by decide +kernel
theorem dX12_isOne_72 : decode cX12_isOne 72 = .ok (.iaload, 1) := by decide +kernel
theorem dX12_isOne_73 : decode cX12_isOne 73 = .ok (.ifCond .ne 7, 3) := by decide +kernel
theorem dX12_isOne_76 : decode cX12_isOne 76 = .ok (.iconst 1, 1) := by decide +kernel
theorem dX12_isOne_77 : decode cX12_isOne 77 = .ok (.goto 4, 3) := by decide +kernel
theorem dX12_isOne_80 : decode cX12_isOne 80 = .ok (.iconst 0, 1) := by decide +kernel
theorem dX12_isOne_81 : decode cX12_isOne 81 = .ok (.ireturn, 1) := by decide +kernel
theorem dX12_isOne_82 : decode cX12_isOne 82 = .ok (.aload_n 0, 1) := by decide +kernel
theorem dX12_isOne_83 : decode cX12_isOne 83 = .ok (.getfield 59, 3) := by decide +kernel
theorem dX12_isOne_86 : decode cX12_isOne 86 = .ok (.iload_n 1, 1) := by decide +kernel
theorem dX12_isOne_87 : decode cX12_isOne 87 = .ok (.iaload, 1) := by decide +kernel
theorem dX12_isOne_88 : decode cX12_isOne 88 = .ok (.ifCond .eq 15, 3) := by decide +kernel
theorem dX12_isOne_91 : decode cX12_isOne 91 = .ok (.aload_n 0, 1) := by decide +kernel
theorem dX12_isOne_92 : decode cX12_isOne 92 = .ok (.iload_n 1, 1) := by decide +kernel
theorem dX12_isOne_93 : decode cX12_isOne 93 = .ok (.invokevirtual 167, 3) := by decide +kernel
theorem dX12_isOne_96 : decode cX12_isOne 96 = .ok (.ifCond .ne 7, 3) := by decide +kernel
theorem dX12_isOne_99 : decode cX12_isOne 99 = .ok (.iconst 1, 1) := by decide +kernel
theorem dX12_isOne_100 : decode cX12_isOne 100 = .ok (.goto 4, 3) := by decide +kernel
theorem dX12_isOne_103 : decode cX12_isOne 103 = .ok (.iconst 0, 1) := by decide +kernel
theorem dX12_isOne_104 : decode cX12_isOne 104 = .ok (.ireturn, 1) := by decide +kernel
set_option maxRecDepth 20000 in
theorem ggX12_manyOf_X12_isOne : GoodIn wsX12_manyOf wsX12_isOne := goodIn_r _ [6, 7, 8, 9, 10, 11, 5, 12, 1, 13, 14, 15, 16, 17, 18, 19, 20, 21, 22, 23, 24, 25, 26, 27, 28, 29, 30, 31, 32, 33, 34, 35, 36, 37, 38, 39, 40, 41] (by decide +kernel) (by decide +kernel)
set_option maxRecDepth 20000 in
theorem gX12_manyOf_X12_isOne : GoodIn wsX12_manyOf (wsV RX12 178 RX12 yX12_isOne wsX12_isOne) := goodIn_app (goodIn_of _ (by decide +kernel)) ggX12_manyOf_X12_isOne
theorem dX12_manyOf_0 : decode cX12_manyOf 0 = .ok (.iconst 0, 1) := by decide +kernel
theorem dX12_manyOf_1 : decode cX12_manyOf 1 = .ok (.istore_n 2, 1) := by decide +kernel
theorem dX12_manyOf_2 : decode cX12_manyOf 2 = .ok (.iconst 0, 1) := by decide +kernel
theorem dX12_manyOf_3 : decode cX12_manyOf 3 = .ok (.istore_n 3, 1) := by decide +kernel
theorem dX12_manyOf_4 : decode cX12_manyOf 4 = .ok (.iload_n 3, 1) := by decide +kernel
theorem dX12_manyOf_5 : decode cX12_manyOf 5 = .ok (.aload_n 0, 1) := by decide +kernel
theorem dX12_manyOf_6 : decode cX12_manyOf 6 = .ok (.getfield 141, 3) := by decide +kernel
theorem dX12_manyOf_9 : decode cX12_manyOf 9 = .ok (.if_icmp .ge 26, 3) := by decide +kernel
theorem dX12_manyOf_12 : decode cX12_manyOf 12 = .ok (.iload_n 2, 1) := by decide +kernel
theorem dX12_manyOf_13 : decode cX12_manyOf 13 = .ok (.aload_n 0, 1) := by decide +kernel
theorem dX12_manyOf_14 : decode cX12_manyOf 14 = .ok (.iload_n 3, 1) := by decide +kernel
theorem dX12_manyOf_15 : decode cX12_manyOf 15 = .ok (.iload_n 1, 1) := by decide +kernel
theorem dX12_manyOf_16 : decode cX12_manyOf 16 = .ok (.invokevirtual 178, 3) := by decide +kernel
theorem dX12_manyOf_19 : decode cX12_manyOf 19 = .ok (.ifCond .eq 7, 3) := by decide +kernel
theorem dX12_manyOf_22 : decode cX12_manyOf 22 = .ok (.iconst 1, 1) := by decide +kernel
theorem dX12_manyOf_23 : decode cX12_manyOf 23 = .ok (.goto 4, 3) := by decide +kernel
theorem dX12_manyOf_26 : decode cX12_manyOf 26 = .ok (.iconst 0, 1) := by decide +kernel
theorem dX12_manyOf_27 : decode cX12_manyOf 27 = .ok (.iadd, 1) := by decide +kernel
theorem dX12_manyOf_28 : decode cX12_manyOf 28 = .ok (.istore_n 2, 1) := by decide +kernel
theorem dX12_manyOf_29 : decode cX12_manyOf 29 = .ok (.iinc 3 1, 3) := by decide +kernel
theorem dX12_manyOf_32 : decode cX12_manyOf 32 = .ok (.goto (-28), 3) := by decide +kernel
theorem dX12_manyOf_35 : decode cX12_manyOf 35 = .ok (.iload_n 2, 1) := by decide +kernel
theorem dX12_manyOf_36 : decode cX12_manyOf 36 = .ok (.ireturn, 1) := by decide +kernel
set_option maxRecDepth 20000 in
theorem ggX12_many_X12_in : GoodIn wsX12_many wsX12_in := goodIn_r _ [5] (by decide +kernel) (by decide +kernel)
set_option maxRecDepth 20000 in
theorem gX12_many_X12_in : GoodIn wsX12_many (va_wsS RX12 81 yX12_in wsX12_in) := goodIn_app (goodIn_of _ (by decide +kernel)) ggX12_many_X12_in
set_option maxRecDepth 20000 in
theorem ggX12_many_X12_findNoticed : GoodIn wsX12_many wsX12_findNoticed := goodIn_r _ [9, 10, 11, 12, 13, 14, 15, 16, 17, 18, 4, 19, 20, 21, 22, 23, 24, 25, 26, 27, 28, 29, 30, 31, 32, 33, 34, 35, 36, 2, 3, 5, 37, 38, 39, 40, 41, 42, 43, 44, 45, 46, 47, 48, 49, 50, 51, 52, 53, 54, 55, 56, 57, 58, 59, 76, 77, 78, 79, 80, 81, 82, 83, 84, 85, 86, 87, 88, 89, 90, 91, 92, 93, 94, 95, 96, 97, 98, 99, 100] (by decide +kernel) (by decide +kernel)
set_option maxRecDepth 20000 in
theorem gX12_many_X12_findNoticed : GoodIn wsX12_many (wsV RX12 161 RX12 yX12_findNoticed wsX12_findNoticed) := goodIn_app (goodIn_of _ (by decide +kernel)) ggX12_many_X12_findNoticed
set_option maxRecDepth 20000 in
theorem ggX12_many_X12_manyOf : GoodIn wsX12_many wsX12_manyOf := goodIn_r _ [63, 10, 64, 65, 66, 4, 67, 23, 11, 68, 69, 70, 71, 72, 73, 74, 75, 76, 77, 78, 79, 80, 81, 82, 83, 84, 85, 86, 87, 88, 89, 90, 91, 92, 93, 94, 95, 96, 97, 98, 99, 100] (by decide +kernel) (by decide +kernel)
set_option maxRecDepth 20000 in
theorem gX12_many_X12_manyOf : GoodIn wsX12_many (wsV RX12 183 RX12 yX12_manyOf wsX12_manyOf) := goodIn_app (goodIn_of _ (by decide +kernel)) ggX12_many_X12_manyOf
theorem dX12_many_0 : decode cX12_many 0 = .ok (.iload_n 1, 1) := by decide +kernel
theorem dX12_many_1 : decode cX12_many 1 = .ok (.i2l, 1) := by decide +kernel
theorem dX12_many_2 : decode cX12_many 2 = .ok (.lconst 0, 1) := by decide +kernel
theorem dX12_many_3 : decode cX12_many 3 = .ok (.ldc2_w 181, 3) := by decide +kernel
theorem dX12_many_6 : decode cX12_many 6 = .ok (.invokestatic 81, 3) := by decide +kernel
theorem dX12_many_9 : decode cX12_many 9 = .ok (.ifCond .ne 6, 3) := by decide +kernel
theorem dX12_many_12 : decode cX12_many 12 = .ok (.bipush (-2), 2) := by decide +kernel
theorem dX12_many_14 : decode cX12_many 14 = .ok (.ireturn, 1) := by decide +kernel
theorem dX12_many_15 : decode cX12_many 15 = .ok (.aload_n 0, 1) := by decide +kernel
theorem dX12_many_16 : decode cX12_many 16 = .ok (.invokevirtual 161, 3) := by decide +kernel
theorem dX12_many_19 : decode cX12_many 19 = .ok (.aload_n 0, 1) := by decide +kernel
theorem dX12_many_20 : decode cX12_many 20 = .ok (.iload_n 1, 1) := by decide +kernel
theorem dX12_many_21 : decode cX12_many 21 = .ok (.invokevirtual 183, 3) := by decide +kernel
theorem dX12_many_24 : decode cX12_many 24 = .ok (.ireturn, 1) := by decide +kernel
theorem dX12_lowest_0 : decode cX12_lowest 0 = .ok (.iload_n 1, 1) := by decide +kernel
theorem dX12_lowest_1 : decode cX12_lowest 1 = .ok (.ifCond .ne 5, 3) := by decide +kernel
theorem dX12_lowest_4 : decode cX12_lowest 4 = .ok (.iload_n 2, 1) := by decide +kernel
theorem dX12_lowest_5 : decode cX12_lowest 5 = .ok (.ireturn, 1) := by decide +kernel
theorem dX12_lowest_6 : decode cX12_lowest 6 = .ok (.iload_n 0, 1) := by decide +kernel
theorem dX12_lowest_7 : decode cX12_lowest 7 = .ok (.istore_n 3, 1) := by decide +kernel
theorem dX12_lowest_8 : decode cX12_lowest 8 = .ok (.iload_n 1, 1) := by decide +kernel
theorem dX12_lowest_9 : decode cX12_lowest 9 = .ok (.istore 4, 2) := by decide +kernel
theorem dX12_lowest_11 : decode cX12_lowest 11 = .ok (.iload 4, 2) := by decide +kernel
theorem dX12_lowest_13 : decode cX12_lowest 13 = .ok (.ifCond .eq 19, 3) := by decide +kernel
theorem dX12_lowest_16 : decode cX12_lowest 16 = .ok (.iload_n 3, 1) := by decide +kernel
theorem dX12_lowest_17 : decode cX12_lowest 17 = .ok (.iload 4, 2) := by decide +kernel
theorem dX12_lowest_19 : decode cX12_lowest 19 = .ok (.irem, 1) := by decide +kernel
theorem dX12_lowest_20 : decode cX12_lowest 20 = .ok (.istore 5, 2) := by decide +kernel
theorem dX12_lowest_22 : decode cX12_lowest 22 = .ok (.iload 4, 2) := by decide +kernel
theorem dX12_lowest_24 : decode cX12_lowest 24 = .ok (.istore_n 3, 1) := by decide +kernel
theorem dX12_lowest_25 : decode cX12_lowest 25 = .ok (.iload 5, 2) := by decide +kernel
theorem dX12_lowest_27 : decode cX12_lowest 27 = .ok (.istore 4, 2) := by decide +kernel
theorem dX12_lowest_29 : decode cX12_lowest 29 = .ok (.goto (-18), 3) := by decide +kernel
theorem dX12_lowest_32 : decode cX12_lowest 32 = .ok (.iload_n 2, 1) := by decide +kernel
theorem dX12_lowest_33 : decode cX12_lowest 33 = .ok (.ifCond .ne 9, 3) := by decide +kernel
theorem dX12_lowest_36 : decode cX12_lowest 36 = .ok (.iload_n 0, 1) := by decide +kernel
theorem dX12_lowest_37 : decode cX12_lowest 37 = .ok (.iload_n 3, 1) := by decide +kernel
theorem dX12_lowest_38 : decode cX12_lowest 38 = .ok (.idiv, 1) := by decide +kernel
theorem dX12_lowest_39 : decode cX12_lowest 39 = .ok (.goto 6, 3) := by decide +kernel
theorem dX12_lowest_42 : decode cX12_lowest 42 = .ok (.iload_n 1, 1) := by decide +kernel
theorem dX12_lowest_43 : decode cX12_lowest 43 = .ok (.iload_n 3, 1) := by decide +kernel
theorem dX12_lowest_44 : decode cX12_lowest 44 = .ok (.idiv, 1) := by decide +kernel
theorem dX12_lowest_45 : decode cX12_lowest 45 = .ok (.ireturn, 1) := by decide +kernel
set_option maxRecDepth 20000 in
theorem ggX12_isPart_X12_in : GoodIn wsX12_isPart wsX12_in := goodIn_r _ [4] (by decide +kernel) (by decide +kernel)
set_option maxRecDepth 20000 in
theorem gX12_isPart_X12_in : GoodIn wsX12_isPart (va_wsS RX12 81 yX12_in wsX12_in) := goodIn_app (goodIn_of _ (by decide +kernel)) ggX12_isPart_X12_in
theorem dX12_isPart_0 : decode cX12_isPart 0 = .ok (.iload_n 0, 1) := by decide +kernel
theorem dX12_isPart_1 : decode cX12_isPart 1 = .ok (.i2l, 1) := by decide +kernel
theorem dX12_isPart_2 : decode cX12_isPart 2 = .ok (.lconst 0, 1) := by decide +kernel
theorem dX12_isPart_3 : decode cX12_isPart 3 = .ok (.lconst 1, 1) := by decide +kernel
theorem dX12_isPart_4 : decode cX12_isPart 4 = .ok (.invokestatic 81, 3) := by decide +kernel
theorem dX12_isPart_7 : decode cX12_isPart 7 = .ok (.ireturn, 1) := by decide +kernel
set_option maxRecDepth 20000 in
theorem ggX12_score_X12_isPart : GoodIn wsX12_score wsX12_isPart := goodIn_r _ [5, 6, 7, 4, 8] (by decide +kernel) (by decide +kernel)
set_option maxRecDepth 20000 in
theorem gX12_score_X12_isPart : GoodIn wsX12_score (va_wsS RX12 186 yX12_isPart wsX12_isPart) := goodIn_app (goodIn_of _ (by decide +kernel)) ggX12_score_X12_isPart
set_option maxRecDepth 20000 in
theorem ggX12_score_X12_findNoticed : GoodIn wsX12_score wsX12_findNoticed := goodIn_r _ [12, 1, 13, 14, 15, 16, 17, 18, 19, 20, 4, 21, 22, 23, 24, 25, 26, 27, 28, 29, 30, 31, 32, 33, 34, 35, 36, 37, 38, 6, 7, 8, 39, 40, 41, 42, 43, 44, 45, 46, 47, 48, 49, 50, 51, 52, 53, 54, 55, 56, 57, 58, 59, 60, 61, 81, 82, 83, 84, 85, 86, 87, 88, 89, 90, 91, 92, 93, 94, 95, 96, 97, 98, 99, 100, 101, 102, 103, 104, 105] (by decide +kernel) (by decide +kernel)
set_option maxRecDepth 20000 in
theorem gX12_score_X12_findNoticed : GoodIn wsX12_score (wsV RX12 161 RX12 yX12_findNoticed wsX12_findNoticed) := goodIn_app (goodIn_of _ (by decide +kernel)) ggX12_score_X12_findNoticed
set_option maxRecDepth 20000 in
theorem ggX12_score_X12_manyOf : GoodIn wsX12_score wsX12_manyOf := goodIn_r _ [65, 1, 66, 67, 68, 4, 69, 25, 13, 70, 71, 72, 73, 74, 75, 76, 77, 81, 82, 83, 84, 85, 86, 87, 88, 89, 90, 91, 92, 93, 94, 95, 96, 97, 98, 99, 100, 101, 102, 103, 104, 105] (by decide +kernel) (by decide +kernel)
set_option maxRecDepth 20000 in
theorem gX12_score_X12_manyOf : GoodIn wsX12_score (wsV RX12 183 RX12 yX12_manyOf wsX12_manyOf) := goodIn_app (goodIn_of _ (by decide +kernel)) ggX12_score_X12_manyOf
set_option maxRecDepth 20000 in
theorem ggX12_score_X12_lowest : GoodIn wsX12_score wsX12_lowest := goodIn_r _ [80] (by decide +kernel) (by decide +kernel)
set_option maxRecDepth 20000 in
theorem gX12_score_X12_lowest : GoodIn wsX12_score (va_wsS RX12 189 yX12_lowest wsX12_lowest) := goodIn_app (goodIn_of _ (by decide +kernel)) ggX12_score_X12_lowest
theorem dX12_score_0 : decode cX12_score 0 = .ok (.iload_n 1, 1) := by decide +kernel
theorem dX12_score_1 : decode cX12_score 1 = .ok (.invokestatic 186, 3) := by decide +kernel
theorem dX12_score_4 : decode cX12_score 4 = .ok (.ifCond .ne 6, 3) := by decide +kernel
theorem dX12_score_7 : decode cX12_score 7 = .ok (.bipush (-2), 2) := by decide +kernel
theorem dX12_score_9 : decode cX12_score 9 = .ok (.ireturn, 1) := by decide +kernel
theorem dX12_score_10 : decode cX12_score 10 = .ok (.aload_n 0, 1) := by decide +kernel
theorem dX12_score_11 : decode cX12_score 11 = .ok (.invokevirtual 161, 3) := by decide +kernel
theorem dX12_score_14 : decode cX12_score 14 = .ok (.aload_n 0, 1) := by decide +kernel
theorem dX12_score_15 : decode cX12_score 15 = .ok (.iconst 1, 1) := by decide +kernel
theorem dX12_score_16 : decode cX12_score 16 = .ok (.invokevirtual 183, 3) := by decide +kernel
theorem dX12_score_19 : decode cX12_score 19 = .ok (.aload_n 0, 1) := by decide +kernel
theorem dX12_score_20 : decode cX12_score 20 = .ok (.getfield 141, 3) := by decide +kernel
theorem dX12_score_23 : decode cX12_score 23 = .ok (.aload_n 0, 1) := by decide +kernel
theorem dX12_score_24 : decode cX12_score 24 = .ok (.iconst 0, 1) := by decide +kernel
theorem dX12_score_25 : decode cX12_score 25 = .ok (.invokevirtual 183, 3) := by decide +kernel
theorem dX12_score_28 : decode cX12_score 28 = .ok (.isub, 1) := by decide +kernel
theorem dX12_score_29 : decode cX12_score 29 = .ok (.iload_n 1, 1) := by decide +kernel
theorem dX12_score_30 : decode cX12_score 30 = .ok (.invokestatic 189, 3) := by decide +kernel
theorem dX12_score_33 : decode cX12_score 33 = .ok (.ireturn, 1) := by decide +kernel
set_option maxRecDepth 20000 in
theorem ggX12_findMissed_X12_findNoticed : GoodIn wsX12_findMissed wsX12_findNoticed := goodIn_r _ [9, 3, 4, 1, 10, 11, 12, 13, 14, 15, 8, 16, 17, 18, 19, 20, 21, 22, 23, 24, 25, 26, 27, 28, 29, 30, 31, 32, 33, 34, 35, 36, 37, 38, 39, 40, 41, 42, 43, 44, 45, 46, 47, 48, 49, 50, 51, 52, 53, 54, 55, 56, 57, 58, 59, 60, 61, 62, 63, 64, 65, 66, 67, 68, 69, 70, 71, 72, 73, 74, 75, 76, 77, 78, 79, 80, 81, 82, 83, 84] (by decide +kernel) (by decide +kernel)
set_option maxRecDepth 20000 in
theorem gX12_findMissed_X12_findNoticed : GoodIn wsX12_findMissed (wsV RX12 161 RX12 yX12_findNoticed wsX12_findNoticed) := goodIn_app (goodIn_of _ (by decide +kernel)) ggX12_findMissed_X12_findNoticed
theorem dX12_findMissed_0 : decode cX12_findMissed 0 = .ok (.aload_n 0, 1) := by decide +kernel
theorem dX12_findMissed_1 : decode cX12_findMissed 1 = .ok (.invokevirtual 161, 3) := by decide +kernel
theorem dX12_findMissed_4 : decode cX12_findMissed 4 = .ok (.iconst 0, 1) := by decide +kernel
theorem dX12_findMissed_5 : decode cX12_findMissed 5 = .ok (.istore_n 1, 1) := by decide +kernel
theorem dX12_findMissed_6 : decode cX12_findMissed 6 = .ok (.iload_n 1, 1) := by decide +kernel
theorem dX12_findMissed_7 : decode cX12_findMissed 7 = .ok (.iconst 1, 1) := by decide +kernel
theorem dX12_findMissed_8 : decode cX12_findMissed 8 = .ok (.aload_n 0, 1) := by decide +kernel
theorem dX12_findMissed_9 : decode cX12_findMissed 9 = .ok (.getfield 155, 3) := by decide +kernel
theorem dX12_findMissed_12 : decode cX12_findMissed 12 = .ok (.ishl, 1) := by decide +kernel
theorem dX12_findMissed_13 : decode cX12_findMissed 13 = .ok (.if_icmp .ge 66, 3) := by decide +kernel
theorem dX12_findMissed_16 : decode cX12_findMissed 16 = .ok (.aload_n 0, 1) := by decide +kernel
theorem dX12_findMissed_17 : decode cX12_findMissed 17 = .ok (.getfield 62, 3) := by decide +kernel
theorem dX12_findMissed_20 : decode cX12_findMissed 20 = .ok (.iload_n 1, 1) := by decide +kernel
theorem dX12_findMissed_21 : decode cX12_findMissed 21 = .ok (.iconst 0, 1) := by decide +kernel
theorem dX12_findMissed_22 : decode cX12_findMissed 22 = .ok (.iastore, 1) := by decide +kernel
theorem dX12_findMissed_23 : decode cX12_findMissed 23 = .ok (.iconst 0, 1) := by decide +kernel
theorem dX12_findMissed_24 : decode cX12_findMissed 24 = .ok (.istore_n 2, 1) := by decide +kernel
theorem dX12_findMissed_25 : decode cX12_findMissed 25 = .ok (.iload_n 2, 1) := by decide +kernel
theorem dX12_findMissed_26 : decode cX12_findMissed 26 = .ok (.aload_n 0, 1) := by decide +kernel
theorem dX12_findMissed_27 : decode cX12_findMissed 27 = .ok (.getfield 141, 3) := by decide +kernel
theorem dX12_findMissed_30 : decode cX12_findMissed 30 = .ok (.if_icmp .ge 43, 3) := by decide +kernel
theorem dX12_findMissed_33 : decode cX12_findMissed 33 = .ok (.aload_n 0, 1) := by decide +kernel
theorem dX12_findMissed_34 : decode cX12_findMissed 34 = .ok (.getfield 62, 3) := by decide +kernel
theorem dX12_findMissed_37 : decode cX12_findMissed 37 = .ok (.iload_n 1, 1) := by decide +kernel
theorem dX12_findMissed_38 : decode cX12_findMissed 38 = .ok (.dup2, 1) := by decide +kernel
theorem dX12_findMissed_39 : decode cX12_findMissed 39 = .ok (.iaload, 1) := by decide +kernel
theorem dX12_findMissed_40 : decode cX12_findMissed 40 = .ok (.aload_n 0, 1) := by decide +kernel
theorem dX12_findMissed_41 : decode cX12_findMissed 41 = .ok (.getfield 59, 3) := by decide +kernel
theorem dX12_findMissed_44 : decode cX12_findMissed 44 = .ok (.iload_n 2, 1) := by decide +kernel
theorem dX12_findMissed_45 : decode cX12_findMissed 45 = .ok (.iaload, 1) := by decide +kernel
theorem dX12_findMissed_46 : decode cX12_findMissed 46 = .ok (.ifCond .eq 18, 3) := by decide +kernel
theorem dX12_findMissed_49 : decode cX12_findMissed 49 = .ok (.aload_n 0, 1) := by decide +kernel
theorem dX12_findMissed_50 : decode cX12_findMissed 50 = .ok (.getfield 59, 3) := by decide +kernel
theorem dX12_findMissed_53 : decode cX12_findMissed 53 = .ok (.iload_n 2, 1) := by decide +kernel
theorem dX12_findMissed_54 : decode cX12_findMissed 54 = .ok (.iaload, 1) := by decide +kernel
theorem dX12_findMissed_55 : decode cX12_findMissed 55 = .ok (.iload_n 1, 1) := by decide +kernel
theorem dX12_findMissed_56 : decode cX12_findMissed 56 = .ok (.iand, 1) := by decide +kernel
theorem dX12_findMissed_57 : decode cX12_findMissed 57 = .ok (.ifCond .ne 7, 3) := by decide +kernel
theorem dX12_findMissed_60 : decode cX12_findMissed 60 = .ok (.iconst 1, 1) := by decide +kernel
theorem dX12_findMissed_61 : decode cX12_findMissed 61 = .ok (.goto 4, 3) := by decide +kernel
theorem dX12_findMissed_64 : decode cX12_findMissed 64 = .ok (.iconst 0, 1) := by decide +kernel
theorem dX12_findMissed_65 : decode cX12_findMissed 65 = .ok (.iadd, 1) := by decide +kernel
theorem dX12_findMissed_66 : decode cX12_findMissed 66 = .ok (.iastore, 1) := by decide +kernel
theorem dX12_findMissed_67 : decode cX12_findMissed 67 = .ok (.iinc 2 1, 3) := by decide +kernel
theorem dX12_findMissed_70 : decode cX12_findMissed 70 = .ok (.goto (-45), 3) := by decide +kernel
theorem dX12_findMissed_73 : decode cX12_findMissed 73 = .ok (.iinc 1 1, 3) := by decide +kernel
theorem dX12_findMissed_76 : decode cX12_findMissed 76 = .ok (.goto (-70), 3) := by decide +kernel
theorem dX12_findMissed_79 : decode cX12_findMissed 79 = .ok (.return_, 1) := by decide +kernel
set_option maxRecDepth 20000 in
theorem ggX12_fewest_X12_isPart : GoodIn wsX12_fewest wsX12_isPart := goodIn_r _ [6, 7, 8, 5, 9] (by decide +kernel) (by decide +kernel)
set_option maxRecDepth 20000 in
theorem gX12_fewest_X12_isPart : GoodIn wsX12_fewest (va_wsS RX12 186 yX12_isPart wsX12_isPart) := goodIn_app (goodIn_of _ (by decide +kernel)) ggX12_fewest_X12_isPart
set_option maxRecDepth 20000 in
theorem ggX12_fewest_X12_findMissed : GoodIn wsX12_fewest wsX12_findMissed := goodIn_r _ [13, 1, 2, 14, 15, 16, 17, 18, 5, 19, 20, 21, 22, 23, 24, 25, 26, 27, 28, 29, 30, 31, 32, 33, 34, 35, 36, 37, 38, 39, 40, 41, 42, 43, 7, 8, 9, 44, 45, 46, 47, 48, 49, 50, 51, 52, 53, 54, 55, 56, 57, 58, 59, 60, 61, 62, 63, 64, 65, 66, 70, 71, 72, 73, 74, 75, 76, 77, 78, 79, 80, 81, 82, 83, 84, 85, 86, 87, 88, 89, 90, 91, 92, 93, 94] (by decide +kernel) (by decide +kernel)
set_option maxRecDepth 20000 in
theorem gX12_fewest_X12_findMissed : GoodIn wsX12_fewest (wsV RX12 192 RX12 yX12_findMissed wsX12_findMissed) := goodIn_app (goodIn_of _ (by decide +kernel)) ggX12_fewest_X12_findMissed
set_option maxRecDepth 20000 in
theorem ggX12_fewest_X12_ones : GoodIn wsX12_fewest wsX12_ones := goodIn_r _ [69] (by decide +kernel) (by decide +kernel)
set_option maxRecDepth 20000 in
theorem gX12_fewest_X12_ones : GoodIn wsX12_fewest (va_wsS RX12 195 yX12_ones wsX12_ones) := goodIn_app (goodIn_of _ (by decide +kernel)) ggX12_fewest_X12_ones
theorem dX12_fewest_0 : decode cX12_fewest 0 = .ok (.iload_n 1, 1) := by decide +kernel
theorem dX12_fewest_1 : decode cX12_fewest 1 = .ok (.invokestatic 186, 3) := by decide +kernel
theorem dX12_fewest_4 : decode cX12_fewest 4 = .ok (.ifCond .ne 6, 3) := by decide +kernel
theorem dX12_fewest_7 : decode cX12_fewest 7 = .ok (.bipush (-2), 2) := by decide +kernel
theorem dX12_fewest_9 : decode cX12_fewest 9 = .ok (.ireturn, 1) := by decide +kernel
theorem dX12_fewest_10 : decode cX12_fewest 10 = .ok (.aload_n 0, 1) := by decide +kernel
theorem dX12_fewest_11 : decode cX12_fewest 11 = .ok (.invokevirtual 192, 3) := by decide +kernel
theorem dX12_fewest_14 : decode cX12_fewest 14 = .ok (.bipush (-6), 2) := by decide +kernel
theorem dX12_fewest_16 : decode cX12_fewest 16 = .ok (.istore_n 2, 1) := by decide +kernel
theorem dX12_fewest_17 : decode cX12_fewest 17 = .ok (.iconst 0, 1) := by decide +kernel
theorem dX12_fewest_18 : decode cX12_fewest 18 = .ok (.istore_n 3, 1) := by decide +kernel
theorem dX12_fewest_19 : decode cX12_fewest 19 = .ok (.iload_n 3, 1) := by decide +kernel
theorem dX12_fewest_20 : decode cX12_fewest 20 = .ok (.iconst 1, 1) := by decide +kernel
theorem dX12_fewest_21 : decode cX12_fewest 21 = .ok (.aload_n 0, 1) := by decide +kernel
theorem dX12_fewest_22 : decode cX12_fewest 22 = .ok (.getfield 155, 3) := by decide +kernel
theorem dX12_fewest_25 : decode cX12_fewest 25 = .ok (.ishl, 1) := by decide +kernel
theorem dX12_fewest_26 : decode cX12_fewest 26 = .ok (.if_icmp .ge 39, 3) := by decide +kernel
theorem dX12_fewest_29 : decode cX12_fewest 29 = .ok (.aload_n 0, 1) := by decide +kernel
theorem dX12_fewest_30 : decode cX12_fewest 30 = .ok (.getfield 62, 3) := by decide +kernel
theorem dX12_fewest_33 : decode cX12_fewest 33 = .ok (.iload_n 3, 1) := by decide +kernel
theorem dX12_fewest_34 : decode cX12_fewest 34 = .ok (.iaload, 1) := by decide +kernel
theorem dX12_fewest_35 : decode cX12_fewest 35 = .ok (.ifCond .ne 22, 3) := by decide +kernel
theorem dX12_fewest_38 : decode cX12_fewest 38 = .ok (.iload_n 2, 1) := by decide +kernel
theorem dX12_fewest_39 : decode cX12_fewest 39 = .ok (.ifCond .lt 14, 3) := by decide +kernel
theorem dX12_fewest_42 : decode cX12_fewest 42 = .ok (.iload_n 3, 1) := by decide +kernel
theorem dX12_fewest_43 : decode cX12_fewest 43 = .ok (.invokestatic 195, 3) := by decide +kernel
theorem dX12_fewest_46 : decode cX12_fewest 46 = .ok (.iload_n 2, 1) := by decide +kernel
theorem dX12_fewest_47 : decode cX12_fewest 47 = .ok (.invokestatic 195, 3) := by decide +kernel
theorem dX12_fewest_50 : decode cX12_fewest 50 = .ok (.if_icmp .ge 7, 3) := by decide +kernel
theorem dX12_fewest_53 : decode cX12_fewest 53 = .ok (.iload_n 3, 1) := by decide +kernel
theorem dX12_fewest_54 : decode cX12_fewest 54 = .ok (.goto 4, 3) := by decide +kernel
theorem dX12_fewest_57 : decode cX12_fewest 57 = .ok (.iload_n 2, 1) := by decide +kernel
theorem dX12_fewest_58 : decode cX12_fewest 58 = .ok (.istore_n 2, 1) := by decide +kernel
theorem dX12_fewest_59 : decode cX12_fewest 59 = .ok (.iinc 3 1, 3) := by decide +kernel
theorem dX12_fewest_62 : decode cX12_fewest 62 = .ok (.goto (-43), 3) := by decide +kernel
theorem dX12_fewest_65 : decode cX12_fewest 65 = .ok (.iload_n 1, 1) := by decide +kernel
theorem dX12_fewest_66 : decode cX12_fewest 66 = .ok (.ifCond .ne 7, 3) := by decide +kernel
theorem dX12_fewest_69 : decode cX12_fewest 69 = .ok (.iload_n 2, 1) := by decide +kernel
theorem dX12_fewest_70 : decode cX12_fewest 70 = .ok (.goto 7, 3) := by decide +kernel
theorem dX12_fewest_73 : decode cX12_fewest 73 = .ok (.iload_n 2, 1) := by decide +kernel
theorem dX12_fewest_74 : decode cX12_fewest 74 = .ok (.invokestatic 195, 3) := by decide +kernel
theorem dX12_fewest_77 : decode cX12_fewest 77 = .ok (.ireturn, 1) := by decide +kernel
set_option maxRecDepth 20000 in
theorem ggX12_soon_X12_findMissed : GoodIn wsX12_soon wsX12_findMissed := goodIn_r _ [8, 1, 3, 9, 10, 11, 12, 13, 7, 14, 15, 16, 17, 18, 19, 20, 21, 22, 23, 24, 25, 26, 27, 28, 29, 30, 31, 32, 33, 34, 35, 36, 37, 38, 39, 40, 41, 42, 43, 44, 45, 46, 47, 48, 49, 50, 51, 52, 53, 54, 55, 56, 57, 58, 59, 60, 61, 62, 63, 64, 69, 70, 71, 72, 73, 74, 75, 76, 77, 78, 79, 80, 81, 82, 83, 84, 85, 86, 87, 88, 89, 90, 91, 92, 93] (by decide +kernel) (by decide +kernel)
set_option maxRecDepth 20000 in
theorem gX12_soon_X12_findMissed : GoodIn wsX12_soon (wsV RX12 192 RX12 yX12_findMissed wsX12_findMissed) := goodIn_app (goodIn_of _ (by decide +kernel)) ggX12_soon_X12_findMissed
set_option maxRecDepth 20000 in
theorem ggX12_soon_X12_isTest : GoodIn wsX12_soon wsX12_isTest := goodIn_r _ [68, 1, 39, 40, 7, 41, 69, 70, 71, 72, 73, 74, 75, 76, 77, 78, 79, 80, 81, 82, 83, 84, 85, 86, 87, 88, 89, 90, 91, 92, 93] (by decide +kernel) (by decide +kernel)
set_option maxRecDepth 20000 in
theorem gX12_soon_X12_isTest : GoodIn wsX12_soon (wsV RX12 172 RX12 yX12_isTest wsX12_isTest) := goodIn_app (goodIn_of _ (by decide +kernel)) ggX12_soon_X12_isTest
theorem dX12_soon_0 : decode cX12_soon 0 = .ok (.aload_n 0, 1) := by decide +kernel
theorem dX12_soon_1 : decode cX12_soon 1 = .ok (.invokevirtual 192, 3) := by decide +kernel
theorem dX12_soon_4 : decode cX12_soon 4 = .ok (.iconst 1, 1) := by decide +kernel
theorem dX12_soon_5 : decode cX12_soon 5 = .ok (.aload_n 0, 1) := by decide +kernel
theorem dX12_soon_6 : decode cX12_soon 6 = .ok (.getfield 155, 3) := by decide +kernel
theorem dX12_soon_9 : decode cX12_soon 9 = .ok (.ishl, 1) := by decide +kernel
theorem dX12_soon_10 : decode cX12_soon 10 = .ok (.iconst 1, 1) := by decide +kernel
theorem dX12_soon_11 : decode cX12_soon 11 = .ok (.isub, 1) := by decide +kernel
theorem dX12_soon_12 : decode cX12_soon 12 = .ok (.istore_n 2, 1) := by decide +kernel
theorem dX12_soon_13 : decode cX12_soon 13 = .ok (.aload_n 0, 1) := by decide +kernel
theorem dX12_soon_14 : decode cX12_soon 14 = .ok (.getfield 65, 3) := by decide +kernel
theorem dX12_soon_17 : decode cX12_soon 17 = .ok (.iload_n 2, 1) := by decide +kernel
theorem dX12_soon_18 : decode cX12_soon 18 = .ok (.iconst 0, 1) := by decide +kernel
theorem dX12_soon_19 : decode cX12_soon 19 = .ok (.iastore, 1) := by decide +kernel
theorem dX12_soon_20 : decode cX12_soon 20 = .ok (.iload_n 2, 1) := by decide +kernel
theorem dX12_soon_21 : decode cX12_soon 21 = .ok (.iconst 1, 1) := by decide +kernel
theorem dX12_soon_22 : decode cX12_soon 22 = .ok (.isub, 1) := by decide +kernel
theorem dX12_soon_23 : decode cX12_soon 23 = .ok (.istore_n 3, 1) := by decide +kernel
theorem dX12_soon_24 : decode cX12_soon 24 = .ok (.iload_n 3, 1) := by decide +kernel
theorem dX12_soon_25 : decode cX12_soon 25 = .ok (.ifCond .lt 123, 3) := by decide +kernel
theorem dX12_soon_28 : decode cX12_soon 28 = .ok (.aload_n 0, 1) := by decide +kernel
theorem dX12_soon_29 : decode cX12_soon 29 = .ok (.getfield 65, 3) := by decide +kernel
theorem dX12_soon_32 : decode cX12_soon 32 = .ok (.iload_n 3, 1) := by decide +kernel
theorem dX12_soon_33 : decode cX12_soon 33 = .ok (.iconst (-1), 1) := by decide +kernel
theorem dX12_soon_34 : decode cX12_soon 34 = .ok (.iastore, 1) := by decide +kernel
theorem dX12_soon_35 : decode cX12_soon 35 = .ok (.iconst 0, 1) := by decide +kernel
theorem dX12_soon_36 : decode cX12_soon 36 = .ok (.istore 4, 2) := by decide +kernel
theorem dX12_soon_38 : decode cX12_soon 38 = .ok (.iload 4, 2) := by decide +kernel
theorem dX12_soon_40 : decode cX12_soon 40 = .ok (.aload_n 0, 1) := by decide +kernel
theorem dX12_soon_41 : decode cX12_soon 41 = .ok (.getfield 155, 3) := by decide +kernel
theorem dX12_soon_44 : decode cX12_soon 44 = .ok (.if_icmp .ge 98, 3) := by decide +kernel
theorem dX12_soon_47 : decode cX12_soon 47 = .ok (.iload_n 3, 1) := by decide +kernel
theorem dX12_soon_48 : decode cX12_soon 48 = .ok (.iconst 1, 1) := by decide +kernel
theorem dX12_soon_49 : decode cX12_soon 49 = .ok (.iload 4, 2) := by decide +kernel
theorem dX12_soon_51 : decode cX12_soon 51 = .ok (.ishl, 1) := by decide +kernel
theorem dX12_soon_52 : decode cX12_soon 52 = .ok (.ior, 1) := by decide +kernel
theorem dX12_soon_53 : decode cX12_soon 53 = .ok (.istore 5, 2) := by decide +kernel
theorem dX12_soon_55 : decode cX12_soon 55 = .ok (.iload 5, 2) := by decide +kernel
theorem dX12_soon_57 : decode cX12_soon 57 = .ok (.iload_n 3, 1) := by decide +kernel
theorem dX12_soon_58 : decode cX12_soon 58 = .ok (.if_icmp .eq 40, 3) := by decide +kernel
theorem dX12_soon_61 : decode cX12_soon 61 = .ok (.aload_n 0, 1) := by decide +kernel
theorem dX12_soon_62 : decode cX12_soon 62 = .ok (.getfield 65, 3) := by decide +kernel
theorem dX12_soon_65 : decode cX12_soon 65 = .ok (.iload_n 3, 1) := by decide +kernel
theorem dX12_soon_66 : decode cX12_soon 66 = .ok (.iaload, 1) := by decide +kernel
theorem dX12_soon_67 : decode cX12_soon 67 = .ok (.ifCond .lt 27, 3) := by decide +kernel
theorem dX12_soon_70 : decode cX12_soon 70 = .ok (.aload_n 0, 1) := by decide +kernel
theorem dX12_soon_71 : decode cX12_soon 71 = .ok (.getfield 62, 3) := by decide +kernel
theorem dX12_soon_74 : decode cX12_soon 74 = .ok (.iload 5, 2) := by decide +kernel
theorem dX12_soon_76 : decode cX12_soon 76 = .ok (.iaload, 1) := by decide +kernel
theorem dX12_soon_77 : decode cX12_soon 77 = .ok (.aload_n 0, 1) := by decide +kernel
theorem dX12_soon_78 : decode cX12_soon 78 = .ok (.getfield 65, 3) := by decide +kernel
theorem dX12_soon_81 : decode cX12_soon 81 = .ok (.iload 5, 2) := by decide +kernel
theorem dX12_soon_83 : decode cX12_soon 83 = .ok (.iaload, 1) := by decide +kernel
theorem dX12_soon_84 : decode cX12_soon 84 = .ok (.iadd, 1) := by decide +kernel
theorem dX12_soon_85 : decode cX12_soon 85 = .ok (.aload_n 0, 1) := by decide +kernel
theorem dX12_soon_86 : decode cX12_soon 86 = .ok (.getfield 65, 3) := by decide +kernel
theorem dX12_soon_89 : decode cX12_soon 89 = .ok (.iload_n 3, 1) := by decide +kernel
theorem dX12_soon_90 : decode cX12_soon 90 = .ok (.iaload, 1) := by decide +kernel
theorem dX12_soon_91 : decode cX12_soon 91 = .ok (.if_icmp .ge 7, 3) := by decide +kernel
theorem dX12_soon_94 : decode cX12_soon 94 = .ok (.iconst 1, 1) := by decide +kernel
theorem dX12_soon_95 : decode cX12_soon 95 = .ok (.goto 4, 3) := by decide +kernel
theorem dX12_soon_98 : decode cX12_soon 98 = .ok (.iconst 0, 1) := by decide +kernel
theorem dX12_soon_99 : decode cX12_soon 99 = .ok (.istore 6, 2) := by decide +kernel
theorem dX12_soon_101 : decode cX12_soon 101 = .ok (.aload_n 0, 1) := by decide +kernel
theorem dX12_soon_102 : decode cX12_soon 102 = .ok (.getfield 65, 3) := by decide +kernel
theorem dX12_soon_105 : decode cX12_soon 105 = .ok (.iload_n 3, 1) := by decide +kernel
theorem dX12_soon_106 : decode cX12_soon 106 = .ok (.iload 6, 2) := by decide +kernel
theorem dX12_soon_108 : decode cX12_soon 108 = .ok (.ifCond .eq 21, 3) := by decide +kernel
theorem dX12_soon_111 : decode cX12_soon 111 = .ok (.aload_n 0, 1) := by decide +kernel
theorem dX12_soon_112 : decode cX12_soon 112 = .ok (.getfield 62, 3) := by decide +kernel
theorem dX12_soon_115 : decode cX12_soon 115 = .ok (.iload 5, 2) := by decide +kernel
theorem dX12_soon_117 : decode cX12_soon 117 = .ok (.iaload, 1) := by decide +kernel
theorem dX12_soon_118 : decode cX12_soon 118 = .ok (.aload_n 0, 1) := by decide +kernel
theorem dX12_soon_119 : decode cX12_soon 119 = .ok (.getfield 65, 3) := by decide +kernel
theorem dX12_soon_122 : decode cX12_soon 122 = .ok (.iload 5, 2) := by decide +kernel
theorem dX12_soon_124 : decode cX12_soon 124 = .ok (.iaload, 1) := by decide +kernel
theorem dX12_soon_125 : decode cX12_soon 125 = .ok (.iadd, 1) := by decide +kernel
theorem dX12_soon_126 : decode cX12_soon 126 = .ok (.goto 9, 3) := by decide +kernel
theorem dX12_soon_129 : decode cX12_soon 129 = .ok (.aload_n 0, 1) := by decide +kernel
theorem dX12_soon_130 : decode cX12_soon 130 = .ok (.getfield 65, 3) := by decide +kernel
theorem dX12_soon_133 : decode cX12_soon 133 = .ok (.iload_n 3, 1) := by decide +kernel
theorem dX12_soon_134 : decode cX12_soon 134 = .ok (.iaload, 1) := by decide +kernel
theorem dX12_soon_135 : decode cX12_soon 135 = .ok (.iastore, 1) := by decide +kernel
theorem dX12_soon_136 : decode cX12_soon 136 = .ok (.iinc 4 1, 3) := by decide +kernel
theorem dX12_soon_139 : decode cX12_soon 139 = .ok (.goto (-101), 3) := by decide +kernel
theorem dX12_soon_142 : decode cX12_soon 142 = .ok (.iinc 3 (-1), 3) := by decide +kernel
theorem dX12_soon_145 : decode cX12_soon 145 = .ok (.goto (-121), 3) := by decide +kernel
theorem dX12_soon_148 : decode cX12_soon 148 = .ok (.iload_n 1, 1) := by decide +kernel
theorem dX12_soon_149 : decode cX12_soon 149 = .ok (.iconst (-1), 1) := by decide +kernel
theorem dX12_soon_150 : decode cX12_soon 150 = .ok (.if_icmp .ne 10, 3) := by decide +kernel
theorem dX12_soon_153 : decode cX12_soon 153 = .ok (.aload_n 0, 1) := by decide +kernel
theorem dX12_soon_154 : decode cX12_soon 154 = .ok (.getfield 65, 3) := by decide +kernel
theorem dX12_soon_157 : decode cX12_soon 157 = .ok (.iconst 0, 1) := by decide +kernel
theorem dX12_soon_158 : decode cX12_soon 158 = .ok (.iaload, 1) := by decide +kernel
theorem dX12_soon_159 : decode cX12_soon 159 = .ok (.ireturn, 1) := by decide +kernel
theorem dX12_soon_160 : decode cX12_soon 160 = .ok (.aload_n 0, 1) := by decide +kernel
theorem dX12_soon_161 : decode cX12_soon 161 = .ok (.iload_n 1, 1) := by decide +kernel
theorem dX12_soon_162 : decode cX12_soon 162 = .ok (.invokevirtual 172, 3) := by decide +kernel
theorem dX12_soon_165 : decode cX12_soon 165 = .ok (.ifCond .ne 6, 3) := by decide +kernel
theorem dX12_soon_168 : decode cX12_soon 168 = .ok (.bipush (-6), 2) := by decide +kernel
theorem dX12_soon_170 : decode cX12_soon 170 = .ok (.ireturn, 1) := by decide +kernel
theorem dX12_soon_171 : decode cX12_soon 171 = .ok (.iconst 0, 1) := by decide +kernel
theorem dX12_soon_172 : decode cX12_soon 172 = .ok (.istore_n 3, 1) := by decide +kernel
theorem dX12_soon_173 : decode cX12_soon 173 = .ok (.bipush (-6), 2) := by decide +kernel
theorem dX12_soon_175 : decode cX12_soon 175 = .ok (.istore 4, 2) := by decide +kernel
theorem dX12_soon_177 : decode cX12_soon 177 = .ok (.iconst 0, 1) := by decide +kernel
theorem dX12_soon_178 : decode cX12_soon 178 = .ok (.istore 5, 2) := by decide +kernel
theorem dX12_soon_180 : decode cX12_soon 180 = .ok (.iload 5, 2) := by decide +kernel
theorem dX12_soon_182 : decode cX12_soon 182 = .ok (.iload_n 1, 1) := by decide +kernel
theorem dX12_soon_183 : decode cX12_soon 183 = .ok (.if_icmp .gt 71, 3) := by decide +kernel
theorem dX12_soon_186 : decode cX12_soon 186 = .ok (.iconst 0, 1) := by decide +kernel
theorem dX12_soon_187 : decode cX12_soon 187 = .ok (.istore 6, 2) := by decide +kernel
theorem dX12_soon_189 : decode cX12_soon 189 = .ok (.iload_n 3, 1) := by decide +kernel
theorem dX12_soon_190 : decode cX12_soon 190 = .ok (.iload 6, 2) := by decide +kernel
theorem dX12_soon_192 : decode cX12_soon 192 = .ok (.ishr, 1) := by decide +kernel
theorem dX12_soon_193 : decode cX12_soon 193 = .ok (.iconst 1, 1) := by decide +kernel
theorem dX12_soon_194 : decode cX12_soon 194 = .ok (.iand, 1) := by decide +kernel
theorem dX12_soon_195 : decode cX12_soon 195 = .ok (.iconst 1, 1) := by decide +kernel
theorem dX12_soon_196 : decode cX12_soon 196 = .ok (.if_icmp .eq 35, 3) := by decide +kernel
theorem dX12_soon_199 : decode cX12_soon 199 = .ok (.aload_n 0, 1) := by decide +kernel
theorem dX12_soon_200 : decode cX12_soon 200 = .ok (.getfield 62, 3) := by decide +kernel
theorem dX12_soon_203 : decode cX12_soon 203 = .ok (.iload_n 3, 1) := by decide +kernel
theorem dX12_soon_204 : decode cX12_soon 204 = .ok (.iconst 1, 1) := by decide +kernel
theorem dX12_soon_205 : decode cX12_soon 205 = .ok (.iload 6, 2) := by decide +kernel
theorem dX12_soon_207 : decode cX12_soon 207 = .ok (.ishl, 1) := by decide +kernel
theorem dX12_soon_208 : decode cX12_soon 208 = .ok (.ior, 1) := by decide +kernel
theorem dX12_soon_209 : decode cX12_soon 209 = .ok (.iaload, 1) := by decide +kernel
theorem dX12_soon_210 : decode cX12_soon 210 = .ok (.aload_n 0, 1) := by decide +kernel
theorem dX12_soon_211 : decode cX12_soon 211 = .ok (.getfield 65, 3) := by decide +kernel
theorem dX12_soon_214 : decode cX12_soon 214 = .ok (.iload_n 3, 1) := by decide +kernel
theorem dX12_soon_215 : decode cX12_soon 215 = .ok (.iconst 1, 1) := by decide +kernel
theorem dX12_soon_216 : decode cX12_soon 216 = .ok (.iload 6, 2) := by decide +kernel
theorem dX12_soon_218 : decode cX12_soon 218 = .ok (.ishl, 1) := by decide +kernel
theorem dX12_soon_219 : decode cX12_soon 219 = .ok (.ior, 1) := by decide +kernel
theorem dX12_soon_220 : decode cX12_soon 220 = .ok (.iaload, 1) := by decide +kernel
theorem dX12_soon_221 : decode cX12_soon 221 = .ok (.iadd, 1) := by decide +kernel
theorem dX12_soon_222 : decode cX12_soon 222 = .ok (.aload_n 0, 1) := by decide +kernel
theorem dX12_soon_223 : decode cX12_soon 223 = .ok (.getfield 65, 3) := by decide +kernel
theorem dX12_soon_226 : decode cX12_soon 226 = .ok (.iload_n 3, 1) := by decide +kernel
theorem dX12_soon_227 : decode cX12_soon 227 = .ok (.iaload, 1) := by decide +kernel
theorem dX12_soon_228 : decode cX12_soon 228 = .ok (.if_icmp .eq 9, 3) := by decide +kernel
theorem dX12_soon_231 : decode cX12_soon 231 = .ok (.iinc 6 1, 3) := by decide +kernel
theorem dX12_soon_234 : decode cX12_soon 234 = .ok (.goto (-45), 3) := by decide +kernel
theorem dX12_soon_237 : decode cX12_soon 237 = .ok (.iload 6, 2) := by decide +kernel
theorem dX12_soon_239 : decode cX12_soon 239 = .ok (.istore 4, 2) := by decide +kernel
theorem dX12_soon_241 : decode cX12_soon 241 = .ok (.iload_n 3, 1) := by decide +kernel
theorem dX12_soon_242 : decode cX12_soon 242 = .ok (.iconst 1, 1) := by decide +kernel
theorem dX12_soon_243 : decode cX12_soon 243 = .ok (.iload 6, 2) := by decide +kernel
theorem dX12_soon_245 : decode cX12_soon 245 = .ok (.ishl, 1) := by decide +kernel
theorem dX12_soon_246 : decode cX12_soon 246 = .ok (.ior, 1) := by decide +kernel
theorem dX12_soon_247 : decode cX12_soon 247 = .ok (.istore_n 3, 1) := by decide +kernel
theorem dX12_soon_248 : decode cX12_soon 248 = .ok (.iinc 5 1, 3) := by decide +kernel
theorem dX12_soon_251 : decode cX12_soon 251 = .ok (.goto (-71), 3) := by decide +kernel
theorem dX12_soon_254 : decode cX12_soon 254 = .ok (.iload 4, 2) := by decide +kernel
theorem dX12_soon_256 : decode cX12_soon 256 = .ok (.ireturn, 1) := by decide +kernel
set_option maxRecDepth 20000 in
theorem ggX12_wished_X12_isPart : GoodIn wsX12_wished wsX12_isPart := goodIn_r _ [8, 9, 10, 7, 11] (by decide +kernel) (by decide +kernel)
set_option maxRecDepth 20000 in
theorem gX12_wished_X12_isPart : GoodIn wsX12_wished (va_wsS RX12 186 yX12_isPart wsX12_isPart) := goodIn_app (goodIn_of _ (by decide +kernel)) ggX12_wished_X12_isPart
set_option maxRecDepth 20000 in
theorem ggX12_wished_X12_findNoticed : GoodIn wsX12_wished wsX12_findNoticed := goodIn_r _ [15, 1, 2, 16, 3, 17, 4, 18, 19, 20, 7, 21, 22, 23, 24, 25, 26, 27, 28, 29, 30, 31, 32, 33, 34, 35, 36, 37, 38, 9, 10, 11, 39, 40, 41, 42, 43, 44, 45, 46, 47, 48, 49, 50, 51, 52, 53, 54, 55, 56, 57, 58, 59, 60, 61, 62, 63, 64, 65, 66, 67, 68, 69, 70, 71, 72, 73, 74, 75, 76, 77, 78, 79, 80, 81, 82, 83, 84, 85, 86] (by decide +kernel) (by decide +kernel)
set_option maxRecDepth 20000 in
theorem gX12_wished_X12_findNoticed : GoodIn wsX12_wished (wsV RX12 161 RX12 yX12_findNoticed wsX12_findNoticed) := goodIn_app (goodIn_of _ (by decide +kernel)) ggX12_wished_X12_findNoticed
theorem dX12_wished_0 : decode cX12_wished 0 = .ok (.iload_n 1, 1) := by decide +kernel
theorem dX12_wished_1 : decode cX12_wished 1 = .ok (.invokestatic 186, 3) := by decide +kernel
theorem dX12_wished_4 : decode cX12_wished 4 = .ok (.ifCond .ne 6, 3) := by decide +kernel
theorem dX12_wished_7 : decode cX12_wished 7 = .ok (.bipush (-2), 2) := by decide +kernel
theorem dX12_wished_9 : decode cX12_wished 9 = .ok (.ireturn, 1) := by decide +kernel
theorem dX12_wished_10 : decode cX12_wished 10 = .ok (.aload_n 0, 1) := by decide +kernel
theorem dX12_wished_11 : decode cX12_wished 11 = .ok (.invokevirtual 161, 3) := by decide +kernel
theorem dX12_wished_14 : decode cX12_wished 14 = .ok (.bipush (-6), 2) := by decide +kernel
theorem dX12_wished_16 : decode cX12_wished 16 = .ok (.istore_n 2, 1) := by decide +kernel
theorem dX12_wished_17 : decode cX12_wished 17 = .ok (.iconst 0, 1) := by decide +kernel
theorem dX12_wished_18 : decode cX12_wished 18 = .ok (.istore_n 3, 1) := by decide +kernel
theorem dX12_wished_19 : decode cX12_wished 19 = .ok (.iconst 0, 1) := by decide +kernel
theorem dX12_wished_20 : decode cX12_wished 20 = .ok (.istore 4, 2) := by decide +kernel
theorem dX12_wished_22 : decode cX12_wished 22 = .ok (.iload 4, 2) := by decide +kernel
theorem dX12_wished_24 : decode cX12_wished 24 = .ok (.sipush 512, 3) := by decide +kernel
theorem dX12_wished_27 : decode cX12_wished 27 = .ok (.if_icmp .ge 86, 3) := by decide +kernel
theorem dX12_wished_30 : decode cX12_wished 30 = .ok (.iconst 0, 1) := by decide +kernel
theorem dX12_wished_31 : decode cX12_wished 31 = .ok (.istore 5, 2) := by decide +kernel
theorem dX12_wished_33 : decode cX12_wished 33 = .ok (.iconst 0, 1) := by decide +kernel
theorem dX12_wished_34 : decode cX12_wished 34 = .ok (.istore 6, 2) := by decide +kernel
theorem dX12_wished_36 : decode cX12_wished 36 = .ok (.iload 6, 2) := by decide +kernel
theorem dX12_wished_38 : decode cX12_wished 38 = .ok (.aload_n 0, 1) := by decide +kernel
theorem dX12_wished_39 : decode cX12_wished 39 = .ok (.getfield 141, 3) := by decide +kernel
theorem dX12_wished_42 : decode cX12_wished 42 = .ok (.if_icmp .ge 53, 3) := by decide +kernel
theorem dX12_wished_45 : decode cX12_wished 45 = .ok (.iload 5, 2) := by decide +kernel
theorem dX12_wished_47 : decode cX12_wished 47 = .ok (.aload_n 0, 1) := by decide +kernel
theorem dX12_wished_48 : decode cX12_wished 48 = .ok (.getfield 59, 3) := by decide +kernel
theorem dX12_wished_51 : decode cX12_wished 51 = .ok (.iload 6, 2) := by decide +kernel
theorem dX12_wished_53 : decode cX12_wished 53 = .ok (.iaload, 1) := by decide +kernel
theorem dX12_wished_54 : decode cX12_wished 54 = .ok (.ifCond .ne 31, 3) := by decide +kernel
theorem dX12_wished_57 : decode cX12_wished 57 = .ok (.aload_n 0, 1) := by decide +kernel
theorem dX12_wished_58 : decode cX12_wished 58 = .ok (.getfield 44, 3) := by decide +kernel
theorem dX12_wished_61 : decode cX12_wished 61 = .ok (.sipush 512, 3) := by decide +kernel
theorem dX12_wished_64 : decode cX12_wished 64 = .ok (.iload 6, 2) := by decide +kernel
theorem dX12_wished_66 : decode cX12_wished 66 = .ok (.imul, 1) := by decide +kernel
theorem dX12_wished_67 : decode cX12_wished 67 = .ok (.iload 4, 2) := by decide +kernel
theorem dX12_wished_69 : decode cX12_wished 69 = .ok (.iadd, 1) := by decide +kernel
theorem dX12_wished_70 : decode cX12_wished 70 = .ok (.iaload, 1) := by decide +kernel
theorem dX12_wished_71 : decode cX12_wished 71 = .ok (.aload_n 0, 1) := by decide +kernel
theorem dX12_wished_72 : decode cX12_wished 72 = .ok (.getfield 47, 3) := by decide +kernel
theorem dX12_wished_75 : decode cX12_wished 75 = .ok (.iload 4, 2) := by decide +kernel
theorem dX12_wished_77 : decode cX12_wished 77 = .ok (.iaload, 1) := by decide +kernel
theorem dX12_wished_78 : decode cX12_wished 78 = .ok (.if_icmp .eq 7, 3) := by decide +kernel
theorem dX12_wished_81 : decode cX12_wished 81 = .ok (.iconst 1, 1) := by decide +kernel
theorem dX12_wished_82 : decode cX12_wished 82 = .ok (.goto 4, 3) := by decide +kernel
theorem dX12_wished_85 : decode cX12_wished 85 = .ok (.iconst 0, 1) := by decide +kernel
theorem dX12_wished_86 : decode cX12_wished 86 = .ok (.iadd, 1) := by decide +kernel
theorem dX12_wished_87 : decode cX12_wished 87 = .ok (.istore 5, 2) := by decide +kernel
theorem dX12_wished_89 : decode cX12_wished 89 = .ok (.iinc 6 1, 3) := by decide +kernel
theorem dX12_wished_92 : decode cX12_wished 92 = .ok (.goto (-56), 3) := by decide +kernel
theorem dX12_wished_95 : decode cX12_wished 95 = .ok (.iload 5, 2) := by decide +kernel
theorem dX12_wished_97 : decode cX12_wished 97 = .ok (.iload_n 3, 1) := by decide +kernel
theorem dX12_wished_98 : decode cX12_wished 98 = .ok (.if_icmp .le 9, 3) := by decide +kernel
theorem dX12_wished_101 : decode cX12_wished 101 = .ok (.iload 5, 2) := by decide +kernel
theorem dX12_wished_103 : decode cX12_wished 103 = .ok (.istore_n 3, 1) := by decide +kernel
theorem dX12_wished_104 : decode cX12_wished 104 = .ok (.iload 4, 2) := by decide +kernel
theorem dX12_wished_106 : decode cX12_wished 106 = .ok (.istore_n 2, 1) := by decide +kernel
theorem dX12_wished_107 : decode cX12_wished 107 = .ok (.iinc 4 1, 3) := by decide +kernel
theorem dX12_wished_110 : decode cX12_wished 110 = .ok (.goto (-88), 3) := by decide +kernel
theorem dX12_wished_113 : decode cX12_wished 113 = .ok (.iload_n 1, 1) := by decide +kernel
theorem dX12_wished_114 : decode cX12_wished 114 = .ok (.ifCond .ne 7, 3) := by decide +kernel
theorem dX12_wished_117 : decode cX12_wished 117 = .ok (.iload_n 2, 1) := by decide +kernel
theorem dX12_wished_118 : decode cX12_wished 118 = .ok (.goto 4, 3) := by decide +kernel
theorem dX12_wished_121 : decode cX12_wished 121 = .ok (.iload_n 3, 1) := by decide +kernel
theorem dX12_wished_122 : decode cX12_wished 122 = .ok (.ireturn, 1) := by decide +kernel
set_option maxRecDepth 20000 in
theorem ggX12_failing_X12_layChanges : GoodIn wsX12_failing wsX12_layChanges := goodIn_r _ [6, 7, 8, 9, 10, 11, 12, 13, 14, 15, 16, 17, 18, 5, 19, 20, 21, 22, 23, 24, 25, 26, 27, 28, 29, 30, 31, 32, 33, 34, 35, 36, 37, 38, 39, 40, 41, 42, 43, 44, 45, 46, 47, 48, 49, 50, 51, 52, 59, 60, 61, 62, 63, 64, 65, 66, 67, 68, 69, 70, 71, 72, 73, 74, 75, 76, 77, 78, 79, 80, 81, 82, 83] (by decide +kernel) (by decide +kernel)
set_option maxRecDepth 20000 in
theorem gX12_failing_X12_layChanges : GoodIn wsX12_failing (wsV RX12 152 RX12 yX12_layChanges wsX12_layChanges) := goodIn_app (goodIn_of _ (by decide +kernel)) ggX12_failing_X12_layChanges
set_option maxRecDepth 20000 in
theorem ggX12_failing_X12_doesFail : GoodIn wsX12_failing wsX12_doesFail := goodIn_r _ [56, 10, 57, 58, 59, 60, 61, 62, 63, 64, 65, 66, 67, 68, 69, 70, 71, 72, 73, 74, 75, 76, 77, 78, 79, 80, 81, 82, 83] (by decide +kernel) (by decide +kernel)
set_option maxRecDepth 20000 in
theorem gX12_failing_X12_doesFail : GoodIn wsX12_failing (wsV RX12 175 RX12 yX12_doesFail wsX12_doesFail) := goodIn_app (goodIn_of _ (by decide +kernel)) ggX12_failing_X12_doesFail
theorem dX12_failing_0 : decode cX12_failing 0 = .ok (.aload_n 0, 1) := by decide +kernel
theorem dX12_failing_1 : decode cX12_failing 1 = .ok (.invokevirtual 152, 3) := by decide +kernel
theorem dX12_failing_4 : decode cX12_failing 4 = .ok (.iconst 0, 1) := by decide +kernel
theorem dX12_failing_5 : decode cX12_failing 5 = .ok (.istore_n 1, 1) := by decide +kernel
theorem dX12_failing_6 : decode cX12_failing 6 = .ok (.iconst 0, 1) := by decide +kernel
theorem dX12_failing_7 : decode cX12_failing 7 = .ok (.istore_n 2, 1) := by decide +kernel
theorem dX12_failing_8 : decode cX12_failing 8 = .ok (.iload_n 2, 1) := by decide +kernel
theorem dX12_failing_9 : decode cX12_failing 9 = .ok (.aload_n 0, 1) := by decide +kernel
theorem dX12_failing_10 : decode cX12_failing 10 = .ok (.getfield 155, 3) := by decide +kernel
theorem dX12_failing_13 : decode cX12_failing 13 = .ok (.if_icmp .ge 25, 3) := by decide +kernel
theorem dX12_failing_16 : decode cX12_failing 16 = .ok (.iload_n 1, 1) := by decide +kernel
theorem dX12_failing_17 : decode cX12_failing 17 = .ok (.aload_n 0, 1) := by decide +kernel
theorem dX12_failing_18 : decode cX12_failing 18 = .ok (.iload_n 2, 1) := by decide +kernel
theorem dX12_failing_19 : decode cX12_failing 19 = .ok (.invokevirtual 175, 3) := by decide +kernel
theorem dX12_failing_22 : decode cX12_failing 22 = .ok (.ifCond .eq 7, 3) := by decide +kernel
theorem dX12_failing_25 : decode cX12_failing 25 = .ok (.iconst 1, 1) := by decide +kernel
theorem dX12_failing_26 : decode cX12_failing 26 = .ok (.goto 4, 3) := by decide +kernel
theorem dX12_failing_29 : decode cX12_failing 29 = .ok (.iconst 0, 1) := by decide +kernel
theorem dX12_failing_30 : decode cX12_failing 30 = .ok (.iadd, 1) := by decide +kernel
theorem dX12_failing_31 : decode cX12_failing 31 = .ok (.istore_n 1, 1) := by decide +kernel
theorem dX12_failing_32 : decode cX12_failing 32 = .ok (.iinc 2 1, 3) := by decide +kernel
theorem dX12_failing_35 : decode cX12_failing 35 = .ok (.goto (-27), 3) := by decide +kernel
theorem dX12_failing_38 : decode cX12_failing 38 = .ok (.iload_n 1, 1) := by decide +kernel
theorem dX12_failing_39 : decode cX12_failing 39 = .ok (.ireturn, 1) := by decide +kernel
set_option maxRecDepth 20000 in
theorem ggX12_findBlame_X12_failing : GoodIn wsX12_findBlame wsX12_failing := goodIn_r _ [10, 1, 11, 12, 13, 9, 14, 15, 16, 2, 17, 18, 19, 20, 21, 22, 23, 24, 25, 26, 27, 28, 29, 30, 31, 32, 33, 34, 35, 36, 37, 38, 39, 40, 41, 42, 43, 44, 45, 46, 47, 48, 49, 50, 51, 52, 53, 54, 55, 56, 57, 58, 59, 60, 61, 62, 63, 5, 64, 69, 70, 71, 72, 73, 74, 75, 76, 77, 78, 79, 80, 81, 82, 83, 84, 85, 86, 87, 88, 89, 90, 91, 92, 93] (by decide +kernel) (by decide +kernel)
set_option maxRecDepth 20000 in
theorem gX12_findBlame_X12_failing : GoodIn wsX12_findBlame (wsV RX12 198 RX12 yX12_failing wsX12_failing) := goodIn_app (goodIn_of _ (by decide +kernel)) ggX12_findBlame_X12_failing
set_option maxRecDepth 20000 in
theorem ggX12_findBlame_X12_runsOf : GoodIn wsX12_findBlame wsX12_runsOf := goodIn_r _ [68, 2, 27, 53, 18, 49, 50, 51, 9, 52, 46, 47, 48, 41, 42, 43, 44, 45, 34, 35, 36, 29, 30, 31, 32, 33, 54, 55, 56, 57, 58, 59, 69, 70, 71, 72, 73, 74, 75, 76, 77, 78, 79, 80, 81, 82, 83, 84, 85, 86, 87, 88, 89, 90, 91, 92, 93] (by decide +kernel) (by decide +kernel)
set_option maxRecDepth 20000 in
theorem gX12_findBlame_X12_runsOf : GoodIn wsX12_findBlame (wsV RX12 137 RX12 yX12_runsOf wsX12_runsOf) := goodIn_app (goodIn_of _ (by decide +kernel)) ggX12_findBlame_X12_runsOf
set_option maxRecDepth 20000 in
theorem ggX12_findBlame_X12_doesFail : GoodIn wsX12_findBlame wsX12_doesFail := goodIn_r _ [63, 17, 5, 64, 69, 70, 71, 72, 73, 74, 75, 76, 77, 78, 79, 80, 81, 82, 83, 84, 85, 86, 87, 88, 89, 90, 91, 92, 93] (by decide +kernel) (by decide +kernel)
set_option maxRecDepth 20000 in
theorem gX12_findBlame_X12_doesFail : GoodIn wsX12_findBlame (wsV RX12 175 RX12 yX12_doesFail wsX12_doesFail) := goodIn_app (goodIn_of _ (by decide +kernel)) ggX12_findBlame_X12_doesFail
theorem dX12_findBlame_0 : decode cX12_findBlame 0 = .ok (.aload_n 0, 1) := by decide +kernel
theorem dX12_findBlame_1 : decode cX12_findBlame 1 = .ok (.invokevirtual 198, 3) := by decide +kernel
theorem dX12_findBlame_4 : decode cX12_findBlame 4 = .ok (.istore_n 1, 1) := by decide +kernel
theorem dX12_findBlame_5 : decode cX12_findBlame 5 = .ok (.aload_n 0, 1) := by decide +kernel
theorem dX12_findBlame_6 : decode cX12_findBlame 6 = .ok (.getfield 155, 3) := by decide +kernel
theorem dX12_findBlame_9 : decode cX12_findBlame 9 = .ok (.iload_n 1, 1) := by decide +kernel
theorem dX12_findBlame_10 : decode cX12_findBlame 10 = .ok (.isub, 1) := by decide +kernel
theorem dX12_findBlame_11 : decode cX12_findBlame 11 = .ok (.istore_n 2, 1) := by decide +kernel
theorem dX12_findBlame_12 : decode cX12_findBlame 12 = .ok (.iconst 0, 1) := by decide +kernel
theorem dX12_findBlame_13 : decode cX12_findBlame 13 = .ok (.istore_n 3, 1) := by decide +kernel
theorem dX12_findBlame_14 : decode cX12_findBlame 14 = .ok (.iload_n 3, 1) := by decide +kernel
theorem dX12_findBlame_15 : decode cX12_findBlame 15 = .ok (.aload_n 0, 1) := by decide +kernel
theorem dX12_findBlame_16 : decode cX12_findBlame 16 = .ok (.getfield 22, 3) := by decide +kernel
theorem dX12_findBlame_19 : decode cX12_findBlame 19 = .ok (.iconst 0, 1) := by decide +kernel
theorem dX12_findBlame_20 : decode cX12_findBlame 20 = .ok (.iaload, 1) := by decide +kernel
theorem dX12_findBlame_21 : decode cX12_findBlame 21 = .ok (.if_icmp .ge 23, 3) := by decide +kernel
theorem dX12_findBlame_24 : decode cX12_findBlame 24 = .ok (.aload_n 0, 1) := by decide +kernel
theorem dX12_findBlame_25 : decode cX12_findBlame 25 = .ok (.getfield 68, 3) := by decide +kernel
theorem dX12_findBlame_28 : decode cX12_findBlame 28 = .ok (.iload_n 3, 1) := by decide +kernel
theorem dX12_findBlame_29 : decode cX12_findBlame 29 = .ok (.iconst 0, 1) := by decide +kernel
theorem dX12_findBlame_30 : decode cX12_findBlame 30 = .ok (.iastore, 1) := by decide +kernel
theorem dX12_findBlame_31 : decode cX12_findBlame 31 = .ok (.aload_n 0, 1) := by decide +kernel
theorem dX12_findBlame_32 : decode cX12_findBlame 32 = .ok (.getfield 71, 3) := by decide +kernel
theorem dX12_findBlame_35 : decode cX12_findBlame 35 = .ok (.iload_n 3, 1) := by decide +kernel
theorem dX12_findBlame_36 : decode cX12_findBlame 36 = .ok (.iconst 0, 1) := by decide +kernel
theorem dX12_findBlame_37 : decode cX12_findBlame 37 = .ok (.iastore, 1) := by decide +kernel
theorem dX12_findBlame_38 : decode cX12_findBlame 38 = .ok (.iinc 3 1, 3) := by decide +kernel
theorem dX12_findBlame_41 : decode cX12_findBlame 41 = .ok (.goto (-27), 3) := by decide +kernel
theorem dX12_findBlame_44 : decode cX12_findBlame 44 = .ok (.iconst 0, 1) := by decide +kernel
theorem dX12_findBlame_45 : decode cX12_findBlame 45 = .ok (.istore_n 3, 1) := by decide +kernel
theorem dX12_findBlame_46 : decode cX12_findBlame 46 = .ok (.iload_n 3, 1) := by decide +kernel
theorem dX12_findBlame_47 : decode cX12_findBlame 47 = .ok (.aload_n 0, 1) := by decide +kernel
theorem dX12_findBlame_48 : decode cX12_findBlame 48 = .ok (.getfield 155, 3) := by decide +kernel
theorem dX12_findBlame_51 : decode cX12_findBlame 51 = .ok (.if_icmp .ge 110, 3) := by decide +kernel
theorem dX12_findBlame_54 : decode cX12_findBlame 54 = .ok (.aload_n 0, 1) := by decide +kernel
theorem dX12_findBlame_55 : decode cX12_findBlame 55 = .ok (.iconst 0, 1) := by decide +kernel
theorem dX12_findBlame_56 : decode cX12_findBlame 56 = .ok (.aload_n 0, 1) := by decide +kernel
theorem dX12_findBlame_57 : decode cX12_findBlame 57 = .ok (.getfield 53, 3) := by decide +kernel
theorem dX12_findBlame_60 : decode cX12_findBlame 60 = .ok (.iload_n 3, 1) := by decide +kernel
theorem dX12_findBlame_61 : decode cX12_findBlame 61 = .ok (.iaload, 1) := by decide +kernel
theorem dX12_findBlame_62 : decode cX12_findBlame 62 = .ok (.invokevirtual 137, 3) := by decide +kernel
theorem dX12_findBlame_65 : decode cX12_findBlame 65 = .ok (.istore 4, 2) := by decide +kernel
theorem dX12_findBlame_67 : decode cX12_findBlame 67 = .ok (.iconst 0, 1) := by decide +kernel
theorem dX12_findBlame_68 : decode cX12_findBlame 68 = .ok (.istore 5, 2) := by decide +kernel
theorem dX12_findBlame_70 : decode cX12_findBlame 70 = .ok (.iload 5, 2) := by decide +kernel
theorem dX12_findBlame_72 : decode cX12_findBlame 72 = .ok (.aload_n 0, 1) := by decide +kernel
theorem dX12_findBlame_73 : decode cX12_findBlame 73 = .ok (.getfield 22, 3) := by decide +kernel
theorem dX12_findBlame_76 : decode cX12_findBlame 76 = .ok (.iconst 0, 1) := by decide +kernel
theorem dX12_findBlame_77 : decode cX12_findBlame 77 = .ok (.iaload, 1) := by decide +kernel
theorem dX12_findBlame_78 : decode cX12_findBlame 78 = .ok (.if_icmp .ge 77, 3) := by decide +kernel
theorem dX12_findBlame_81 : decode cX12_findBlame 81 = .ok (.aload_n 0, 1) := by decide +kernel
theorem dX12_findBlame_82 : decode cX12_findBlame 82 = .ok (.getfield 68, 3) := by decide +kernel
theorem dX12_findBlame_85 : decode cX12_findBlame 85 = .ok (.iload 5, 2) := by decide +kernel
theorem dX12_findBlame_87 : decode cX12_findBlame 87 = .ok (.dup2, 1) := by decide +kernel
theorem dX12_findBlame_88 : decode cX12_findBlame 88 = .ok (.iaload, 1) := by decide +kernel
theorem dX12_findBlame_89 : decode cX12_findBlame 89 = .ok (.iload 4, 2) := by decide +kernel
theorem dX12_findBlame_91 : decode cX12_findBlame 91 = .ok (.iload 5, 2) := by decide +kernel
theorem dX12_findBlame_93 : decode cX12_findBlame 93 = .ok (.ishr, 1) := by decide +kernel
theorem dX12_findBlame_94 : decode cX12_findBlame 94 = .ok (.iconst 1, 1) := by decide +kernel
theorem dX12_findBlame_95 : decode cX12_findBlame 95 = .ok (.iand, 1) := by decide +kernel
theorem dX12_findBlame_96 : decode cX12_findBlame 96 = .ok (.iconst 1, 1) := by decide +kernel
theorem dX12_findBlame_97 : decode cX12_findBlame 97 = .ok (.if_icmp .ne 15, 3) := by decide +kernel
theorem dX12_findBlame_100 : decode cX12_findBlame 100 = .ok (.aload_n 0, 1) := by decide +kernel
theorem dX12_findBlame_101 : decode cX12_findBlame 101 = .ok (.iload_n 3, 1) := by decide +kernel
theorem dX12_findBlame_102 : decode cX12_findBlame 102 = .ok (.invokevirtual 175, 3) := by decide +kernel
theorem dX12_findBlame_105 : decode cX12_findBlame 105 = .ok (.ifCond .eq 7, 3) := by decide +kernel
theorem dX12_findBlame_108 : decode cX12_findBlame 108 = .ok (.iconst 1, 1) := by decide +kernel
theorem dX12_findBlame_109 : decode cX12_findBlame 109 = .ok (.goto 4, 3) := by decide +kernel
theorem dX12_findBlame_112 : decode cX12_findBlame 112 = .ok (.iconst 0, 1) := by decide +kernel
theorem dX12_findBlame_113 : decode cX12_findBlame 113 = .ok (.iadd, 1) := by decide +kernel
theorem dX12_findBlame_114 : decode cX12_findBlame 114 = .ok (.iastore, 1) := by decide +kernel
theorem dX12_findBlame_115 : decode cX12_findBlame 115 = .ok (.aload_n 0, 1) := by decide +kernel
theorem dX12_findBlame_116 : decode cX12_findBlame 116 = .ok (.getfield 71, 3) := by decide +kernel
theorem dX12_findBlame_119 : decode cX12_findBlame 119 = .ok (.iload 5, 2) := by decide +kernel
theorem dX12_findBlame_121 : decode cX12_findBlame 121 = .ok (.dup2, 1) := by decide +kernel
theorem dX12_findBlame_122 : decode cX12_findBlame 122 = .ok (.iaload, 1) := by decide +kernel
theorem dX12_findBlame_123 : decode cX12_findBlame 123 = .ok (.iload 4, 2) := by decide +kernel
theorem dX12_findBlame_125 : decode cX12_findBlame 125 = .ok (.iload 5, 2) := by decide +kernel
theorem dX12_findBlame_127 : decode cX12_findBlame 127 = .ok (.ishr, 1) := by decide +kernel
theorem dX12_findBlame_128 : decode cX12_findBlame 128 = .ok (.iconst 1, 1) := by decide +kernel
theorem dX12_findBlame_129 : decode cX12_findBlame 129 = .ok (.iand, 1) := by decide +kernel
theorem dX12_findBlame_130 : decode cX12_findBlame 130 = .ok (.iconst 1, 1) := by decide +kernel
theorem dX12_findBlame_131 : decode cX12_findBlame 131 = .ok (.if_icmp .ne 15, 3) := by decide +kernel
theorem dX12_findBlame_134 : decode cX12_findBlame 134 = .ok (.aload_n 0, 1) := by decide +kernel
theorem dX12_findBlame_135 : decode cX12_findBlame 135 = .ok (.iload_n 3, 1) := by decide +kernel
theorem dX12_findBlame_136 : decode cX12_findBlame 136 = .ok (.invokevirtual 175, 3) := by decide +kernel
theorem dX12_findBlame_139 : decode cX12_findBlame 139 = .ok (.ifCond .ne 7, 3) := by decide +kernel
theorem dX12_findBlame_142 : decode cX12_findBlame 142 = .ok (.iconst 1, 1) := by decide +kernel
theorem dX12_findBlame_143 : decode cX12_findBlame 143 = .ok (.goto 4, 3) := by decide +kernel
theorem dX12_findBlame_146 : decode cX12_findBlame 146 = .ok (.iconst 0, 1) := by decide +kernel
theorem dX12_findBlame_147 : decode cX12_findBlame 147 = .ok (.iadd, 1) := by decide +kernel
theorem dX12_findBlame_148 : decode cX12_findBlame 148 = .ok (.iastore, 1) := by decide +kernel
theorem dX12_findBlame_149 : decode cX12_findBlame 149 = .ok (.iinc 5 1, 3) := by decide +kernel
theorem dX12_findBlame_152 : decode cX12_findBlame 152 = .ok (.goto (-82), 3) := by decide +kernel
theorem dX12_findBlame_155 : decode cX12_findBlame 155 = .ok (.iinc 3 1, 3) := by decide +kernel
theorem dX12_findBlame_158 : decode cX12_findBlame 158 = .ok (.goto (-112), 3) := by decide +kernel
theorem dX12_findBlame_161 : decode cX12_findBlame 161 = .ok (.iconst 0, 1) := by decide +kernel
theorem dX12_findBlame_162 : decode cX12_findBlame 162 = .ok (.istore_n 3, 1) := by decide +kernel
theorem dX12_findBlame_163 : decode cX12_findBlame 163 = .ok (.iload_n 3, 1) := by decide +kernel
theorem dX12_findBlame_164 : decode cX12_findBlame 164 = .ok (.aload_n 0, 1) := by decide +kernel
theorem dX12_findBlame_165 : decode cX12_findBlame 165 = .ok (.getfield 22, 3) := by decide +kernel
theorem dX12_findBlame_168 : decode cX12_findBlame 168 = .ok (.iconst 0, 1) := by decide +kernel
theorem dX12_findBlame_169 : decode cX12_findBlame 169 = .ok (.iaload, 1) := by decide +kernel
theorem dX12_findBlame_170 : decode cX12_findBlame 170 = .ok (.if_icmp .ge 107, 3) := by decide +kernel
theorem dX12_findBlame_173 : decode cX12_findBlame 173 = .ok (.aload_n 0, 1) := by decide +kernel
theorem dX12_findBlame_174 : decode cX12_findBlame 174 = .ok (.getfield 68, 3) := by decide +kernel
theorem dX12_findBlame_177 : decode cX12_findBlame 177 = .ok (.iload_n 3, 1) := by decide +kernel
theorem dX12_findBlame_178 : decode cX12_findBlame 178 = .ok (.iaload, 1) := by decide +kernel
theorem dX12_findBlame_179 : decode cX12_findBlame 179 = .ok (.istore 4, 2) := by decide +kernel
theorem dX12_findBlame_181 : decode cX12_findBlame 181 = .ok (.aload_n 0, 1) := by decide +kernel
theorem dX12_findBlame_182 : decode cX12_findBlame 182 = .ok (.getfield 71, 3) := by decide +kernel
theorem dX12_findBlame_185 : decode cX12_findBlame 185 = .ok (.iload_n 3, 1) := by decide +kernel
theorem dX12_findBlame_186 : decode cX12_findBlame 186 = .ok (.iaload, 1) := by decide +kernel
theorem dX12_findBlame_187 : decode cX12_findBlame 187 = .ok (.istore 5, 2) := by decide +kernel
theorem dX12_findBlame_189 : decode cX12_findBlame 189 = .ok (.iload_n 2, 1) := by decide +kernel
theorem dX12_findBlame_190 : decode cX12_findBlame 190 = .ok (.ifCond .ne 7, 3) := by decide +kernel
theorem dX12_findBlame_193 : decode cX12_findBlame 193 = .ok (.iconst 1, 1) := by decide +kernel
theorem dX12_findBlame_194 : decode cX12_findBlame 194 = .ok (.goto 4, 3) := by decide +kernel
theorem dX12_findBlame_197 : decode cX12_findBlame 197 = .ok (.iconst 0, 1) := by decide +kernel
theorem dX12_findBlame_198 : decode cX12_findBlame 198 = .ok (.istore 6, 2) := by decide +kernel
theorem dX12_findBlame_200 : decode cX12_findBlame 200 = .ok (.aload_n 0, 1) := by decide +kernel
theorem dX12_findBlame_201 : decode cX12_findBlame 201 = .ok (.getfield 68, 3) := by decide +kernel
theorem dX12_findBlame_204 : decode cX12_findBlame 204 = .ok (.iload_n 3, 1) := by decide +kernel
theorem dX12_findBlame_205 : decode cX12_findBlame 205 = .ok (.iload 6, 2) := by decide +kernel
theorem dX12_findBlame_207 : decode cX12_findBlame 207 = .ok (.ifCond .eq 8, 3) := by decide +kernel
theorem dX12_findBlame_210 : decode cX12_findBlame 210 = .ok (.iload 4, 2) := by decide +kernel
theorem dX12_findBlame_212 : decode cX12_findBlame 212 = .ok (.goto 7, 3) := by decide +kernel
theorem dX12_findBlame_215 : decode cX12_findBlame 215 = .ok (.iload 4, 2) := by decide +kernel
theorem dX12_findBlame_217 : decode cX12_findBlame 217 = .ok (.iload_n 2, 1) := by decide +kernel
theorem dX12_findBlame_218 : decode cX12_findBlame 218 = .ok (.imul, 1) := by decide +kernel
theorem dX12_findBlame_219 : decode cX12_findBlame 219 = .ok (.iastore, 1) := by decide +kernel
theorem dX12_findBlame_220 : decode cX12_findBlame 220 = .ok (.aload_n 0, 1) := by decide +kernel
theorem dX12_findBlame_221 : decode cX12_findBlame 221 = .ok (.getfield 71, 3) := by decide +kernel
theorem dX12_findBlame_224 : decode cX12_findBlame 224 = .ok (.iload_n 3, 1) := by decide +kernel
theorem dX12_findBlame_225 : decode cX12_findBlame 225 = .ok (.iload 6, 2) := by decide +kernel
theorem dX12_findBlame_227 : decode cX12_findBlame 227 = .ok (.ifCond .eq 7, 3) := by decide +kernel
theorem dX12_findBlame_230 : decode cX12_findBlame 230 = .ok (.iload_n 1, 1) := by decide +kernel
theorem dX12_findBlame_231 : decode cX12_findBlame 231 = .ok (.goto 12, 3) := by decide +kernel
theorem dX12_findBlame_234 : decode cX12_findBlame 234 = .ok (.iload 4, 2) := by decide +kernel
theorem dX12_findBlame_236 : decode cX12_findBlame 236 = .ok (.iload_n 2, 1) := by decide +kernel
theorem dX12_findBlame_237 : decode cX12_findBlame 237 = .ok (.imul, 1) := by decide +kernel
theorem dX12_findBlame_238 : decode cX12_findBlame 238 = .ok (.iload 5, 2) := by decide +kernel
theorem dX12_findBlame_240 : decode cX12_findBlame 240 = .ok (.iload_n 1, 1) := by decide +kernel
theorem dX12_findBlame_241 : decode cX12_findBlame 241 = .ok (.imul, 1) := by decide +kernel
theorem dX12_findBlame_242 : decode cX12_findBlame 242 = .ok (.iadd, 1) := by decide +kernel
theorem dX12_findBlame_243 : decode cX12_findBlame 243 = .ok (.iastore, 1) := by decide +kernel
theorem dX12_findBlame_244 : decode cX12_findBlame 244 = .ok (.iload_n 1, 1) := by decide +kernel
theorem dX12_findBlame_245 : decode cX12_findBlame 245 = .ok (.ifCond .eq 12, 3) := by decide +kernel
theorem dX12_findBlame_248 : decode cX12_findBlame 248 = .ok (.aload_n 0, 1) := by decide +kernel
theorem dX12_findBlame_249 : decode cX12_findBlame 249 = .ok (.getfield 71, 3) := by decide +kernel
theorem dX12_findBlame_252 : decode cX12_findBlame 252 = .ok (.iload_n 3, 1) := by decide +kernel
theorem dX12_findBlame_253 : decode cX12_findBlame 253 = .ok (.iaload, 1) := by decide +kernel
theorem dX12_findBlame_254 : decode cX12_findBlame 254 = .ok (.ifCond .ne 17, 3) := by decide +kernel
theorem dX12_findBlame_257 : decode cX12_findBlame 257 = .ok (.aload_n 0, 1) := by decide +kernel
theorem dX12_findBlame_258 : decode cX12_findBlame 258 = .ok (.getfield 68, 3) := by decide +kernel
theorem dX12_findBlame_261 : decode cX12_findBlame 261 = .ok (.iload_n 3, 1) := by decide +kernel
theorem dX12_findBlame_262 : decode cX12_findBlame 262 = .ok (.iconst 0, 1) := by decide +kernel
theorem dX12_findBlame_263 : decode cX12_findBlame 263 = .ok (.iastore, 1) := by decide +kernel
theorem dX12_findBlame_264 : decode cX12_findBlame 264 = .ok (.aload_n 0, 1) := by decide +kernel
theorem dX12_findBlame_265 : decode cX12_findBlame 265 = .ok (.getfield 71, 3) := by decide +kernel
theorem dX12_findBlame_268 : decode cX12_findBlame 268 = .ok (.iload_n 3, 1) := by decide +kernel
theorem dX12_findBlame_269 : decode cX12_findBlame 269 = .ok (.iconst 1, 1) := by decide +kernel
theorem dX12_findBlame_270 : decode cX12_findBlame 270 = .ok (.iastore, 1) := by decide +kernel
theorem dX12_findBlame_271 : decode cX12_findBlame 271 = .ok (.iinc 3 1, 3) := by decide +kernel
theorem dX12_findBlame_274 : decode cX12_findBlame 274 = .ok (.goto (-111), 3) := by decide +kernel
theorem dX12_findBlame_277 : decode cX12_findBlame 277 = .ok (.return_, 1) := by decide +kernel
set_option maxRecDepth 20000 in
theorem ggX12_blame_X12_isNode : GoodIn wsX12_blame wsX12_isNode := goodIn_r _ [7, 8, 9, 10, 6, 11, 83, 84, 85, 86, 87, 88, 89, 90, 91, 92, 93, 94, 95, 96, 97, 98, 99, 100, 101, 102, 103, 104, 105, 106, 107] (by decide +kernel) (by decide +kernel)
set_option maxRecDepth 20000 in
theorem gX12_blame_X12_isNode : GoodIn wsX12_blame (wsV RX12 116 RX12 yX12_isNode wsX12_isNode) := goodIn_app (goodIn_of _ (by decide +kernel)) ggX12_blame_X12_isNode
set_option maxRecDepth 20000 in
theorem ggX12_blame_X12_isPart : GoodIn wsX12_blame wsX12_isPart := goodIn_r _ [14, 9, 10, 6, 11] (by decide +kernel) (by decide +kernel)
set_option maxRecDepth 20000 in
theorem gX12_blame_X12_isPart : GoodIn wsX12_blame (va_wsS RX12 186 yX12_isPart wsX12_isPart) := goodIn_app (goodIn_of _ (by decide +kernel)) ggX12_blame_X12_isPart
set_option maxRecDepth 20000 in
theorem ggX12_blame_X12_findBlame : GoodIn wsX12_blame wsX12_findBlame := goodIn_r _ [18, 19, 8, 1, 2, 20, 21, 22, 23, 6, 24, 25, 26, 27, 28, 29, 30, 31, 32, 33, 34, 35, 36, 37, 38, 39, 40, 41, 42, 43, 44, 45, 46, 47, 9, 10, 11, 48, 49, 50, 51, 52, 53, 54, 55, 56, 57, 58, 59, 60, 61, 62, 63, 64, 65, 66, 67, 68, 69, 70, 71, 72, 73, 74, 75, 76, 77, 78, 79, 83, 84, 85, 86, 87, 88, 89, 90, 91, 92, 93, 94, 95, 96, 97, 98, 99, 100, 101, 102, 103, 104, 105, 106, 107] (by decide +kernel) (by decide +kernel)
set_option maxRecDepth 20000 in
theorem gX12_blame_X12_findBlame : GoodIn wsX12_blame (wsV RX12 201 RX12 yX12_findBlame wsX12_findBlame) := goodIn_app (goodIn_of _ (by decide +kernel)) ggX12_blame_X12_findBlame
set_option maxRecDepth 20000 in
theorem ggX12_blame_X12_lowest : GoodIn wsX12_blame wsX12_lowest := goodIn_r _ [82] (by decide +kernel) (by decide +kernel)
set_option maxRecDepth 20000 in
theorem gX12_blame_X12_lowest : GoodIn wsX12_blame (va_wsS RX12 189 yX12_lowest wsX12_lowest) := goodIn_app (goodIn_of _ (by decide +kernel)) ggX12_blame_X12_lowest
theorem dX12_blame_0 : decode cX12_blame 0 = .ok (.aload_n 0, 1) := by decide +kernel
theorem dX12_blame_1 : decode cX12_blame 1 = .ok (.iconst 0, 1) := by decide +kernel
theorem dX12_blame_2 : decode cX12_blame 2 = .ok (.iload_n 1, 1) := by decide +kernel
theorem dX12_blame_3 : decode cX12_blame 3 = .ok (.invokevirtual 116, 3) := by decide +kernel
theorem dX12_blame_6 : decode cX12_blame 6 = .ok (.ifCond .ne 5, 3) := by decide +kernel
theorem dX12_blame_9 : decode cX12_blame 9 = .ok (.iconst (-1), 1) := by decide +kernel
theorem dX12_blame_10 : decode cX12_blame 10 = .ok (.ireturn, 1) := by decide +kernel
theorem dX12_blame_11 : decode cX12_blame 11 = .ok (.iload_n 2, 1) := by decide +kernel
theorem dX12_blame_12 : decode cX12_blame 12 = .ok (.invokestatic 186, 3) := by decide +kernel
theorem dX12_blame_15 : decode cX12_blame 15 = .ok (.ifCond .ne 6, 3) := by decide +kernel
theorem dX12_blame_18 : decode cX12_blame 18 = .ok (.bipush (-2), 2) := by decide +kernel
theorem dX12_blame_20 : decode cX12_blame 20 = .ok (.ireturn, 1) := by decide +kernel
theorem dX12_blame_21 : decode cX12_blame 21 = .ok (.aload_n 0, 1) := by decide +kernel
theorem dX12_blame_22 : decode cX12_blame 22 = .ok (.invokevirtual 201, 3) := by decide +kernel
theorem dX12_blame_25 : decode cX12_blame 25 = .ok (.aload_n 0, 1) := by decide +kernel
theorem dX12_blame_26 : decode cX12_blame 26 = .ok (.getfield 68, 3) := by decide +kernel
theorem dX12_blame_29 : decode cX12_blame 29 = .ok (.iload_n 1, 1) := by decide +kernel
theorem dX12_blame_30 : decode cX12_blame 30 = .ok (.iaload, 1) := by decide +kernel
theorem dX12_blame_31 : decode cX12_blame 31 = .ok (.aload_n 0, 1) := by decide +kernel
theorem dX12_blame_32 : decode cX12_blame 32 = .ok (.getfield 71, 3) := by decide +kernel
theorem dX12_blame_35 : decode cX12_blame 35 = .ok (.iload_n 1, 1) := by decide +kernel
theorem dX12_blame_36 : decode cX12_blame 36 = .ok (.iaload, 1) := by decide +kernel
theorem dX12_blame_37 : decode cX12_blame 37 = .ok (.iload_n 2, 1) := by decide +kernel
theorem dX12_blame_38 : decode cX12_blame 38 = .ok (.invokestatic 189, 3) := by decide +kernel
theorem dX12_blame_41 : decode cX12_blame 41 = .ok (.ireturn, 1) := by decide +kernel
set_option maxRecDepth 20000 in
theorem ggX12_rank_X12_findBlame : GoodIn wsX12_rank wsX12_findBlame := goodIn_r _ [8, 9, 1, 2, 3, 10, 11, 12, 13, 7, 14, 15, 16, 17, 18, 19, 20, 21, 22, 23, 24, 25, 26, 27, 28, 29, 30, 31, 32, 33, 34, 35, 36, 37, 38, 39, 40, 41, 42, 43, 44, 45, 46, 47, 48, 49, 50, 51, 52, 53, 54, 55, 56, 57, 58, 59, 60, 61, 62, 63, 64, 65, 66, 67, 68, 69, 70, 71, 72, 73, 74, 75, 76, 77, 78, 79, 80, 81, 82, 83, 84, 85, 86, 87, 88, 89, 90, 91, 92, 93, 94, 95, 96, 97] (by decide +kernel) (by decide +kernel)
set_option maxRecDepth 20000 in
theorem gX12_rank_X12_findBlame : GoodIn wsX12_rank (wsV RX12 201 RX12 yX12_findBlame wsX12_findBlame) := goodIn_app (goodIn_of _ (by decide +kernel)) ggX12_rank_X12_findBlame
theorem dX12_rank_0 : decode cX12_rank 0 = .ok (.aload_n 0, 1) := by decide +kernel
theorem dX12_rank_1 : decode cX12_rank 1 = .ok (.invokevirtual 201, 3) := by decide +kernel
theorem dX12_rank_4 : decode cX12_rank 4 = .ok (.iconst 0, 1) := by decide +kernel
theorem dX12_rank_5 : decode cX12_rank 5 = .ok (.istore_n 2, 1) := by decide +kernel
theorem dX12_rank_6 : decode cX12_rank 6 = .ok (.iload_n 2, 1) := by decide +kernel
theorem dX12_rank_7 : decode cX12_rank 7 = .ok (.aload_n 0, 1) := by decide +kernel
theorem dX12_rank_8 : decode cX12_rank 8 = .ok (.getfield 22, 3) := by decide +kernel
theorem dX12_rank_11 : decode cX12_rank 11 = .ok (.iconst 0, 1) := by decide +kernel
theorem dX12_rank_12 : decode cX12_rank 12 = .ok (.iaload, 1) := by decide +kernel
theorem dX12_rank_13 : decode cX12_rank 13 = .ok (.if_icmp .ge 93, 3) := by decide +kernel
theorem dX12_rank_16 : decode cX12_rank 16 = .ok (.iconst 0, 1) := by decide +kernel
theorem dX12_rank_17 : decode cX12_rank 17 = .ok (.istore_n 3, 1) := by decide +kernel
theorem dX12_rank_18 : decode cX12_rank 18 = .ok (.iconst 0, 1) := by decide +kernel
theorem dX12_rank_19 : decode cX12_rank 19 = .ok (.istore 4, 2) := by decide +kernel
theorem dX12_rank_21 : decode cX12_rank 21 = .ok (.iload 4, 2) := by decide +kernel
theorem dX12_rank_23 : decode cX12_rank 23 = .ok (.aload_n 0, 1) := by decide +kernel
theorem dX12_rank_24 : decode cX12_rank 24 = .ok (.getfield 22, 3) := by decide +kernel
theorem dX12_rank_27 : decode cX12_rank 27 = .ok (.iconst 0, 1) := by decide +kernel
theorem dX12_rank_28 : decode cX12_rank 28 = .ok (.iaload, 1) := by decide +kernel
theorem dX12_rank_29 : decode cX12_rank 29 = .ok (.if_icmp .ge 64, 3) := by decide +kernel
theorem dX12_rank_32 : decode cX12_rank 32 = .ok (.aload_n 0, 1) := by decide +kernel
theorem dX12_rank_33 : decode cX12_rank 33 = .ok (.getfield 68, 3) := by decide +kernel
theorem dX12_rank_36 : decode cX12_rank 36 = .ok (.iload 4, 2) := by decide +kernel
theorem dX12_rank_38 : decode cX12_rank 38 = .ok (.iaload, 1) := by decide +kernel
theorem dX12_rank_39 : decode cX12_rank 39 = .ok (.aload_n 0, 1) := by decide +kernel
theorem dX12_rank_40 : decode cX12_rank 40 = .ok (.getfield 71, 3) := by decide +kernel
theorem dX12_rank_43 : decode cX12_rank 43 = .ok (.iload_n 2, 1) := by decide +kernel
theorem dX12_rank_44 : decode cX12_rank 44 = .ok (.iaload, 1) := by decide +kernel
theorem dX12_rank_45 : decode cX12_rank 45 = .ok (.imul, 1) := by decide +kernel
theorem dX12_rank_46 : decode cX12_rank 46 = .ok (.aload_n 0, 1) := by decide +kernel
theorem dX12_rank_47 : decode cX12_rank 47 = .ok (.getfield 68, 3) := by decide +kernel
theorem dX12_rank_50 : decode cX12_rank 50 = .ok (.iload_n 2, 1) := by decide +kernel
theorem dX12_rank_51 : decode cX12_rank 51 = .ok (.iaload, 1) := by decide +kernel
theorem dX12_rank_52 : decode cX12_rank 52 = .ok (.aload_n 0, 1) := by decide +kernel
theorem dX12_rank_53 : decode cX12_rank 53 = .ok (.getfield 71, 3) := by decide +kernel
theorem dX12_rank_56 : decode cX12_rank 56 = .ok (.iload 4, 2) := by decide +kernel
theorem dX12_rank_58 : decode cX12_rank 58 = .ok (.iaload, 1) := by decide +kernel
theorem dX12_rank_59 : decode cX12_rank 59 = .ok (.imul, 1) := by decide +kernel
theorem dX12_rank_60 : decode cX12_rank 60 = .ok (.isub, 1) := by decide +kernel
theorem dX12_rank_61 : decode cX12_rank 61 = .ok (.istore 5, 2) := by decide +kernel
theorem dX12_rank_63 : decode cX12_rank 63 = .ok (.iload_n 3, 1) := by decide +kernel
theorem dX12_rank_64 : decode cX12_rank 64 = .ok (.iload 5, 2) := by decide +kernel
theorem dX12_rank_66 : decode cX12_rank 66 = .ok (.ifCond .gt 14, 3) := by decide +kernel
theorem dX12_rank_69 : decode cX12_rank 69 = .ok (.iload 5, 2) := by decide +kernel
theorem dX12_rank_71 : decode cX12_rank 71 = .ok (.ifCond .ne 13, 3) := by decide +kernel
theorem dX12_rank_74 : decode cX12_rank 74 = .ok (.iload 4, 2) := by decide +kernel
theorem dX12_rank_76 : decode cX12_rank 76 = .ok (.iload_n 2, 1) := by decide +kernel
theorem dX12_rank_77 : decode cX12_rank 77 = .ok (.if_icmp .ge 7, 3) := by decide +kernel
theorem dX12_rank_80 : decode cX12_rank 80 = .ok (.iconst 1, 1) := by decide +kernel
theorem dX12_rank_81 : decode cX12_rank 81 = .ok (.goto 4, 3) := by decide +kernel
theorem dX12_rank_84 : decode cX12_rank 84 = .ok (.iconst 0, 1) := by decide +kernel
theorem dX12_rank_85 : decode cX12_rank 85 = .ok (.iadd, 1) := by decide +kernel
theorem dX12_rank_86 : decode cX12_rank 86 = .ok (.istore_n 3, 1) := by decide +kernel
theorem dX12_rank_87 : decode cX12_rank 87 = .ok (.iinc 4 1, 3) := by decide +kernel
theorem dX12_rank_90 : decode cX12_rank 90 = .ok (.goto (-69), 3) := by decide +kernel
theorem dX12_rank_93 : decode cX12_rank 93 = .ok (.iload_n 3, 1) := by decide +kernel
theorem dX12_rank_94 : decode cX12_rank 94 = .ok (.iload_n 1, 1) := by decide +kernel
theorem dX12_rank_95 : decode cX12_rank 95 = .ok (.if_icmp .ne 5, 3) := by decide +kernel
theorem dX12_rank_98 : decode cX12_rank 98 = .ok (.iload_n 2, 1) := by decide +kernel
theorem dX12_rank_99 : decode cX12_rank 99 = .ok (.ireturn, 1) := by decide +kernel
theorem dX12_rank_100 : decode cX12_rank 100 = .ok (.iinc 2 1, 3) := by decide +kernel
theorem dX12_rank_103 : decode cX12_rank 103 = .ok (.goto (-97), 3) := by decide +kernel
theorem dX12_rank_106 : decode cX12_rank 106 = .ok (.bipush (-6), 2) := by decide +kernel
theorem dX12_rank_108 : decode cX12_rank 108 = .ok (.ireturn, 1) := by decide +kernel
theorem dX12_doesMend_0 : decode cX12_doesMend 0 = .ok (.iconst 1, 1) := by decide +kernel
theorem dX12_doesMend_1 : decode cX12_doesMend 1 = .ok (.istore_n 2, 1) := by decide +kernel
theorem dX12_doesMend_2 : decode cX12_doesMend 2 = .ok (.iconst 0, 1) := by decide +kernel
theorem dX12_doesMend_3 : decode cX12_doesMend 3 = .ok (.istore_n 3, 1) := by decide +kernel
theorem dX12_doesMend_4 : decode cX12_doesMend 4 = .ok (.iload_n 3, 1) := by decide +kernel
theorem dX12_doesMend_5 : decode cX12_doesMend 5 = .ok (.aload_n 0, 1) := by decide +kernel
theorem dX12_doesMend_6 : decode cX12_doesMend 6 = .ok (.getfield 155, 3) := by decide +kernel
theorem dX12_doesMend_9 : decode cX12_doesMend 9 = .ok (.if_icmp .ge 45, 3) := by decide +kernel
theorem dX12_doesMend_12 : decode cX12_doesMend 12 = .ok (.iload_n 2, 1) := by decide +kernel
theorem dX12_doesMend_13 : decode cX12_doesMend 13 = .ok (.ifCond .eq 33, 3) := by decide +kernel
theorem dX12_doesMend_16 : decode cX12_doesMend 16 = .ok (.aload_n 0, 1) := by decide +kernel
theorem dX12_doesMend_17 : decode cX12_doesMend 17 = .ok (.getfield 44, 3) := by decide +kernel
theorem dX12_doesMend_20 : decode cX12_doesMend 20 = .ok (.sipush 512, 3) := by decide +kernel
theorem dX12_doesMend_23 : decode cX12_doesMend 23 = .ok (.iload_n 1, 1) := by decide +kernel
theorem dX12_doesMend_24 : decode cX12_doesMend 24 = .ok (.imul, 1) := by decide +kernel
theorem dX12_doesMend_25 : decode cX12_doesMend 25 = .ok (.aload_n 0, 1) := by decide +kernel
theorem dX12_doesMend_26 : decode cX12_doesMend 26 = .ok (.getfield 53, 3) := by decide +kernel
theorem dX12_doesMend_29 : decode cX12_doesMend 29 = .ok (.iload_n 3, 1) := by decide +kernel
theorem dX12_doesMend_30 : decode cX12_doesMend 30 = .ok (.iaload, 1) := by decide +kernel
theorem dX12_doesMend_31 : decode cX12_doesMend 31 = .ok (.iadd, 1) := by decide +kernel
theorem dX12_doesMend_32 : decode cX12_doesMend 32 = .ok (.iaload, 1) := by decide +kernel
theorem dX12_doesMend_33 : decode cX12_doesMend 33 = .ok (.aload_n 0, 1) := by decide +kernel
theorem dX12_doesMend_34 : decode cX12_doesMend 34 = .ok (.getfield 56, 3) := by decide +kernel
theorem dX12_doesMend_37 : decode cX12_doesMend 37 = .ok (.iload_n 3, 1) := by decide +kernel
theorem dX12_doesMend_38 : decode cX12_doesMend 38 = .ok (.iaload, 1) := by decide +kernel
theorem dX12_doesMend_39 : decode cX12_doesMend 39 = .ok (.if_icmp .ne 7, 3) := by decide +kernel
theorem dX12_doesMend_42 : decode cX12_doesMend 42 = .ok (.iconst 1, 1) := by decide +kernel
theorem dX12_doesMend_43 : decode cX12_doesMend 43 = .ok (.goto 4, 3) := by decide +kernel
theorem dX12_doesMend_46 : decode cX12_doesMend 46 = .ok (.iconst 0, 1) := by decide +kernel
theorem dX12_doesMend_47 : decode cX12_doesMend 47 = .ok (.istore_n 2, 1) := by decide +kernel
theorem dX12_doesMend_48 : decode cX12_doesMend 48 = .ok (.iinc 3 1, 3) := by decide +kernel
theorem dX12_doesMend_51 : decode cX12_doesMend 51 = .ok (.goto (-47), 3) := by decide +kernel
theorem dX12_doesMend_54 : decode cX12_doesMend 54 = .ok (.iload_n 2, 1) := by decide +kernel
theorem dX12_doesMend_55 : decode cX12_doesMend 55 = .ok (.ireturn, 1) := by decide +kernel
theorem dX12_areAlike_0 : decode cX12_areAlike 0 = .ok (.iconst 1, 1) := by decide +kernel
theorem dX12_areAlike_1 : decode cX12_areAlike 1 = .ok (.istore_n 3, 1) := by decide +kernel
theorem dX12_areAlike_2 : decode cX12_areAlike 2 = .ok (.iconst 0, 1) := by decide +kernel
theorem dX12_areAlike_3 : decode cX12_areAlike 3 = .ok (.istore 4, 2) := by decide +kernel
theorem dX12_areAlike_5 : decode cX12_areAlike 5 = .ok (.iload 4, 2) := by decide +kernel
theorem dX12_areAlike_7 : decode cX12_areAlike 7 = .ok (.sipush 512, 3) := by decide +kernel
theorem dX12_areAlike_10 : decode cX12_areAlike 10 = .ok (.if_icmp .ge 48, 3) := by decide +kernel
theorem dX12_areAlike_13 : decode cX12_areAlike 13 = .ok (.iload_n 3, 1) := by decide +kernel
theorem dX12_areAlike_14 : decode cX12_areAlike 14 = .ok (.ifCond .eq 44, 3) := by decide +kernel
theorem dX12_areAlike_17 : decode cX12_areAlike 17 = .ok (.aload_n 0, 1) := by decide +kernel
theorem dX12_areAlike_18 : decode cX12_areAlike 18 = .ok (.getfield 44, 3) := by decide +kernel
theorem dX12_areAlike_21 : decode cX12_areAlike 21 = .ok (.sipush 512, 3) := by decide +kernel
theorem dX12_areAlike_24 : decode cX12_areAlike 24 = .ok (.iload_n 1, 1) := by decide +kernel
theorem dX12_areAlike_25 : decode cX12_areAlike 25 = .ok (.imul, 1) := by decide +kernel
theorem dX12_areAlike_26 : decode cX12_areAlike 26 = .ok (.iload 4, 2) := by decide +kernel
theorem dX12_areAlike_28 : decode cX12_areAlike 28 = .ok (.iadd, 1) := by decide +kernel
theorem dX12_areAlike_29 : decode cX12_areAlike 29 = .ok (.iaload, 1) := by decide +kernel
theorem dX12_areAlike_30 : decode cX12_areAlike 30 = .ok (.aload_n 0, 1) := by decide +kernel
theorem dX12_areAlike_31 : decode cX12_areAlike 31 = .ok (.getfield 44, 3) := by decide +kernel
theorem dX12_areAlike_34 : decode cX12_areAlike 34 = .ok (.sipush 512, 3) := by decide +kernel
theorem dX12_areAlike_37 : decode cX12_areAlike 37 = .ok (.iload_n 2, 1) := by decide +kernel
theorem dX12_areAlike_38 : decode cX12_areAlike 38 = .ok (.imul, 1) := by decide +kernel
theorem dX12_areAlike_39 : decode cX12_areAlike 39 = .ok (.iload 4, 2) := by decide +kernel
theorem dX12_areAlike_41 : decode cX12_areAlike 41 = .ok (.iadd, 1) := by decide +kernel
theorem dX12_areAlike_42 : decode cX12_areAlike 42 = .ok (.iaload, 1) := by decide +kernel
theorem dX12_areAlike_43 : decode cX12_areAlike 43 = .ok (.if_icmp .ne 7, 3) := by decide +kernel
theorem dX12_areAlike_46 : decode cX12_areAlike 46 = .ok (.iconst 1, 1) := by decide +kernel
theorem dX12_areAlike_47 : decode cX12_areAlike 47 = .ok (.goto 4, 3) := by decide +kernel
theorem dX12_areAlike_50 : decode cX12_areAlike 50 = .ok (.iconst 0, 1) := by decide +kernel
theorem dX12_areAlike_51 : decode cX12_areAlike 51 = .ok (.istore_n 3, 1) := by decide +kernel
theorem dX12_areAlike_52 : decode cX12_areAlike 52 = .ok (.iinc 4 1, 3) := by decide +kernel
theorem dX12_areAlike_55 : decode cX12_areAlike 55 = .ok (.goto (-50), 3) := by decide +kernel
theorem dX12_areAlike_58 : decode cX12_areAlike 58 = .ok (.iload_n 3, 1) := by decide +kernel
theorem dX12_areAlike_59 : decode cX12_areAlike 59 = .ok (.ireturn, 1) := by decide +kernel
set_option maxRecDepth 20000 in
theorem ggX12_isFirstKind_X12_doesMend : GoodIn wsX12_isFirstKind wsX12_doesMend := goodIn_r _ [5, 6, 7, 8, 9, 14, 15, 16, 17, 18, 19, 20, 21, 22, 23, 24, 25, 26, 27, 28, 29, 30, 31, 32, 33, 34, 35, 36, 37, 38] (by decide +kernel) (by decide +kernel)
set_option maxRecDepth 20000 in
theorem gX12_isFirstKind_X12_doesMend : GoodIn wsX12_isFirstKind (wsV RX12 204 RX12 yX12_doesMend wsX12_doesMend) := goodIn_app (goodIn_of _ (by decide +kernel)) ggX12_isFirstKind_X12_doesMend
set_option maxRecDepth 20000 in
theorem ggX12_isFirstKind_X12_areAlike : GoodIn wsX12_isFirstKind wsX12_areAlike := goodIn_r _ [13, 7, 14, 15, 16, 17, 18, 19, 20, 21, 22, 23, 24, 25, 26, 27, 28, 29, 30, 31, 32, 33, 34, 35, 36, 37, 38] (by decide +kernel) (by decide +kernel)
set_option maxRecDepth 20000 in
theorem gX12_isFirstKind_X12_areAlike : GoodIn wsX12_isFirstKind (wsV RX12 207 RX12 yX12_areAlike wsX12_areAlike) := goodIn_app (goodIn_of _ (by decide +kernel)) ggX12_isFirstKind_X12_areAlike
theorem dX12_isFirstKind_0 : decode cX12_isFirstKind 0 = .ok (.iconst 1, 1) := by decide +kernel
theorem dX12_isFirstKind_1 : decode cX12_isFirstKind 1 = .ok (.istore_n 2, 1) := by decide +kernel
theorem dX12_isFirstKind_2 : decode cX12_isFirstKind 2 = .ok (.iconst 0, 1) := by decide +kernel
theorem dX12_isFirstKind_3 : decode cX12_isFirstKind 3 = .ok (.istore_n 3, 1) := by decide +kernel
theorem dX12_isFirstKind_4 : decode cX12_isFirstKind 4 = .ok (.iload_n 3, 1) := by decide +kernel
theorem dX12_isFirstKind_5 : decode cX12_isFirstKind 5 = .ok (.iload_n 1, 1) := by decide +kernel
theorem dX12_isFirstKind_6 : decode cX12_isFirstKind 6 = .ok (.if_icmp .ge 36, 3) := by decide +kernel
theorem dX12_isFirstKind_9 : decode cX12_isFirstKind 9 = .ok (.iload_n 2, 1) := by decide +kernel
theorem dX12_isFirstKind_10 : decode cX12_isFirstKind 10 = .ok (.ifCond .eq 32, 3) := by decide +kernel
theorem dX12_isFirstKind_13 : decode cX12_isFirstKind 13 = .ok (.aload_n 0, 1) := by decide +kernel
theorem dX12_isFirstKind_14 : decode cX12_isFirstKind 14 = .ok (.iload_n 3, 1) := by decide +kernel
theorem dX12_isFirstKind_15 : decode cX12_isFirstKind 15 = .ok (.invokevirtual 204, 3) := by decide +kernel
theorem dX12_isFirstKind_18 : decode cX12_isFirstKind 18 = .ok (.ifCond .eq 12, 3) := by decide +kernel
theorem dX12_isFirstKind_21 : decode cX12_isFirstKind 21 = .ok (.aload_n 0, 1) := by decide +kernel
theorem dX12_isFirstKind_22 : decode cX12_isFirstKind 22 = .ok (.iload_n 1, 1) := by decide +kernel
theorem dX12_isFirstKind_23 : decode cX12_isFirstKind 23 = .ok (.iload_n 3, 1) := by decide +kernel
theorem dX12_isFirstKind_24 : decode cX12_isFirstKind 24 = .ok (.invokevirtual 207, 3) := by decide +kernel
theorem dX12_isFirstKind_27 : decode cX12_isFirstKind 27 = .ok (.ifCond .ne 7, 3) := by decide +kernel
theorem dX12_isFirstKind_30 : decode cX12_isFirstKind 30 = .ok (.iconst 1, 1) := by decide +kernel
theorem dX12_isFirstKind_31 : decode cX12_isFirstKind 31 = .ok (.goto 4, 3) := by decide +kernel
theorem dX12_isFirstKind_34 : decode cX12_isFirstKind 34 = .ok (.iconst 0, 1) := by decide +kernel
theorem dX12_isFirstKind_35 : decode cX12_isFirstKind 35 = .ok (.istore_n 2, 1) := by decide +kernel
theorem dX12_isFirstKind_36 : decode cX12_isFirstKind 36 = .ok (.iinc 3 1, 3) := by decide +kernel
theorem dX12_isFirstKind_39 : decode cX12_isFirstKind 39 = .ok (.goto (-35), 3) := by decide +kernel
theorem dX12_isFirstKind_42 : decode cX12_isFirstKind 42 = .ok (.iload_n 2, 1) := by decide +kernel
theorem dX12_isFirstKind_43 : decode cX12_isFirstKind 43 = .ok (.ireturn, 1) := by decide +kernel
set_option maxRecDepth 20000 in
theorem ggX12_mend_X12_failing : GoodIn wsX12_mend wsX12_failing := goodIn_r _ [6, 7, 8, 9, 10, 5, 11, 12, 1, 13, 14, 15, 16, 17, 18, 19, 20, 21, 22, 23, 24, 25, 26, 27, 28, 29, 30, 31, 32, 33, 34, 35, 36, 37, 38, 39, 40, 41, 42, 43, 44, 45, 46, 47, 48, 49, 50, 51, 52, 53, 54, 55, 56, 57, 58, 59, 60, 61, 62, 75, 76, 77, 78, 79, 80, 81, 82, 83, 84, 85, 86, 87, 88, 89, 90, 91, 92, 93, 94, 95, 96, 97, 98, 99] (by decide +kernel) (by decide +kernel)
set_option maxRecDepth 20000 in
theorem gX12_mend_X12_failing : GoodIn wsX12_mend (wsV RX12 198 RX12 yX12_failing wsX12_failing) := goodIn_app (goodIn_of _ (by decide +kernel)) ggX12_mend_X12_failing
set_option maxRecDepth 20000 in
theorem ggX12_mend_X12_doesMend : GoodIn wsX12_mend wsX12_doesMend := goodIn_r _ [66, 7, 19, 61, 62, 75, 76, 77, 78, 79, 80, 81, 82, 83, 84, 85, 86, 87, 88, 89, 90, 91, 92, 93, 94, 95, 96, 97, 98, 99] (by decide +kernel) (by decide +kernel)
set_option maxRecDepth 20000 in
theorem gX12_mend_X12_doesMend : GoodIn wsX12_mend (wsV RX12 204 RX12 yX12_doesMend wsX12_doesMend) := goodIn_app (goodIn_of _ (by decide +kernel)) ggX12_mend_X12_doesMend
set_option maxRecDepth 20000 in
theorem ggX12_mend_X12_isFirstKind : GoodIn wsX12_mend wsX12_isFirstKind := goodIn_r _ [70, 63, 64, 65, 5, 66, 7, 19, 61, 62, 71, 72, 73, 74, 75, 76, 77, 78, 79, 80, 81, 82, 83, 84, 85, 86, 87, 88, 89, 90, 91, 92, 93, 94, 95, 96, 97, 98, 99] (by decide +kernel) (by decide +kernel)
set_option maxRecDepth 20000 in
theorem gX12_mend_X12_isFirstKind : GoodIn wsX12_mend (wsV RX12 210 RX12 yX12_isFirstKind wsX12_isFirstKind) := goodIn_app (goodIn_of _ (by decide +kernel)) ggX12_mend_X12_isFirstKind
theorem dX12_mend_0 : decode cX12_mend 0 = .ok (.aload_n 0, 1) := by decide +kernel
theorem dX12_mend_1 : decode cX12_mend 1 = .ok (.invokevirtual 198, 3) := by decide +kernel
theorem dX12_mend_4 : decode cX12_mend 4 = .ok (.ifCond .ne 6, 3) := by decide +kernel
theorem dX12_mend_7 : decode cX12_mend 7 = .ok (.bipush (-3), 2) := by decide +kernel
theorem dX12_mend_9 : decode cX12_mend 9 = .ok (.ireturn, 1) := by decide +kernel
theorem dX12_mend_10 : decode cX12_mend 10 = .ok (.iconst 0, 1) := by decide +kernel
theorem dX12_mend_11 : decode cX12_mend 11 = .ok (.istore_n 2, 1) := by decide +kernel
theorem dX12_mend_12 : decode cX12_mend 12 = .ok (.iconst 0, 1) := by decide +kernel
theorem dX12_mend_13 : decode cX12_mend 13 = .ok (.istore_n 3, 1) := by decide +kernel
theorem dX12_mend_14 : decode cX12_mend 14 = .ok (.bipush (-6), 2) := by decide +kernel
theorem dX12_mend_16 : decode cX12_mend 16 = .ok (.istore 4, 2) := by decide +kernel
theorem dX12_mend_18 : decode cX12_mend 18 = .ok (.iconst 0, 1) := by decide +kernel
theorem dX12_mend_19 : decode cX12_mend 19 = .ok (.istore 5, 2) := by decide +kernel
theorem dX12_mend_21 : decode cX12_mend 21 = .ok (.iload 5, 2) := by decide +kernel
theorem dX12_mend_23 : decode cX12_mend 23 = .ok (.aload_n 0, 1) := by decide +kernel
theorem dX12_mend_24 : decode cX12_mend 24 = .ok (.getfield 141, 3) := by decide +kernel
theorem dX12_mend_27 : decode cX12_mend 27 = .ok (.if_icmp .ge 58, 3) := by decide +kernel
theorem dX12_mend_30 : decode cX12_mend 30 = .ok (.aload_n 0, 1) := by decide +kernel
theorem dX12_mend_31 : decode cX12_mend 31 = .ok (.iload 5, 2) := by decide +kernel
theorem dX12_mend_33 : decode cX12_mend 33 = .ok (.invokevirtual 204, 3) := by decide +kernel
theorem dX12_mend_36 : decode cX12_mend 36 = .ok (.ifCond .eq 43, 3) := by decide +kernel
theorem dX12_mend_39 : decode cX12_mend 39 = .ok (.iload_n 2, 1) := by decide +kernel
theorem dX12_mend_40 : decode cX12_mend 40 = .ok (.iload_n 1, 1) := by decide +kernel
theorem dX12_mend_41 : decode cX12_mend 41 = .ok (.if_icmp .ne 8, 3) := by decide +kernel
theorem dX12_mend_44 : decode cX12_mend 44 = .ok (.iload 5, 2) := by decide +kernel
theorem dX12_mend_46 : decode cX12_mend 46 = .ok (.goto 5, 3) := by decide +kernel
theorem dX12_mend_49 : decode cX12_mend 49 = .ok (.iload 4, 2) := by decide +kernel
theorem dX12_mend_51 : decode cX12_mend 51 = .ok (.istore 4, 2) := by decide +kernel
theorem dX12_mend_53 : decode cX12_mend 53 = .ok (.iinc 2 1, 3) := by decide +kernel
theorem dX12_mend_56 : decode cX12_mend 56 = .ok (.iload_n 3, 1) := by decide +kernel
theorem dX12_mend_57 : decode cX12_mend 57 = .ok (.iload_n 1, 1) := by decide +kernel
theorem dX12_mend_58 : decode cX12_mend 58 = .ok (.bipush (-2), 2) := by decide +kernel
theorem dX12_mend_60 : decode cX12_mend 60 = .ok (.if_icmp .ne 16, 3) := by decide +kernel
theorem dX12_mend_63 : decode cX12_mend 63 = .ok (.aload_n 0, 1) := by decide +kernel
theorem dX12_mend_64 : decode cX12_mend 64 = .ok (.iload 5, 2) := by decide +kernel
theorem dX12_mend_66 : decode cX12_mend 66 = .ok (.invokevirtual 210, 3) := by decide +kernel
theorem dX12_mend_69 : decode cX12_mend 69 = .ok (.ifCond .eq 7, 3) := by decide +kernel
theorem dX12_mend_72 : decode cX12_mend 72 = .ok (.iconst 1, 1) := by decide +kernel
theorem dX12_mend_73 : decode cX12_mend 73 = .ok (.goto 4, 3) := by decide +kernel
theorem dX12_mend_76 : decode cX12_mend 76 = .ok (.iconst 0, 1) := by decide +kernel
theorem dX12_mend_77 : decode cX12_mend 77 = .ok (.iadd, 1) := by decide +kernel
theorem dX12_mend_78 : decode cX12_mend 78 = .ok (.istore_n 3, 1) := by decide +kernel
theorem dX12_mend_79 : decode cX12_mend 79 = .ok (.iinc 5 1, 3) := by decide +kernel
theorem dX12_mend_82 : decode cX12_mend 82 = .ok (.goto (-61), 3) := by decide +kernel
theorem dX12_mend_85 : decode cX12_mend 85 = .ok (.iload_n 1, 1) := by decide +kernel
theorem dX12_mend_86 : decode cX12_mend 86 = .ok (.iconst (-1), 1) := by decide +kernel
theorem dX12_mend_87 : decode cX12_mend 87 = .ok (.if_icmp .ne 7, 3) := by decide +kernel
theorem dX12_mend_90 : decode cX12_mend 90 = .ok (.iload_n 2, 1) := by decide +kernel
theorem dX12_mend_91 : decode cX12_mend 91 = .ok (.goto 15, 3) := by decide +kernel
theorem dX12_mend_94 : decode cX12_mend 94 = .ok (.iload_n 1, 1) := by decide +kernel
theorem dX12_mend_95 : decode cX12_mend 95 = .ok (.bipush (-2), 2) := by decide +kernel
theorem dX12_mend_97 : decode cX12_mend 97 = .ok (.if_icmp .ne 7, 3) := by decide +kernel
theorem dX12_mend_100 : decode cX12_mend 100 = .ok (.iload_n 3, 1) := by decide +kernel
theorem dX12_mend_101 : decode cX12_mend 101 = .ok (.goto 5, 3) := by decide +kernel
theorem dX12_mend_104 : decode cX12_mend 104 = .ok (.iload 4, 2) := by decide +kernel
theorem dX12_mend_106 : decode cX12_mend 106 = .ok (.ireturn, 1) := by decide +kernel
set_option maxRecDepth 20000 in
theorem ggX12_doPart_X12_work : GoodIn wsX12_doPart wsX12_work := goodIn_r _ [6, 7, 8, 1, 9, 10, 11, 5, 12, 13, 14, 15, 16, 17, 18, 19, 20, 21, 22, 23, 24, 25, 26, 27, 28, 29, 30, 31, 32, 33, 34, 35, 36, 37, 38, 39, 40, 41, 42, 43, 44, 45, 46, 47, 48, 49, 50, 51, 52, 53, 54, 55, 56] (by decide +kernel) (by decide +kernel)
set_option maxRecDepth 20000 in
theorem gX12_doPart_X12_work : GoodIn wsX12_doPart (wsV RX12 133 RX12 yX12_work wsX12_work) := goodIn_app (goodIn_of _ (by decide +kernel)) ggX12_doPart_X12_work
theorem dX12_doPart_0 : decode cX12_doPart 0 = .ok (.aload_n 0, 1) := by decide +kernel
theorem dX12_doPart_1 : decode cX12_doPart 1 = .ok (.iconst 0, 1) := by decide +kernel
theorem dX12_doPart_2 : decode cX12_doPart 2 = .ok (.iload_n 1, 1) := by decide +kernel
theorem dX12_doPart_3 : decode cX12_doPart 3 = .ok (.bipush (-6), 2) := by decide +kernel
theorem dX12_doPart_5 : decode cX12_doPart 5 = .ok (.iconst 0, 1) := by decide +kernel
theorem dX12_doPart_6 : decode cX12_doPart 6 = .ok (.invokevirtual 133, 3) := by decide +kernel
theorem dX12_doPart_9 : decode cX12_doPart 9 = .ok (.aload_n 0, 1) := by decide +kernel
theorem dX12_doPart_10 : decode cX12_doPart 10 = .ok (.getfield 31, 3) := by decide +kernel
theorem dX12_doPart_13 : decode cX12_doPart 13 = .ok (.iconst 0, 1) := by decide +kernel
theorem dX12_doPart_14 : decode cX12_doPart 14 = .ok (.iaload, 1) := by decide +kernel
theorem dX12_doPart_15 : decode cX12_doPart 15 = .ok (.istore_n 2, 1) := by decide +kernel
theorem dX12_doPart_16 : decode cX12_doPart 16 = .ok (.aload_n 0, 1) := by decide +kernel
theorem dX12_doPart_17 : decode cX12_doPart 17 = .ok (.iconst 1, 1) := by decide +kernel
theorem dX12_doPart_18 : decode cX12_doPart 18 = .ok (.iload_n 1, 1) := by decide +kernel
theorem dX12_doPart_19 : decode cX12_doPart 19 = .ok (.bipush (-6), 2) := by decide +kernel
theorem dX12_doPart_21 : decode cX12_doPart 21 = .ok (.iconst 0, 1) := by decide +kernel
theorem dX12_doPart_22 : decode cX12_doPart 22 = .ok (.invokevirtual 133, 3) := by decide +kernel
theorem dX12_doPart_25 : decode cX12_doPart 25 = .ok (.iload_n 2, 1) := by decide +kernel
theorem dX12_doPart_26 : decode cX12_doPart 26 = .ok (.aload_n 0, 1) := by decide +kernel
theorem dX12_doPart_27 : decode cX12_doPart 27 = .ok (.getfield 31, 3) := by decide +kernel
theorem dX12_doPart_30 : decode cX12_doPart 30 = .ok (.iconst 0, 1) := by decide +kernel
theorem dX12_doPart_31 : decode cX12_doPart 31 = .ok (.iaload, 1) := by decide +kernel
theorem dX12_doPart_32 : decode cX12_doPart 32 = .ok (.if_icmp .eq 7, 3) := by decide +kernel
theorem dX12_doPart_35 : decode cX12_doPart 35 = .ok (.iconst 1, 1) := by decide +kernel
theorem dX12_doPart_36 : decode cX12_doPart 36 = .ok (.goto 4, 3) := by decide +kernel
theorem dX12_doPart_39 : decode cX12_doPart 39 = .ok (.iconst 0, 1) := by decide +kernel
theorem dX12_doPart_40 : decode cX12_doPart 40 = .ok (.ireturn, 1) := by decide +kernel
theorem dX12_sumOf_0 : decode cX12_sumOf 0 = .ok (.iload_n 0, 1) := by decide +kernel
theorem dX12_sumOf_1 : decode cX12_sumOf 1 = .ok (.bipush 6, 2) := by decide +kernel
theorem dX12_sumOf_3 : decode cX12_sumOf 3 = .ok (.ishr, 1) := by decide +kernel
theorem dX12_sumOf_4 : decode cX12_sumOf 4 = .ok (.iload_n 0, 1) := by decide +kernel
theorem dX12_sumOf_5 : decode cX12_sumOf 5 = .ok (.iconst 3, 1) := by decide +kernel
theorem dX12_sumOf_6 : decode cX12_sumOf 6 = .ok (.ishr, 1) := by decide +kernel
theorem dX12_sumOf_7 : decode cX12_sumOf 7 = .ok (.bipush 7, 2) := by decide +kernel
theorem dX12_sumOf_9 : decode cX12_sumOf 9 = .ok (.iand, 1) := by decide +kernel
theorem dX12_sumOf_10 : decode cX12_sumOf 10 = .ok (.iadd, 1) := by decide +kernel
theorem dX12_sumOf_11 : decode cX12_sumOf 11 = .ok (.iload_n 0, 1) := by decide +kernel
theorem dX12_sumOf_12 : decode cX12_sumOf 12 = .ok (.bipush 7, 2) := by decide +kernel
theorem dX12_sumOf_14 : decode cX12_sumOf 14 = .ok (.iand, 1) := by decide +kernel
theorem dX12_sumOf_15 : decode cX12_sumOf 15 = .ok (.iadd, 1) := by decide +kernel
theorem dX12_sumOf_16 : decode cX12_sumOf 16 = .ok (.ireturn, 1) := by decide +kernel
set_option maxRecDepth 20000 in
theorem ggX12_parts_X12_isPart : GoodIn wsX12_parts wsX12_isPart := goodIn_r _ [4, 5, 6, 3, 7] (by decide +kernel) (by decide +kernel)
set_option maxRecDepth 20000 in
theorem gX12_parts_X12_isPart : GoodIn wsX12_parts (va_wsS RX12 186 yX12_isPart wsX12_isPart) := goodIn_app (goodIn_of _ (by decide +kernel)) ggX12_parts_X12_isPart
set_option maxRecDepth 20000 in
theorem ggX12_parts_X12_doPart : GoodIn wsX12_parts wsX12_doPart := goodIn_r _ [11, 12, 13, 14, 15, 3, 16, 17, 18, 19, 20, 21, 22, 23, 24, 25, 26, 27, 5, 6, 7, 28, 29, 30, 31, 32, 33, 34, 35, 36, 37, 38, 42, 43, 44, 45, 46, 47, 48, 49, 50, 51, 52, 53, 54, 55, 56, 57, 58, 59, 60, 61, 62, 63, 64, 65, 66] (by decide +kernel) (by decide +kernel)
set_option maxRecDepth 20000 in
theorem gX12_parts_X12_doPart : GoodIn wsX12_parts (wsV RX12 213 RX12 yX12_doPart wsX12_doPart) := goodIn_app (goodIn_of _ (by decide +kernel)) ggX12_parts_X12_doPart
set_option maxRecDepth 20000 in
theorem ggX12_parts_X12_sumOf : GoodIn wsX12_parts wsX12_sumOf := goodIn_r _ [41] (by decide +kernel) (by decide +kernel)
set_option maxRecDepth 20000 in
theorem gX12_parts_X12_sumOf : GoodIn wsX12_parts (va_wsS RX12 216 yX12_sumOf wsX12_sumOf) := goodIn_app (goodIn_of _ (by decide +kernel)) ggX12_parts_X12_sumOf
theorem dX12_parts_0 : decode cX12_parts 0 = .ok (.iload_n 1, 1) := by decide +kernel
theorem dX12_parts_1 : decode cX12_parts 1 = .ok (.invokestatic 186, 3) := by decide +kernel
theorem dX12_parts_4 : decode cX12_parts 4 = .ok (.ifCond .ne 6, 3) := by decide +kernel
theorem dX12_parts_7 : decode cX12_parts 7 = .ok (.bipush (-2), 2) := by decide +kernel
theorem dX12_parts_9 : decode cX12_parts 9 = .ok (.ireturn, 1) := by decide +kernel
theorem dX12_parts_10 : decode cX12_parts 10 = .ok (.iconst 0, 1) := by decide +kernel
theorem dX12_parts_11 : decode cX12_parts 11 = .ok (.istore_n 2, 1) := by decide +kernel
theorem dX12_parts_12 : decode cX12_parts 12 = .ok (.bipush (-6), 2) := by decide +kernel
theorem dX12_parts_14 : decode cX12_parts 14 = .ok (.istore_n 3, 1) := by decide +kernel
theorem dX12_parts_15 : decode cX12_parts 15 = .ok (.iconst 0, 1) := by decide +kernel
theorem dX12_parts_16 : decode cX12_parts 16 = .ok (.istore 4, 2) := by decide +kernel
theorem dX12_parts_18 : decode cX12_parts 18 = .ok (.iload 4, 2) := by decide +kernel
theorem dX12_parts_20 : decode cX12_parts 20 = .ok (.sipush 512, 3) := by decide +kernel
theorem dX12_parts_23 : decode cX12_parts 23 = .ok (.if_icmp .ge 44, 3) := by decide +kernel
theorem dX12_parts_26 : decode cX12_parts 26 = .ok (.aload_n 0, 1) := by decide +kernel
theorem dX12_parts_27 : decode cX12_parts 27 = .ok (.iload 4, 2) := by decide +kernel
theorem dX12_parts_29 : decode cX12_parts 29 = .ok (.invokevirtual 213, 3) := by decide +kernel
theorem dX12_parts_32 : decode cX12_parts 32 = .ok (.ifCond .eq 29, 3) := by decide +kernel
theorem dX12_parts_35 : decode cX12_parts 35 = .ok (.iload_n 3, 1) := by decide +kernel
theorem dX12_parts_36 : decode cX12_parts 36 = .ok (.ifCond .lt 15, 3) := by decide +kernel
theorem dX12_parts_39 : decode cX12_parts 39 = .ok (.iload 4, 2) := by decide +kernel
theorem dX12_parts_41 : decode cX12_parts 41 = .ok (.invokestatic 216, 3) := by decide +kernel
theorem dX12_parts_44 : decode cX12_parts 44 = .ok (.iload_n 3, 1) := by decide +kernel
theorem dX12_parts_45 : decode cX12_parts 45 = .ok (.invokestatic 216, 3) := by decide +kernel
theorem dX12_parts_48 : decode cX12_parts 48 = .ok (.if_icmp .ge 8, 3) := by decide +kernel
theorem dX12_parts_51 : decode cX12_parts 51 = .ok (.iload 4, 2) := by decide +kernel
theorem dX12_parts_53 : decode cX12_parts 53 = .ok (.goto 4, 3) := by decide +kernel
theorem dX12_parts_56 : decode cX12_parts 56 = .ok (.iload_n 3, 1) := by decide +kernel
theorem dX12_parts_57 : decode cX12_parts 57 = .ok (.istore_n 3, 1) := by decide +kernel
theorem dX12_parts_58 : decode cX12_parts 58 = .ok (.iinc 2 1, 3) := by decide +kernel
theorem dX12_parts_61 : decode cX12_parts 61 = .ok (.iinc 4 1, 3) := by decide +kernel
theorem dX12_parts_64 : decode cX12_parts 64 = .ok (.goto (-46), 3) := by decide +kernel
theorem dX12_parts_67 : decode cX12_parts 67 = .ok (.iload_n 1, 1) := by decide +kernel
theorem dX12_parts_68 : decode cX12_parts 68 = .ok (.ifCond .ne 7, 3) := by decide +kernel
theorem dX12_parts_71 : decode cX12_parts 71 = .ok (.iload_n 2, 1) := by decide +kernel
theorem dX12_parts_72 : decode cX12_parts 72 = .ok (.goto 4, 3) := by decide +kernel
theorem dX12_parts_75 : decode cX12_parts 75 = .ok (.iload_n 3, 1) := by decide +kernel
theorem dX12_parts_76 : decode cX12_parts 76 = .ok (.ireturn, 1) := by decide +kernel
theorem dX12_stepped_0 : decode cX12_stepped 0 = .ok (.iconst 3, 1) := by decide +kernel
theorem dX12_stepped_1 : decode cX12_stepped 1 = .ok (.iload_n 1, 1) := by decide +kernel
theorem dX12_stepped_2 : decode cX12_stepped 2 = .ok (.iconst 3, 1) := by decide +kernel
theorem dX12_stepped_3 : decode cX12_stepped 3 = .ok (.irem, 1) := by decide +kernel
theorem dX12_stepped_4 : decode cX12_stepped 4 = .ok (.imul, 1) := by decide +kernel
theorem dX12_stepped_5 : decode cX12_stepped 5 = .ok (.istore_n 2, 1) := by decide +kernel
theorem dX12_stepped_6 : decode cX12_stepped 6 = .ok (.iload_n 0, 1) := by decide +kernel
theorem dX12_stepped_7 : decode cX12_stepped 7 = .ok (.iload_n 2, 1) := by decide +kernel
theorem dX12_stepped_8 : decode cX12_stepped 8 = .ok (.ishr, 1) := by decide +kernel
theorem dX12_stepped_9 : decode cX12_stepped 9 = .ok (.bipush 7, 2) := by decide +kernel
theorem dX12_stepped_11 : decode cX12_stepped 11 = .ok (.iand, 1) := by decide +kernel
theorem dX12_stepped_12 : decode cX12_stepped 12 = .ok (.istore_n 3, 1) := by decide +kernel
theorem dX12_stepped_13 : decode cX12_stepped 13 = .ok (.iload_n 1, 1) := by decide +kernel
theorem dX12_stepped_14 : decode cX12_stepped 14 = .ok (.iconst 3, 1) := by decide +kernel
theorem dX12_stepped_15 : decode cX12_stepped 15 = .ok (.if_icmp .ge 7, 3) := by decide +kernel
theorem dX12_stepped_18 : decode cX12_stepped 18 = .ok (.iconst 0, 1) := by decide +kernel
theorem dX12_stepped_19 : decode cX12_stepped 19 = .ok (.goto 26, 3) := by decide +kernel
theorem dX12_stepped_22 : decode cX12_stepped 22 = .ok (.iload_n 1, 1) := by decide +kernel
theorem dX12_stepped_23 : decode cX12_stepped 23 = .ok (.bipush 6, 2) := by decide +kernel
theorem dX12_stepped_25 : decode cX12_stepped 25 = .ok (.if_icmp .ge 9, 3) := by decide +kernel
theorem dX12_stepped_28 : decode cX12_stepped 28 = .ok (.iload_n 3, 1) := by decide +kernel
theorem dX12_stepped_29 : decode cX12_stepped 29 = .ok (.iconst 2, 1) := by decide +kernel
theorem dX12_stepped_30 : decode cX12_stepped 30 = .ok (.idiv, 1) := by decide +kernel
theorem dX12_stepped_31 : decode cX12_stepped 31 = .ok (.goto 14, 3) := by decide +kernel
theorem dX12_stepped_34 : decode cX12_stepped 34 = .ok (.iload_n 3, 1) := by decide +kernel
theorem dX12_stepped_35 : decode cX12_stepped 35 = .ok (.ifCond .le 9, 3) := by decide +kernel
theorem dX12_stepped_38 : decode cX12_stepped 38 = .ok (.iload_n 3, 1) := by decide +kernel
theorem dX12_stepped_39 : decode cX12_stepped 39 = .ok (.iconst 1, 1) := by decide +kernel
theorem dX12_stepped_40 : decode cX12_stepped 40 = .ok (.isub, 1) := by decide +kernel
theorem dX12_stepped_41 : decode cX12_stepped 41 = .ok (.goto 4, 3) := by decide +kernel
theorem dX12_stepped_44 : decode cX12_stepped 44 = .ok (.iconst 0, 1) := by decide +kernel
theorem dX12_stepped_45 : decode cX12_stepped 45 = .ok (.istore 4, 2) := by decide +kernel
theorem dX12_stepped_47 : decode cX12_stepped 47 = .ok (.iload_n 0, 1) := by decide +kernel
theorem dX12_stepped_48 : decode cX12_stepped 48 = .ok (.bipush 7, 2) := by decide +kernel
theorem dX12_stepped_50 : decode cX12_stepped 50 = .ok (.iload_n 2, 1) := by decide +kernel
theorem dX12_stepped_51 : decode cX12_stepped 51 = .ok (.ishl, 1) := by decide +kernel
theorem dX12_stepped_52 : decode cX12_stepped 52 = .ok (.iconst (-1), 1) := by decide +kernel
theorem dX12_stepped_53 : decode cX12_stepped 53 = .ok (.ixor, 1) := by decide +kernel
theorem dX12_stepped_54 : decode cX12_stepped 54 = .ok (.iand, 1) := by decide +kernel
theorem dX12_stepped_55 : decode cX12_stepped 55 = .ok (.iload 4, 2) := by decide +kernel
theorem dX12_stepped_57 : decode cX12_stepped 57 = .ok (.iload_n 2, 1) := by decide +kernel
theorem dX12_stepped_58 : decode cX12_stepped 58 = .ok (.ishl, 1) := by decide +kernel
theorem dX12_stepped_59 : decode cX12_stepped 59 = .ok (.ior, 1) := by decide +kernel
theorem dX12_stepped_60 : decode cX12_stepped 60 = .ok (.ireturn, 1) := by decide +kernel
set_option maxRecDepth 20000 in
theorem ggX12_less_X12_areInputs : GoodIn wsX12_less wsX12_areInputs := goodIn_r _ [4, 5, 6, 7, 3, 8] (by decide +kernel) (by decide +kernel)
set_option maxRecDepth 20000 in
theorem gX12_less_X12_areInputs : GoodIn wsX12_less (va_wsS RX12 130 yX12_areInputs wsX12_areInputs) := goodIn_app (goodIn_of _ (by decide +kernel)) ggX12_less_X12_areInputs
set_option maxRecDepth 20000 in
theorem ggX12_less_X12_isPart : GoodIn wsX12_less wsX12_isPart := goodIn_r _ [11, 6, 7, 3, 8] (by decide +kernel) (by decide +kernel)
set_option maxRecDepth 20000 in
theorem gX12_less_X12_isPart : GoodIn wsX12_less (va_wsS RX12 186 yX12_isPart wsX12_isPart) := goodIn_app (goodIn_of _ (by decide +kernel)) ggX12_less_X12_isPart
set_option maxRecDepth 20000 in
theorem ggX12_less_X12_doPart : GoodIn wsX12_less wsX12_doPart := goodIn_r _ [15, 16, 17, 18, 19, 3, 20, 21, 22, 23, 24, 25, 26, 27, 28, 29, 30, 31, 6, 7, 8, 32, 33, 34, 35, 36, 37, 38, 39, 40, 41, 42, 46, 47, 48, 49, 50, 51, 52, 53, 54, 55, 56, 57, 58, 59, 60, 61, 62, 63, 64, 65, 66, 67, 68, 69, 70] (by decide +kernel) (by decide +kernel)
set_option maxRecDepth 20000 in
theorem gX12_less_X12_doPart : GoodIn wsX12_less (wsV RX12 213 RX12 yX12_doPart wsX12_doPart) := goodIn_app (goodIn_of _ (by decide +kernel)) ggX12_less_X12_doPart
set_option maxRecDepth 20000 in
theorem ggX12_less_X12_stepped : GoodIn wsX12_less wsX12_stepped := goodIn_r _ [45] (by decide +kernel) (by decide +kernel)
set_option maxRecDepth 20000 in
theorem gX12_less_X12_stepped : GoodIn wsX12_less (va_wsS RX12 219 yX12_stepped wsX12_stepped) := goodIn_app (goodIn_of _ (by decide +kernel)) ggX12_less_X12_stepped
theorem dX12_less_0 : decode cX12_less 0 = .ok (.iload_n 1, 1) := by decide +kernel
theorem dX12_less_1 : decode cX12_less 1 = .ok (.invokestatic 130, 3) := by decide +kernel
theorem dX12_less_4 : decode cX12_less 4 = .ok (.ifCond .eq 10, 3) := by decide +kernel
theorem dX12_less_7 : decode cX12_less 7 = .ok (.iload_n 2, 1) := by decide +kernel
theorem dX12_less_8 : decode cX12_less 8 = .ok (.invokestatic 186, 3) := by decide +kernel
theorem dX12_less_11 : decode cX12_less 11 = .ok (.ifCond .ne 6, 3) := by decide +kernel
theorem dX12_less_14 : decode cX12_less 14 = .ok (.bipush (-2), 2) := by decide +kernel
theorem dX12_less_16 : decode cX12_less 16 = .ok (.ireturn, 1) := by decide +kernel
theorem dX12_less_17 : decode cX12_less 17 = .ok (.aload_n 0, 1) := by decide +kernel
theorem dX12_less_18 : decode cX12_less 18 = .ok (.iload_n 1, 1) := by decide +kernel
theorem dX12_less_19 : decode cX12_less 19 = .ok (.invokevirtual 213, 3) := by decide +kernel
theorem dX12_less_22 : decode cX12_less 22 = .ok (.ifCond .ne 6, 3) := by decide +kernel
theorem dX12_less_25 : decode cX12_less 25 = .ok (.bipush (-3), 2) := by decide +kernel
theorem dX12_less_27 : decode cX12_less 27 = .ok (.ireturn, 1) := by decide +kernel
theorem dX12_less_28 : decode cX12_less 28 = .ok (.iload_n 1, 1) := by decide +kernel
theorem dX12_less_29 : decode cX12_less 29 = .ok (.istore_n 3, 1) := by decide +kernel
theorem dX12_less_30 : decode cX12_less 30 = .ok (.iconst 0, 1) := by decide +kernel
theorem dX12_less_31 : decode cX12_less 31 = .ok (.istore 4, 2) := by decide +kernel
theorem dX12_less_33 : decode cX12_less 33 = .ok (.iconst 0, 1) := by decide +kernel
theorem dX12_less_34 : decode cX12_less 34 = .ok (.istore 5, 2) := by decide +kernel
theorem dX12_less_36 : decode cX12_less 36 = .ok (.iload 5, 2) := by decide +kernel
theorem dX12_less_38 : decode cX12_less 38 = .ok (.bipush 9, 2) := by decide +kernel
theorem dX12_less_40 : decode cX12_less 40 = .ok (.if_icmp .ge 44, 3) := by decide +kernel
theorem dX12_less_43 : decode cX12_less 43 = .ok (.iload_n 3, 1) := by decide +kernel
theorem dX12_less_44 : decode cX12_less 44 = .ok (.iload 5, 2) := by decide +kernel
theorem dX12_less_46 : decode cX12_less 46 = .ok (.invokestatic 219, 3) := by decide +kernel
theorem dX12_less_49 : decode cX12_less 49 = .ok (.istore 6, 2) := by decide +kernel
theorem dX12_less_51 : decode cX12_less 51 = .ok (.iload 6, 2) := by decide +kernel
theorem dX12_less_53 : decode cX12_less 53 = .ok (.iload_n 3, 1) := by decide +kernel
theorem dX12_less_54 : decode cX12_less 54 = .ok (.if_icmp .eq 24, 3) := by decide +kernel
theorem dX12_less_57 : decode cX12_less 57 = .ok (.aload_n 0, 1) := by decide +kernel
theorem dX12_less_58 : decode cX12_less 58 = .ok (.iload 6, 2) := by decide +kernel
theorem dX12_less_60 : decode cX12_less 60 = .ok (.invokevirtual 213, 3) := by decide +kernel
theorem dX12_less_63 : decode cX12_less 63 = .ok (.ifCond .eq 15, 3) := by decide +kernel
theorem dX12_less_66 : decode cX12_less 66 = .ok (.iload 6, 2) := by decide +kernel
theorem dX12_less_68 : decode cX12_less 68 = .ok (.istore_n 3, 1) := by decide +kernel
theorem dX12_less_69 : decode cX12_less 69 = .ok (.iinc 4 1, 3) := by decide +kernel
theorem dX12_less_72 : decode cX12_less 72 = .ok (.iconst 0, 1) := by decide +kernel
theorem dX12_less_73 : decode cX12_less 73 = .ok (.istore 5, 2) := by decide +kernel
theorem dX12_less_75 : decode cX12_less 75 = .ok (.goto 6, 3) := by decide +kernel
theorem dX12_less_78 : decode cX12_less 78 = .ok (.iinc 5 1, 3) := by decide +kernel
theorem dX12_less_81 : decode cX12_less 81 = .ok (.goto (-45), 3) := by decide +kernel
theorem dX12_less_84 : decode cX12_less 84 = .ok (.iload_n 2, 1) := by decide +kernel
theorem dX12_less_85 : decode cX12_less 85 = .ok (.ifCond .ne 7, 3) := by decide +kernel
theorem dX12_less_88 : decode cX12_less 88 = .ok (.iload_n 3, 1) := by decide +kernel
theorem dX12_less_89 : decode cX12_less 89 = .ok (.goto 5, 3) := by decide +kernel
theorem dX12_less_92 : decode cX12_less 92 = .ok (.iload 4, 2) := by decide +kernel
theorem dX12_less_94 : decode cX12_less 94 = .ok (.ireturn, 1) := by decide +kernel
set_option maxRecDepth 20000 in
theorem ggX12_told_X12_failing : GoodIn wsX12_told wsX12_failing := goodIn_r _ [8, 3, 9, 10, 11, 7, 12, 13, 14, 2, 15, 16, 17, 18, 19, 20, 21, 22, 23, 24, 25, 26, 27, 28, 29, 30, 31, 32, 33, 34, 35, 36, 37, 38, 39, 40, 41, 42, 43, 44, 45, 46, 47, 48, 49, 50, 51, 52, 53, 54, 55, 56, 57, 58, 59, 60, 61, 62, 63, 64, 65, 66, 67, 68, 69, 70, 71, 72, 73, 74, 75, 76, 77, 78, 79, 80, 81, 82, 83, 84, 85, 86, 87, 88] (by decide +kernel) (by decide +kernel)
set_option maxRecDepth 20000 in
theorem gX12_told_X12_failing : GoodIn wsX12_told (wsV RX12 198 RX12 yX12_failing wsX12_failing) := goodIn_app (goodIn_of _ (by decide +kernel)) ggX12_told_X12_failing
theorem dX12_told_0 : decode cX12_told 0 = .ok (.iload_n 1, 1) := by decide +kernel
theorem dX12_told_1 : decode cX12_told 1 = .ok (.tableswitch 64 0 4 #[35, 40, 47, 54, 59], 35) := by decide +kernel
theorem dX12_told_36 : decode cX12_told 36 = .ok (.aload_n 0, 1) := by decide +kernel
theorem dX12_told_37 : decode cX12_told 37 = .ok (.getfield 85, 3) := by decide +kernel
theorem dX12_told_40 : decode cX12_told 40 = .ok (.ireturn, 1) := by decide +kernel
theorem dX12_told_41 : decode cX12_told 41 = .ok (.aload_n 0, 1) := by decide +kernel
theorem dX12_told_42 : decode cX12_told 42 = .ok (.getfield 22, 3) := by decide +kernel
theorem dX12_told_45 : decode cX12_told 45 = .ok (.iconst 0, 1) := by decide +kernel
theorem dX12_told_46 : decode cX12_told 46 = .ok (.iaload, 1) := by decide +kernel
theorem dX12_told_47 : decode cX12_told 47 = .ok (.ireturn, 1) := by decide +kernel
theorem dX12_told_48 : decode cX12_told 48 = .ok (.aload_n 0, 1) := by decide +kernel
theorem dX12_told_49 : decode cX12_told 49 = .ok (.getfield 22, 3) := by decide +kernel
theorem dX12_told_52 : decode cX12_told 52 = .ok (.iconst 1, 1) := by decide +kernel
theorem dX12_told_53 : decode cX12_told 53 = .ok (.iaload, 1) := by decide +kernel
theorem dX12_told_54 : decode cX12_told 54 = .ok (.ireturn, 1) := by decide +kernel
theorem dX12_told_55 : decode cX12_told 55 = .ok (.aload_n 0, 1) := by decide +kernel
theorem dX12_told_56 : decode cX12_told 56 = .ok (.getfield 155, 3) := by decide +kernel
theorem dX12_told_59 : decode cX12_told 59 = .ok (.ireturn, 1) := by decide +kernel
theorem dX12_told_60 : decode cX12_told 60 = .ok (.aload_n 0, 1) := by decide +kernel
theorem dX12_told_61 : decode cX12_told 61 = .ok (.invokevirtual 198, 3) := by decide +kernel
theorem dX12_told_64 : decode cX12_told 64 = .ok (.ireturn, 1) := by decide +kernel
theorem dX12_told_65 : decode cX12_told 65 = .ok (.bipush (-2), 2) := by decide +kernel
theorem dX12_told_67 : decode cX12_told 67 = .ok (.ireturn, 1) := by decide +kernel
