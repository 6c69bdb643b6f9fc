theorem dX6_flips_0 : decode cX6_flips 0 = .ok (.iload_n 1, 1) := by decide +kernel
theorem dX6_flips_1 : decode cX6_flips 1 = .ok (.iconst 0, 1) := by decide +kernel
theorem dX6_flips_2 : decode cX6_flips 2 = .ok (.aload_n 0, 1) := by decide +kernel
theorem dX6_flips_3 : decode cX6_flips 3 = .ok (.getfield 35, 3) := by decide +kernel
theorem dX6_flips_6 : decode cX6_flips 6 = .ok (.iconst 1, 1) := by decide +kernel
theorem dX6_flips_7 : decode cX6_flips 7 = .ok (.isub, 1) := by decide +kernel
theorem dX6_flips_8 : decode cX6_flips 8 = .ok (.invokestatic 81, 3) := by decide +kernel
theorem dX6_flips_11 : decode cX6_flips 11 = .ok (.ifCond .eq 56, 3) := by decide +kernel
theorem dX6_flips_14 : decode cX6_flips 14 = .ok (.aload_n 0, 1) := by decide +kernel
theorem dX6_flips_15 : decode cX6_flips 15 = .ok (.iload_n 2, 1) := by decide +kernel
theorem dX6_flips_16 : decode cX6_flips 16 = .ok (.iload_n 3, 1) := by decide +kernel
theorem dX6_flips_17 : decode cX6_flips 17 = .ok (.invokevirtual 132, 3) := by decide +kernel
theorem dX6_flips_20 : decode cX6_flips 20 = .ok (.ifCond .eq 47, 3) := by decide +kernel
theorem dX6_flips_23 : decode cX6_flips 23 = .ok (.iload 4, 2) := by decide +kernel
theorem dX6_flips_25 : decode cX6_flips 25 = .ok (.iconst 0, 1) := by decide +kernel
theorem dX6_flips_26 : decode cX6_flips 26 = .ok (.aload_n 0, 1) := by decide +kernel
theorem dX6_flips_27 : decode cX6_flips 27 = .ok (.getfield 35, 3) := by decide +kernel
theorem dX6_flips_30 : decode cX6_flips 30 = .ok (.iconst 1, 1) := by decide +kernel
theorem dX6_flips_31 : decode cX6_flips 31 = .ok (.isub, 1) := by decide +kernel
theorem dX6_flips_32 : decode cX6_flips 32 = .ok (.invokestatic 81, 3) := by decide +kernel
theorem dX6_flips_35 : decode cX6_flips 35 = .ok (.ifCond .eq 32, 3) := by decide +kernel
theorem dX6_flips_38 : decode cX6_flips 38 = .ok (.aload_n 0, 1) := by decide +kernel
theorem dX6_flips_39 : decode cX6_flips 39 = .ok (.iload 5, 2) := by decide +kernel
theorem dX6_flips_41 : decode cX6_flips 41 = .ok (.iload 6, 2) := by decide +kernel
theorem dX6_flips_43 : decode cX6_flips 43 = .ok (.invokevirtual 132, 3) := by decide +kernel
theorem dX6_flips_46 : decode cX6_flips 46 = .ok (.ifCond .eq 21, 3) := by decide +kernel
theorem dX6_flips_49 : decode cX6_flips 49 = .ok (.iload_n 1, 1) := by decide +kernel
theorem dX6_flips_50 : decode cX6_flips 50 = .ok (.iload 4, 2) := by decide +kernel
theorem dX6_flips_52 : decode cX6_flips 52 = .ok (.if_icmp .ne 18, 3) := by decide +kernel
theorem dX6_flips_55 : decode cX6_flips 55 = .ok (.iload_n 2, 1) := by decide +kernel
theorem dX6_flips_56 : decode cX6_flips 56 = .ok (.iload 5, 2) := by decide +kernel
theorem dX6_flips_58 : decode cX6_flips 58 = .ok (.if_icmp .ne 12, 3) := by decide +kernel
theorem dX6_flips_61 : decode cX6_flips 61 = .ok (.iload_n 3, 1) := by decide +kernel
theorem dX6_flips_62 : decode cX6_flips 62 = .ok (.iload 6, 2) := by decide +kernel
theorem dX6_flips_64 : decode cX6_flips 64 = .ok (.if_icmp .ne 6, 3) := by decide +kernel
theorem dX6_flips_67 : decode cX6_flips 67 = .ok (.bipush (-2), 2) := by decide +kernel
theorem dX6_flips_69 : decode cX6_flips 69 = .ok (.ireturn, 1) := by decide +kernel
theorem dX6_flips_70 : decode cX6_flips 70 = .ok (.aload_n 0, 1) := by decide +kernel
theorem dX6_flips_71 : decode cX6_flips 71 = .ok (.aload_n 0, 1) := by decide +kernel
theorem dX6_flips_72 : decode cX6_flips 72 = .ok (.getfield 35, 3) := by decide +kernel
theorem dX6_flips_75 : decode cX6_flips 75 = .ok (.invokevirtual 106, 3) := by decide +kernel
theorem dX6_flips_78 : decode cX6_flips 78 = .ok (.aload_n 0, 1) := by decide +kernel
theorem dX6_flips_79 : decode cX6_flips 79 = .ok (.iload_n 2, 1) := by decide +kernel
theorem dX6_flips_80 : decode cX6_flips 80 = .ok (.iload_n 3, 1) := by decide +kernel
theorem dX6_flips_81 : decode cX6_flips 81 = .ok (.iload_n 1, 1) := by decide +kernel
theorem dX6_flips_82 : decode cX6_flips 82 = .ok (.iload 5, 2) := by decide +kernel
theorem dX6_flips_84 : decode cX6_flips 84 = .ok (.iload 6, 2) := by decide +kernel
theorem dX6_flips_86 : decode cX6_flips 86 = .ok (.iload 4, 2) := by decide +kernel
theorem dX6_flips_88 : decode cX6_flips 88 = .ok (.invokevirtual 143, 3) := by decide +kernel
theorem dX6_flips_91 : decode cX6_flips 91 = .ok (.ireturn, 1) := by decide +kernel
set_option maxRecDepth 20000 in
theorem ggX6_many_X6_in : GoodIn wsX6_many wsX6_in := goodIn_r _ [6] (by decide +kernel) (by decide +kernel)
set_option maxRecDepth 20000 in
theorem gX6_many_X6_in : GoodIn wsX6_many (va_wsS RX6 81 yX6_in wsX6_in) := goodIn_app (goodIn_of _ (by decide +kernel)) ggX6_many_X6_in
set_option maxRecDepth 20000 in
theorem ggX6_many_X6_runsBare : GoodIn wsX6_many wsX6_runsBare := goodIn_r _ [10, 2, 11, 12, 13, 14, 15, 16, 17, 5, 18, 19, 20, 21, 22, 23, 24, 25, 68, 69, 70, 71, 72, 73, 74, 75, 76, 77, 78, 79, 80, 81, 82, 83, 84, 85, 86, 87, 88, 89, 90, 91, 92, 93] (by decide +kernel) (by decide +kernel)
set_option maxRecDepth 20000 in
theorem gX6_many_X6_runsBare : GoodIn wsX6_many (wsV RX6 106 RX6 yX6_runsBare wsX6_runsBare) := goodIn_app (goodIn_of _ (by decide +kernel)) ggX6_many_X6_runsBare
set_option maxRecDepth 20000 in
theorem ggX6_many_X6_copiesOf : GoodIn wsX6_many wsX6_copiesOf := goodIn_r _ [29, 30, 68, 69, 70, 71, 72, 73, 74, 75, 76, 77, 78, 79, 80, 81, 82, 83, 84, 85, 86, 87, 88, 89, 90, 91, 92, 93] (by decide +kernel) (by decide +kernel)
set_option maxRecDepth 20000 in
theorem gX6_many_X6_copiesOf : GoodIn wsX6_many (wsV RX6 114 RX6 yX6_copiesOf wsX6_copiesOf) := goodIn_app (goodIn_of _ (by decide +kernel)) ggX6_many_X6_copiesOf
set_option maxRecDepth 20000 in
theorem ggX6_many_X6_runsOne : GoodIn wsX6_many wsX6_runsOne := goodIn_r _ [34, 35, 36, 37, 38, 5, 39, 2, 40, 11, 1, 41, 12, 42, 43, 44, 45, 13, 14, 26, 27, 28, 29, 30, 46, 47, 48, 49, 15, 16, 17, 18, 19, 20, 21, 22, 50, 51, 52, 53, 54, 55, 56, 57, 23, 24, 25, 58, 59, 60, 61, 62, 63, 64, 65, 66, 67, 68, 69, 70, 71, 72, 73, 74, 75, 76, 77, 78, 79, 80, 81, 82, 83, 84, 85, 86, 87, 88, 89, 90, 91, 92, 93] (by decide +kernel) (by decide +kernel)
set_option maxRecDepth 20000 in
theorem gX6_many_X6_runsOne : GoodIn wsX6_many (wsV RX6 140 RX6 yX6_runsOne wsX6_runsOne) := goodIn_app (goodIn_of _ (by decide +kernel)) ggX6_many_X6_runsOne
theorem dX6_many_0 : decode cX6_many 0 = .ok (.iload_n 1, 1) := by decide +kernel
theorem dX6_many_1 : decode cX6_many 1 = .ok (.iconst 0, 1) := by decide +kernel
theorem dX6_many_2 : decode cX6_many 2 = .ok (.iconst 3, 1) := by decide +kernel
theorem dX6_many_3 : decode cX6_many 3 = .ok (.invokestatic 81, 3) := by decide +kernel
theorem dX6_many_6 : decode cX6_many 6 = .ok (.ifCond .ne 6, 3) := by decide +kernel
theorem dX6_many_9 : decode cX6_many 9 = .ok (.bipush (-2), 2) := by decide +kernel
theorem dX6_many_11 : decode cX6_many 11 = .ok (.ireturn, 1) := by decide +kernel
theorem dX6_many_12 : decode cX6_many 12 = .ok (.aload_n 0, 1) := by decide +kernel
theorem dX6_many_13 : decode cX6_many 13 = .ok (.aload_n 0, 1) := by decide +kernel
theorem dX6_many_14 : decode cX6_many 14 = .ok (.getfield 35, 3) := by decide +kernel
theorem dX6_many_17 : decode cX6_many 17 = .ok (.invokevirtual 106, 3) := by decide +kernel
theorem dX6_many_20 : decode cX6_many 20 = .ok (.iconst 0, 1) := by decide +kernel
theorem dX6_many_21 : decode cX6_many 21 = .ok (.istore_n 2, 1) := by decide +kernel
theorem dX6_many_22 : decode cX6_many 22 = .ok (.iconst 0, 1) := by decide +kernel
theorem dX6_many_23 : decode cX6_many 23 = .ok (.istore_n 3, 1) := by decide +kernel
theorem dX6_many_24 : decode cX6_many 24 = .ok (.iload_n 3, 1) := by decide +kernel
theorem dX6_many_25 : decode cX6_many 25 = .ok (.aload_n 0, 1) := by decide +kernel
theorem dX6_many_26 : decode cX6_many 26 = .ok (.getfield 35, 3) := by decide +kernel
theorem dX6_many_29 : decode cX6_many 29 = .ok (.if_icmp .ge 68, 3) := by decide +kernel
theorem dX6_many_32 : decode cX6_many 32 = .ok (.iconst 0, 1) := by decide +kernel
theorem dX6_many_33 : decode cX6_many 33 = .ok (.istore 4, 2) := by decide +kernel
theorem dX6_many_35 : decode cX6_many 35 = .ok (.iload 4, 2) := by decide +kernel
theorem dX6_many_37 : decode cX6_many 37 = .ok (.aload_n 0, 1) := by decide +kernel
theorem dX6_many_38 : decode cX6_many 38 = .ok (.getfield 78, 3) := by decide +kernel
theorem dX6_many_41 : decode cX6_many 41 = .ok (.if_icmp .ge 50, 3) := by decide +kernel
theorem dX6_many_44 : decode cX6_many 44 = .ok (.iconst 0, 1) := by decide +kernel
theorem dX6_many_45 : decode cX6_many 45 = .ok (.istore 5, 2) := by decide +kernel
theorem dX6_many_47 : decode cX6_many 47 = .ok (.iload 5, 2) := by decide +kernel
theorem dX6_many_49 : decode cX6_many 49 = .ok (.aload_n 0, 1) := by decide +kernel
theorem dX6_many_50 : decode cX6_many 50 = .ok (.iload 4, 2) := by decide +kernel
theorem dX6_many_52 : decode cX6_many 52 = .ok (.invokevirtual 114, 3) := by decide +kernel
theorem dX6_many_55 : decode cX6_many 55 = .ok (.if_icmp .ge 30, 3) := by decide +kernel
theorem dX6_many_58 : decode cX6_many 58 = .ok (.iload_n 2, 1) := by decide +kernel
theorem dX6_many_59 : decode cX6_many 59 = .ok (.aload_n 0, 1) := by decide +kernel
theorem dX6_many_60 : decode cX6_many 60 = .ok (.iload_n 3, 1) := by decide +kernel
theorem dX6_many_61 : decode cX6_many 61 = .ok (.iload 4, 2) := by decide +kernel
theorem dX6_many_63 : decode cX6_many 63 = .ok (.iload 5, 2) := by decide +kernel
theorem dX6_many_65 : decode cX6_many 65 = .ok (.invokevirtual 140, 3) := by decide +kernel
theorem dX6_many_68 : decode cX6_many 68 = .ok (.iload_n 1, 1) := by decide +kernel
theorem dX6_many_69 : decode cX6_many 69 = .ok (.if_icmp .ne 7, 3) := by decide +kernel
theorem dX6_many_72 : decode cX6_many 72 = .ok (.iconst 1, 1) := by decide +kernel
theorem dX6_many_73 : decode cX6_many 73 = .ok (.goto 4, 3) := by decide +kernel
theorem dX6_many_76 : decode cX6_many 76 = .ok (.iconst 0, 1) := by decide +kernel
theorem dX6_many_77 : decode cX6_many 77 = .ok (.iadd, 1) := by decide +kernel
theorem dX6_many_78 : decode cX6_many 78 = .ok (.istore_n 2, 1) := by decide +kernel
theorem dX6_many_79 : decode cX6_many 79 = .ok (.iinc 5 1, 3) := by decide +kernel
theorem dX6_many_82 : decode cX6_many 82 = .ok (.goto (-35), 3) := by decide +kernel
theorem dX6_many_85 : decode cX6_many 85 = .ok (.iinc 4 1, 3) := by decide +kernel
theorem dX6_many_88 : decode cX6_many 88 = .ok (.goto (-53), 3) := by decide +kernel
theorem dX6_many_91 : decode cX6_many 91 = .ok (.iinc 3 1, 3) := by decide +kernel
theorem dX6_many_94 : decode cX6_many 94 = .ok (.goto (-70), 3) := by decide +kernel
theorem dX6_many_97 : decode cX6_many 97 = .ok (.iload_n 2, 1) := by decide +kernel
theorem dX6_many_98 : decode cX6_many 98 = .ok (.ireturn, 1) := by decide +kernel
set_option maxRecDepth 20000 in
theorem ggX6_first_X6_runsBare : GoodIn wsX6_first wsX6_runsBare := goodIn_r _ [7, 2, 8, 9, 10, 11, 12, 13, 14, 6, 15, 16, 17, 18, 19, 20, 21, 22, 65, 66, 67, 68, 69, 70, 71, 72, 73, 74, 75, 76, 77, 78, 79, 80, 81, 82, 83, 84, 85, 86, 87, 88, 89, 90] (by decide +kernel) (by decide +kernel)
set_option maxRecDepth 20000 in
theorem gX6_first_X6_runsBare : GoodIn wsX6_first (wsV RX6 106 RX6 yX6_runsBare wsX6_runsBare) := goodIn_app (goodIn_of _ (by decide +kernel)) ggX6_first_X6_runsBare
set_option maxRecDepth 20000 in
theorem ggX6_first_X6_copiesOf : GoodIn wsX6_first wsX6_copiesOf := goodIn_r _ [26, 27, 65, 66, 67, 68, 69, 70, 71, 72, 73, 74, 75, 76, 77, 78, 79, 80, 81, 82, 83, 84, 85, 86, 87, 88, 89, 90] (by decide +kernel) (by decide +kernel)
set_option maxRecDepth 20000 in
theorem gX6_first_X6_copiesOf : GoodIn wsX6_first (wsV RX6 114 RX6 yX6_copiesOf wsX6_copiesOf) := goodIn_app (goodIn_of _ (by decide +kernel)) ggX6_first_X6_copiesOf
set_option maxRecDepth 20000 in
theorem ggX6_first_X6_runsOne : GoodIn wsX6_first wsX6_runsOne := goodIn_r _ [31, 32, 33, 34, 35, 6, 36, 2, 37, 8, 1, 38, 9, 39, 40, 41, 42, 10, 11, 23, 24, 25, 26, 27, 43, 44, 45, 46, 12, 13, 14, 15, 16, 17, 18, 19, 47, 48, 49, 50, 51, 52, 53, 54, 20, 21, 22, 55, 56, 57, 58, 59, 60, 61, 62, 63, 64, 65, 66, 67, 68, 69, 70, 71, 72, 73, 74, 75, 76, 77, 78, 79, 80, 81, 82, 83, 84, 85, 86, 87, 88, 89, 90] (by decide +kernel) (by decide +kernel)
set_option maxRecDepth 20000 in
theorem gX6_first_X6_runsOne : GoodIn wsX6_first (wsV RX6 140 RX6 yX6_runsOne wsX6_runsOne) := goodIn_app (goodIn_of _ (by decide +kernel)) ggX6_first_X6_runsOne
theorem dX6_first_0 : decode cX6_first 0 = .ok (.aload_n 0, 1) := by decide +kernel
theorem dX6_first_1 : decode cX6_first 1 = .ok (.aload_n 0, 1) := by decide +kernel
theorem dX6_first_2 : decode cX6_first 2 = .ok (.getfield 35, 3) := by decide +kernel
theorem dX6_first_5 : decode cX6_first 5 = .ok (.invokevirtual 106, 3) := by decide +kernel
theorem dX6_first_8 : decode cX6_first 8 = .ok (.iconst 0, 1) := by decide +kernel
theorem dX6_first_9 : decode cX6_first 9 = .ok (.istore_n 1, 1) := by decide +kernel
theorem dX6_first_10 : decode cX6_first 10 = .ok (.iload_n 1, 1) := by decide +kernel
theorem dX6_first_11 : decode cX6_first 11 = .ok (.aload_n 0, 1) := by decide +kernel
theorem dX6_first_12 : decode cX6_first 12 = .ok (.getfield 35, 3) := by decide +kernel
theorem dX6_first_15 : decode cX6_first 15 = .ok (.if_icmp .ge 68, 3) := by decide +kernel
theorem dX6_first_18 : decode cX6_first 18 = .ok (.iconst 0, 1) := by decide +kernel
theorem dX6_first_19 : decode cX6_first 19 = .ok (.istore_n 2, 1) := by decide +kernel
theorem dX6_first_20 : decode cX6_first 20 = .ok (.iload_n 2, 1) := by decide +kernel
theorem dX6_first_21 : decode cX6_first 21 = .ok (.aload_n 0, 1) := by decide +kernel
theorem dX6_first_22 : decode cX6_first 22 = .ok (.getfield 78, 3) := by decide +kernel
theorem dX6_first_25 : decode cX6_first 25 = .ok (.if_icmp .ge 52, 3) := by decide +kernel
theorem dX6_first_28 : decode cX6_first 28 = .ok (.iconst 0, 1) := by decide +kernel
theorem dX6_first_29 : decode cX6_first 29 = .ok (.istore_n 3, 1) := by decide +kernel
theorem dX6_first_30 : decode cX6_first 30 = .ok (.iload_n 3, 1) := by decide +kernel
theorem dX6_first_31 : decode cX6_first 31 = .ok (.aload_n 0, 1) := by decide +kernel
theorem dX6_first_32 : decode cX6_first 32 = .ok (.iload_n 2, 1) := by decide +kernel
theorem dX6_first_33 : decode cX6_first 33 = .ok (.invokevirtual 114, 3) := by decide +kernel
theorem dX6_first_36 : decode cX6_first 36 = .ok (.if_icmp .ge 35, 3) := by decide +kernel
theorem dX6_first_39 : decode cX6_first 39 = .ok (.aload_n 0, 1) := by decide +kernel
theorem dX6_first_40 : decode cX6_first 40 = .ok (.iload_n 1, 1) := by decide +kernel
theorem dX6_first_41 : decode cX6_first 41 = .ok (.iload_n 2, 1) := by decide +kernel
theorem dX6_first_42 : decode cX6_first 42 = .ok (.iload_n 3, 1) := by decide +kernel
theorem dX6_first_43 : decode cX6_first 43 = .ok (.invokevirtual 140, 3) := by decide +kernel
theorem dX6_first_46 : decode cX6_first 46 = .ok (.iconst 2, 1) := by decide +kernel
theorem dX6_first_47 : decode cX6_first 47 = .ok (.irem, 1) := by decide +kernel
theorem dX6_first_48 : decode cX6_first 48 = .ok (.iconst 1, 1) := by decide +kernel
theorem dX6_first_49 : decode cX6_first 49 = .ok (.if_icmp .ne 16, 3) := by decide +kernel
theorem dX6_first_52 : decode cX6_first 52 = .ok (.sipush 10000, 3) := by decide +kernel
theorem dX6_first_55 : decode cX6_first 55 = .ok (.iload_n 1, 1) := by decide +kernel
theorem dX6_first_56 : decode cX6_first 56 = .ok (.imul, 1) := by decide +kernel
theorem dX6_first_57 : decode cX6_first 57 = .ok (.bipush 10, 2) := by decide +kernel
theorem dX6_first_59 : decode cX6_first 59 = .ok (.iload_n 2, 1) := by decide +kernel
theorem dX6_first_60 : decode cX6_first 60 = .ok (.imul, 1) := by decide +kernel
theorem dX6_first_61 : decode cX6_first 61 = .ok (.iadd, 1) := by decide +kernel
theorem dX6_first_62 : decode cX6_first 62 = .ok (.iload_n 3, 1) := by decide +kernel
theorem dX6_first_63 : decode cX6_first 63 = .ok (.iadd, 1) := by decide +kernel
theorem dX6_first_64 : decode cX6_first 64 = .ok (.ireturn, 1) := by decide +kernel
theorem dX6_first_65 : decode cX6_first 65 = .ok (.iinc 3 1, 3) := by decide +kernel
theorem dX6_first_68 : decode cX6_first 68 = .ok (.goto (-38), 3) := by decide +kernel
theorem dX6_first_71 : decode cX6_first 71 = .ok (.iinc 2 1, 3) := by decide +kernel
theorem dX6_first_74 : decode cX6_first 74 = .ok (.goto (-54), 3) := by decide +kernel
theorem dX6_first_77 : decode cX6_first 77 = .ok (.iinc 1 1, 3) := by decide +kernel
theorem dX6_first_80 : decode cX6_first 80 = .ok (.goto (-70), 3) := by decide +kernel
theorem dX6_first_83 : decode cX6_first 83 = .ok (.iconst (-1), 1) := by decide +kernel
theorem dX6_first_84 : decode cX6_first 84 = .ok (.ireturn, 1) := by decide +kernel
set_option maxRecDepth 20000 in
theorem ggX6_masked_X6_isNode : GoodIn wsX6_masked wsX6_isNode := goodIn_r _ [6, 7, 8, 9, 5, 10, 72, 73, 74, 75, 76, 77, 78, 79, 80, 81, 82, 83, 84, 85, 86, 87, 88, 89, 90, 91, 92, 93, 94, 95, 96, 97] (by decide +kernel) (by decide +kernel)
set_option maxRecDepth 20000 in
theorem gX6_masked_X6_isNode : GoodIn wsX6_masked (wsV RX6 85 RX6 yX6_isNode wsX6_isNode) := goodIn_app (goodIn_of _ (by decide +kernel)) ggX6_masked_X6_isNode
set_option maxRecDepth 20000 in
theorem ggX6_masked_X6_runsBare : GoodIn wsX6_masked wsX6_runsBare := goodIn_r _ [14, 7, 15, 16, 17, 18, 19, 20, 21, 5, 22, 23, 24, 25, 26, 27, 28, 29, 72, 73, 74, 75, 76, 77, 78, 79, 80, 81, 82, 83, 84, 85, 86, 87, 88, 89, 90, 91, 92, 93, 94, 95, 96, 97] (by decide +kernel) (by decide +kernel)
set_option maxRecDepth 20000 in
theorem gX6_masked_X6_runsBare : GoodIn wsX6_masked (wsV RX6 106 RX6 yX6_runsBare wsX6_runsBare) := goodIn_app (goodIn_of _ (by decide +kernel)) ggX6_masked_X6_runsBare
set_option maxRecDepth 20000 in
theorem ggX6_masked_X6_copiesOf : GoodIn wsX6_masked wsX6_copiesOf := goodIn_r _ [33, 34, 72, 73, 74, 75, 76, 77, 78, 79, 80, 81, 82, 83, 84, 85, 86, 87, 88, 89, 90, 91, 92, 93, 94, 95, 96, 97] (by decide +kernel) (by decide +kernel)
set_option maxRecDepth 20000 in
theorem gX6_masked_X6_copiesOf : GoodIn wsX6_masked (wsV RX6 114 RX6 yX6_copiesOf wsX6_copiesOf) := goodIn_app (goodIn_of _ (by decide +kernel)) ggX6_masked_X6_copiesOf
set_option maxRecDepth 20000 in
theorem ggX6_masked_X6_runsOne : GoodIn wsX6_masked wsX6_runsOne := goodIn_r _ [38, 39, 40, 41, 42, 5, 43, 7, 44, 15, 1, 45, 16, 46, 47, 48, 49, 17, 18, 30, 31, 32, 33, 34, 50, 51, 52, 53, 19, 20, 21, 22, 23, 24, 25, 26, 54, 55, 56, 57, 58, 59, 60, 61, 27, 28, 29, 62, 63, 64, 65, 66, 67, 68, 69, 70, 71, 72, 73, 74, 75, 76, 77, 78, 79, 80, 81, 82, 83, 84, 85, 86, 87, 88, 89, 90, 91, 92, 93, 94, 95, 96, 97] (by decide +kernel) (by decide +kernel)
set_option maxRecDepth 20000 in
theorem gX6_masked_X6_runsOne : GoodIn wsX6_masked (wsV RX6 140 RX6 yX6_runsOne wsX6_runsOne) := goodIn_app (goodIn_of _ (by decide +kernel)) ggX6_masked_X6_runsOne
theorem dX6_masked_0 : decode cX6_masked 0 = .ok (.aload_n 0, 1) := by decide +kernel
theorem dX6_masked_1 : decode cX6_masked 1 = .ok (.iload_n 1, 1) := by decide +kernel
theorem dX6_masked_2 : decode cX6_masked 2 = .ok (.invokevirtual 85, 3) := by decide +kernel
theorem dX6_masked_5 : decode cX6_masked 5 = .ok (.ifCond .ne 6, 3) := by decide +kernel
theorem dX6_masked_8 : decode cX6_masked 8 = .ok (.bipush (-2), 2) := by decide +kernel
theorem dX6_masked_10 : decode cX6_masked 10 = .ok (.ireturn, 1) := by decide +kernel
theorem dX6_masked_11 : decode cX6_masked 11 = .ok (.aload_n 0, 1) := by decide +kernel
theorem dX6_masked_12 : decode cX6_masked 12 = .ok (.aload_n 0, 1) := by decide +kernel
theorem dX6_masked_13 : decode cX6_masked 13 = .ok (.getfield 35, 3) := by decide +kernel
theorem dX6_masked_16 : decode cX6_masked 16 = .ok (.invokevirtual 106, 3) := by decide +kernel
theorem dX6_masked_19 : decode cX6_masked 19 = .ok (.iconst 0, 1) := by decide +kernel
theorem dX6_masked_20 : decode cX6_masked 20 = .ok (.istore_n 2, 1) := by decide +kernel
theorem dX6_masked_21 : decode cX6_masked 21 = .ok (.iload_n 2, 1) := by decide +kernel
theorem dX6_masked_22 : decode cX6_masked 22 = .ok (.aload_n 0, 1) := by decide +kernel
theorem dX6_masked_23 : decode cX6_masked 23 = .ok (.getfield 35, 3) := by decide +kernel
theorem dX6_masked_26 : decode cX6_masked 26 = .ok (.if_icmp .ge 41, 3) := by decide +kernel
theorem dX6_masked_29 : decode cX6_masked 29 = .ok (.iconst 0, 1) := by decide +kernel
theorem dX6_masked_30 : decode cX6_masked 30 = .ok (.istore_n 3, 1) := by decide +kernel
theorem dX6_masked_31 : decode cX6_masked 31 = .ok (.iload_n 3, 1) := by decide +kernel
theorem dX6_masked_32 : decode cX6_masked 32 = .ok (.aload_n 0, 1) := by decide +kernel
theorem dX6_masked_33 : decode cX6_masked 33 = .ok (.iload_n 1, 1) := by decide +kernel
theorem dX6_masked_34 : decode cX6_masked 34 = .ok (.invokevirtual 114, 3) := by decide +kernel
theorem dX6_masked_37 : decode cX6_masked 37 = .ok (.if_icmp .ge 24, 3) := by decide +kernel
theorem dX6_masked_40 : decode cX6_masked 40 = .ok (.aload_n 0, 1) := by decide +kernel
theorem dX6_masked_41 : decode cX6_masked 41 = .ok (.iload_n 2, 1) := by decide +kernel
theorem dX6_masked_42 : decode cX6_masked 42 = .ok (.iload_n 1, 1) := by decide +kernel
theorem dX6_masked_43 : decode cX6_masked 43 = .ok (.iload_n 3, 1) := by decide +kernel
theorem dX6_masked_44 : decode cX6_masked 44 = .ok (.invokevirtual 140, 3) := by decide +kernel
theorem dX6_masked_47 : decode cX6_masked 47 = .ok (.iconst 2, 1) := by decide +kernel
theorem dX6_masked_48 : decode cX6_masked 48 = .ok (.irem, 1) := by decide +kernel
theorem dX6_masked_49 : decode cX6_masked 49 = .ok (.iconst 1, 1) := by decide +kernel
theorem dX6_masked_50 : decode cX6_masked 50 = .ok (.if_icmp .ne 5, 3) := by decide +kernel
theorem dX6_masked_53 : decode cX6_masked 53 = .ok (.iconst 0, 1) := by decide +kernel
theorem dX6_masked_54 : decode cX6_masked 54 = .ok (.ireturn, 1) := by decide +kernel
theorem dX6_masked_55 : decode cX6_masked 55 = .ok (.iinc 3 1, 3) := by decide +kernel
theorem dX6_masked_58 : decode cX6_masked 58 = .ok (.goto (-27), 3) := by decide +kernel
theorem dX6_masked_61 : decode cX6_masked 61 = .ok (.iinc 2 1, 3) := by decide +kernel
theorem dX6_masked_64 : decode cX6_masked 64 = .ok (.goto (-43), 3) := by decide +kernel
theorem dX6_masked_67 : decode cX6_masked 67 = .ok (.iconst 1, 1) := by decide +kernel
theorem dX6_masked_68 : decode cX6_masked 68 = .ok (.ireturn, 1) := by decide +kernel
set_option maxRecDepth 20000 in
theorem ggX6_pairs_X6_in : GoodIn wsX6_pairs wsX6_in := goodIn_r _ [6] (by decide +kernel) (by decide +kernel)
set_option maxRecDepth 20000 in
theorem gX6_pairs_X6_in : GoodIn wsX6_pairs (va_wsS RX6 81 yX6_in wsX6_in) := goodIn_app (goodIn_of _ (by decide +kernel)) ggX6_pairs_X6_in
set_option maxRecDepth 20000 in
theorem ggX6_pairs_X6_runsBare : GoodIn wsX6_pairs wsX6_runsBare := goodIn_r _ [10, 2, 11, 12, 13, 14, 15, 16, 17, 5, 18, 19, 20, 21, 22, 23, 24, 25, 68, 69, 70, 71, 72, 73, 74, 75, 76, 77, 78, 79, 80, 81, 82, 83, 84, 85, 86, 87, 88, 89, 90, 91, 92, 93] (by decide +kernel) (by decide +kernel)
set_option maxRecDepth 20000 in
theorem gX6_pairs_X6_runsBare : GoodIn wsX6_pairs (wsV RX6 106 RX6 yX6_runsBare wsX6_runsBare) := goodIn_app (goodIn_of _ (by decide +kernel)) ggX6_pairs_X6_runsBare
set_option maxRecDepth 20000 in
theorem ggX6_pairs_X6_copiesOf : GoodIn wsX6_pairs wsX6_copiesOf := goodIn_r _ [29, 30, 68, 69, 70, 71, 72, 73, 74, 75, 76, 77, 78, 79, 80, 81, 82, 83, 84, 85, 86, 87, 88, 89, 90, 91, 92, 93] (by decide +kernel) (by decide +kernel)
set_option maxRecDepth 20000 in
theorem gX6_pairs_X6_copiesOf : GoodIn wsX6_pairs (wsV RX6 114 RX6 yX6_copiesOf wsX6_copiesOf) := goodIn_app (goodIn_of _ (by decide +kernel)) ggX6_pairs_X6_copiesOf
set_option maxRecDepth 20000 in
theorem ggX6_pairs_X6_runsTwo : GoodIn wsX6_pairs wsX6_runsTwo := goodIn_r _ [34, 35, 36, 37, 38, 5, 39, 2, 40, 11, 1, 41, 12, 42, 43, 44, 45, 13, 14, 26, 27, 28, 29, 30, 46, 47, 48, 49, 15, 16, 17, 18, 19, 20, 21, 22, 50, 51, 52, 53, 54, 55, 56, 57, 23, 24, 25, 58, 59, 60, 61, 62, 63, 64, 65, 66, 67, 68, 69, 70, 71, 72, 73, 74, 75, 76, 77, 78, 79, 80, 81, 82, 83, 84, 85, 86, 87, 88, 89, 90, 91, 92, 93] (by decide +kernel) (by decide +kernel)
set_option maxRecDepth 20000 in
theorem gX6_pairs_X6_runsTwo : GoodIn wsX6_pairs (wsV RX6 143 RX6 yX6_runsTwo wsX6_runsTwo) := goodIn_app (goodIn_of _ (by decide +kernel)) ggX6_pairs_X6_runsTwo
theorem dX6_pairs_0 : decode cX6_pairs 0 = .ok (.iload_n 1, 1) := by decide +kernel
theorem dX6_pairs_1 : decode cX6_pairs 1 = .ok (.iconst 0, 1) := by decide +kernel
theorem dX6_pairs_2 : decode cX6_pairs 2 = .ok (.aload_n 0, 1) := by decide +kernel
theorem dX6_pairs_3 : decode cX6_pairs 3 = .ok (.getfield 35, 3) := by decide +kernel
theorem dX6_pairs_6 : decode cX6_pairs 6 = .ok (.iconst 1, 1) := by decide +kernel
theorem dX6_pairs_7 : decode cX6_pairs 7 = .ok (.isub, 1) := by decide +kernel
theorem dX6_pairs_8 : decode cX6_pairs 8 = .ok (.invokestatic 81, 3) := by decide +kernel
theorem dX6_pairs_11 : decode cX6_pairs 11 = .ok (.ifCond .ne 6, 3) := by decide +kernel
theorem dX6_pairs_14 : decode cX6_pairs 14 = .ok (.bipush (-2), 2) := by decide +kernel
theorem dX6_pairs_16 : decode cX6_pairs 16 = .ok (.ireturn, 1) := by decide +kernel
theorem dX6_pairs_17 : decode cX6_pairs 17 = .ok (.aload_n 0, 1) := by decide +kernel
theorem dX6_pairs_18 : decode cX6_pairs 18 = .ok (.aload_n 0, 1) := by decide +kernel
theorem dX6_pairs_19 : decode cX6_pairs 19 = .ok (.getfield 35, 3) := by decide +kernel
theorem dX6_pairs_22 : decode cX6_pairs 22 = .ok (.invokevirtual 106, 3) := by decide +kernel
theorem dX6_pairs_25 : decode cX6_pairs 25 = .ok (.iconst 0, 1) := by decide +kernel
theorem dX6_pairs_26 : decode cX6_pairs 26 = .ok (.istore_n 2, 1) := by decide +kernel
theorem dX6_pairs_27 : decode cX6_pairs 27 = .ok (.iconst 0, 1) := by decide +kernel
theorem dX6_pairs_28 : decode cX6_pairs 28 = .ok (.istore_n 3, 1) := by decide +kernel
theorem dX6_pairs_29 : decode cX6_pairs 29 = .ok (.iload_n 3, 1) := by decide +kernel
theorem dX6_pairs_30 : decode cX6_pairs 30 = .ok (.iconst 3, 1) := by decide +kernel
theorem dX6_pairs_31 : decode cX6_pairs 31 = .ok (.aload_n 0, 1) := by decide +kernel
theorem dX6_pairs_32 : decode cX6_pairs 32 = .ok (.getfield 78, 3) := by decide +kernel
theorem dX6_pairs_35 : decode cX6_pairs 35 = .ok (.imul, 1) := by decide +kernel
theorem dX6_pairs_36 : decode cX6_pairs 36 = .ok (.if_icmp .ge 100, 3) := by decide +kernel
theorem dX6_pairs_39 : decode cX6_pairs 39 = .ok (.iload_n 3, 1) := by decide +kernel
theorem dX6_pairs_40 : decode cX6_pairs 40 = .ok (.iconst 1, 1) := by decide +kernel
theorem dX6_pairs_41 : decode cX6_pairs 41 = .ok (.iadd, 1) := by decide +kernel
theorem dX6_pairs_42 : decode cX6_pairs 42 = .ok (.istore 4, 2) := by decide +kernel
theorem dX6_pairs_44 : decode cX6_pairs 44 = .ok (.iload 4, 2) := by decide +kernel
theorem dX6_pairs_46 : decode cX6_pairs 46 = .ok (.iconst 3, 1) := by decide +kernel
theorem dX6_pairs_47 : decode cX6_pairs 47 = .ok (.aload_n 0, 1) := by decide +kernel
theorem dX6_pairs_48 : decode cX6_pairs 48 = .ok (.getfield 78, 3) := by decide +kernel
theorem dX6_pairs_51 : decode cX6_pairs 51 = .ok (.imul, 1) := by decide +kernel
theorem dX6_pairs_52 : decode cX6_pairs 52 = .ok (.if_icmp .ge 78, 3) := by decide +kernel
theorem dX6_pairs_55 : decode cX6_pairs 55 = .ok (.iload_n 3, 1) := by decide +kernel
theorem dX6_pairs_56 : decode cX6_pairs 56 = .ok (.iconst 3, 1) := by decide +kernel
theorem dX6_pairs_57 : decode cX6_pairs 57 = .ok (.irem, 1) := by decide +kernel
theorem dX6_pairs_58 : decode cX6_pairs 58 = .ok (.aload_n 0, 1) := by decide +kernel
theorem dX6_pairs_59 : decode cX6_pairs 59 = .ok (.iload_n 3, 1) := by decide +kernel
theorem dX6_pairs_60 : decode cX6_pairs 60 = .ok (.iconst 3, 1) := by decide +kernel
theorem dX6_pairs_61 : decode cX6_pairs 61 = .ok (.idiv, 1) := by decide +kernel
theorem dX6_pairs_62 : decode cX6_pairs 62 = .ok (.invokevirtual 114, 3) := by decide +kernel
theorem dX6_pairs_65 : decode cX6_pairs 65 = .ok (.if_icmp .ge 22, 3) := by decide +kernel
theorem dX6_pairs_68 : decode cX6_pairs 68 = .ok (.iload 4, 2) := by decide +kernel
theorem dX6_pairs_70 : decode cX6_pairs 70 = .ok (.iconst 3, 1) := by decide +kernel
theorem dX6_pairs_71 : decode cX6_pairs 71 = .ok (.irem, 1) := by decide +kernel
theorem dX6_pairs_72 : decode cX6_pairs 72 = .ok (.aload_n 0, 1) := by decide +kernel
theorem dX6_pairs_73 : decode cX6_pairs 73 = .ok (.iload 4, 2) := by decide +kernel
theorem dX6_pairs_75 : decode cX6_pairs 75 = .ok (.iconst 3, 1) := by decide +kernel
theorem dX6_pairs_76 : decode cX6_pairs 76 = .ok (.idiv, 1) := by decide +kernel
theorem dX6_pairs_77 : decode cX6_pairs 77 = .ok (.invokevirtual 114, 3) := by decide +kernel
theorem dX6_pairs_80 : decode cX6_pairs 80 = .ok (.if_icmp .ge 7, 3) := by decide +kernel
theorem dX6_pairs_83 : decode cX6_pairs 83 = .ok (.iconst 1, 1) := by decide +kernel
theorem dX6_pairs_84 : decode cX6_pairs 84 = .ok (.goto 4, 3) := by decide +kernel
theorem dX6_pairs_87 : decode cX6_pairs 87 = .ok (.iconst 0, 1) := by decide +kernel
theorem dX6_pairs_88 : decode cX6_pairs 88 = .ok (.istore 5, 2) := by decide +kernel
theorem dX6_pairs_90 : decode cX6_pairs 90 = .ok (.iload_n 2, 1) := by decide +kernel
theorem dX6_pairs_91 : decode cX6_pairs 91 = .ok (.iload 5, 2) := by decide +kernel
theorem dX6_pairs_93 : decode cX6_pairs 93 = .ok (.ifCond .eq 28, 3) := by decide +kernel
theorem dX6_pairs_96 : decode cX6_pairs 96 = .ok (.aload_n 0, 1) := by decide +kernel
theorem dX6_pairs_97 : decode cX6_pairs 97 = .ok (.iload_n 3, 1) := by decide +kernel
theorem dX6_pairs_98 : decode cX6_pairs 98 = .ok (.iconst 3, 1) := by decide +kernel
theorem dX6_pairs_99 : decode cX6_pairs 99 = .ok (.idiv, 1) := by decide +kernel
theorem dX6_pairs_100 : decode cX6_pairs 100 = .ok (.iload_n 3, 1) := by decide +kernel
theorem dX6_pairs_101 : decode cX6_pairs 101 = .ok (.iconst 3, 1) := by decide +kernel
theorem dX6_pairs_102 : decode cX6_pairs 102 = .ok (.irem, 1) := by decide +kernel
theorem dX6_pairs_103 : decode cX6_pairs 103 = .ok (.iload_n 1, 1) := by decide +kernel
theorem dX6_pairs_104 : decode cX6_pairs 104 = .ok (.iload 4, 2) := by decide +kernel
theorem dX6_pairs_106 : decode cX6_pairs 106 = .ok (.iconst 3, 1) := by decide +kernel
theorem dX6_pairs_107 : decode cX6_pairs 107 = .ok (.idiv, 1) := by decide +kernel
theorem dX6_pairs_108 : decode cX6_pairs 108 = .ok (.iload 4, 2) := by decide +kernel
theorem dX6_pairs_110 : decode cX6_pairs 110 = .ok (.iconst 3, 1) := by decide +kernel
theorem dX6_pairs_111 : decode cX6_pairs 111 = .ok (.irem, 1) := by decide +kernel
theorem dX6_pairs_112 : decode cX6_pairs 112 = .ok (.iload_n 1, 1) := by decide +kernel
theorem dX6_pairs_113 : decode cX6_pairs 113 = .ok (.invokevirtual 143, 3) := by decide +kernel
theorem dX6_pairs_116 : decode cX6_pairs 116 = .ok (.iconst 2, 1) := by decide +kernel
theorem dX6_pairs_117 : decode cX6_pairs 117 = .ok (.irem, 1) := by decide +kernel
theorem dX6_pairs_118 : decode cX6_pairs 118 = .ok (.goto 4, 3) := by decide +kernel
theorem dX6_pairs_121 : decode cX6_pairs 121 = .ok (.iconst 0, 1) := by decide +kernel
theorem dX6_pairs_122 : decode cX6_pairs 122 = .ok (.iadd, 1) := by decide +kernel
theorem dX6_pairs_123 : decode cX6_pairs 123 = .ok (.istore_n 2, 1) := by decide +kernel
theorem dX6_pairs_124 : decode cX6_pairs 124 = .ok (.iinc 4 1, 3) := by decide +kernel
theorem dX6_pairs_127 : decode cX6_pairs 127 = .ok (.goto (-83), 3) := by decide +kernel
theorem dX6_pairs_130 : decode cX6_pairs 130 = .ok (.iinc 3 1, 3) := by decide +kernel
theorem dX6_pairs_133 : decode cX6_pairs 133 = .ok (.goto (-104), 3) := by decide +kernel
theorem dX6_pairs_136 : decode cX6_pairs 136 = .ok (.iload_n 2, 1) := by decide +kernel
theorem dX6_pairs_137 : decode cX6_pairs 137 = .ok (.ireturn, 1) := by decide +kernel
theorem dX6_reach_0 : decode cX6_reach 0 = .ok (.iconst 0, 1) := by decide +kernel
theorem dX6_reach_1 : decode cX6_reach 1 = .ok (.istore_n 1, 1) := by decide +kernel
theorem dX6_reach_2 : decode cX6_reach 2 = .ok (.iload_n 1, 1) := by decide +kernel
theorem dX6_reach_3 : decode cX6_reach 3 = .ok (.aload_n 0, 1) := by decide +kernel
theorem dX6_reach_4 : decode cX6_reach 4 = .ok (.getfield 78, 3) := by decide +kernel
theorem dX6_reach_7 : decode cX6_reach 7 = .ok (.if_icmp .ge 104, 3) := by decide +kernel
theorem dX6_reach_10 : decode cX6_reach 10 = .ok (.aload_n 0, 1) := by decide +kernel
theorem dX6_reach_11 : decode cX6_reach 11 = .ok (.getfield 7, 3) := by decide +kernel
theorem dX6_reach_14 : decode cX6_reach 14 = .ok (.iload_n 1, 1) := by decide +kernel
theorem dX6_reach_15 : decode cX6_reach 15 = .ok (.iaload, 1) := by decide +kernel
theorem dX6_reach_16 : decode cX6_reach 16 = .ok (.iconst 5, 1) := by decide +kernel
theorem dX6_reach_17 : decode cX6_reach 17 = .ok (.if_icmp .ne 32, 3) := by decide +kernel
theorem dX6_reach_20 : decode cX6_reach 20 = .ok (.aload_n 0, 1) := by decide +kernel
theorem dX6_reach_21 : decode cX6_reach 21 = .ok (.getfield 54, 3) := by decide +kernel
theorem dX6_reach_24 : decode cX6_reach 24 = .ok (.iload_n 1, 1) := by decide +kernel
theorem dX6_reach_25 : decode cX6_reach 25 = .ok (.iconst 1, 1) := by decide +kernel
theorem dX6_reach_26 : decode cX6_reach 26 = .ok (.aload_n 0, 1) := by decide +kernel
theorem dX6_reach_27 : decode cX6_reach 27 = .ok (.getfield 32, 3) := by decide +kernel
theorem dX6_reach_30 : decode cX6_reach 30 = .ok (.iload_n 1, 1) := by decide +kernel
theorem dX6_reach_31 : decode cX6_reach 31 = .ok (.iaload, 1) := by decide +kernel
theorem dX6_reach_32 : decode cX6_reach 32 = .ok (.ishl, 1) := by decide +kernel
theorem dX6_reach_33 : decode cX6_reach 33 = .ok (.iastore, 1) := by decide +kernel
theorem dX6_reach_34 : decode cX6_reach 34 = .ok (.aload_n 0, 1) := by decide +kernel
theorem dX6_reach_35 : decode cX6_reach 35 = .ok (.getfield 57, 3) := by decide +kernel
theorem dX6_reach_38 : decode cX6_reach 38 = .ok (.aload_n 0, 1) := by decide +kernel
theorem dX6_reach_39 : decode cX6_reach 39 = .ok (.getfield 32, 3) := by decide +kernel
theorem dX6_reach_42 : decode cX6_reach 42 = .ok (.iload_n 1, 1) := by decide +kernel
theorem dX6_reach_43 : decode cX6_reach 43 = .ok (.iaload, 1) := by decide +kernel
theorem dX6_reach_44 : decode cX6_reach 44 = .ok (.iload_n 1, 1) := by decide +kernel
theorem dX6_reach_45 : decode cX6_reach 45 = .ok (.iastore, 1) := by decide +kernel
theorem dX6_reach_46 : decode cX6_reach 46 = .ok (.goto 59, 3) := by decide +kernel
theorem dX6_reach_49 : decode cX6_reach 49 = .ok (.aload_n 0, 1) := by decide +kernel
theorem dX6_reach_50 : decode cX6_reach 50 = .ok (.getfield 54, 3) := by decide +kernel
theorem dX6_reach_53 : decode cX6_reach 53 = .ok (.iload_n 1, 1) := by decide +kernel
theorem dX6_reach_54 : decode cX6_reach 54 = .ok (.aload_n 0, 1) := by decide +kernel
theorem dX6_reach_55 : decode cX6_reach 55 = .ok (.getfield 7, 3) := by decide +kernel
theorem dX6_reach_58 : decode cX6_reach 58 = .ok (.iload_n 1, 1) := by decide +kernel
theorem dX6_reach_59 : decode cX6_reach 59 = .ok (.iaload, 1) := by decide +kernel
theorem dX6_reach_60 : decode cX6_reach 60 = .ok (.ifCond .ne 7, 3) := by decide +kernel
theorem dX6_reach_63 : decode cX6_reach 63 = .ok (.iconst 0, 1) := by decide +kernel
theorem dX6_reach_64 : decode cX6_reach 64 = .ok (.goto 40, 3) := by decide +kernel
theorem dX6_reach_67 : decode cX6_reach 67 = .ok (.aload_n 0, 1) := by decide +kernel
theorem dX6_reach_68 : decode cX6_reach 68 = .ok (.getfield 54, 3) := by decide +kernel
theorem dX6_reach_71 : decode cX6_reach 71 = .ok (.aload_n 0, 1) := by decide +kernel
theorem dX6_reach_72 : decode cX6_reach 72 = .ok (.getfield 13, 3) := by decide +kernel
theorem dX6_reach_75 : decode cX6_reach 75 = .ok (.iload_n 1, 1) := by decide +kernel
theorem dX6_reach_76 : decode cX6_reach 76 = .ok (.iaload, 1) := by decide +kernel
theorem dX6_reach_77 : decode cX6_reach 77 = .ok (.iaload, 1) := by decide +kernel
theorem dX6_reach_78 : decode cX6_reach 78 = .ok (.aload_n 0, 1) := by decide +kernel
theorem dX6_reach_79 : decode cX6_reach 79 = .ok (.getfield 16, 3) := by decide +kernel
theorem dX6_reach_82 : decode cX6_reach 82 = .ok (.iload_n 1, 1) := by decide +kernel
theorem dX6_reach_83 : decode cX6_reach 83 = .ok (.iaload, 1) := by decide +kernel
theorem dX6_reach_84 : decode cX6_reach 84 = .ok (.iconst (-1), 1) := by decide +kernel
theorem dX6_reach_85 : decode cX6_reach 85 = .ok (.if_icmp .ne 7, 3) := by decide +kernel
theorem dX6_reach_88 : decode cX6_reach 88 = .ok (.iconst 0, 1) := by decide +kernel
theorem dX6_reach_89 : decode cX6_reach 89 = .ok (.goto 14, 3) := by decide +kernel
theorem dX6_reach_92 : decode cX6_reach 92 = .ok (.aload_n 0, 1) := by decide +kernel
theorem dX6_reach_93 : decode cX6_reach 93 = .ok (.getfield 54, 3) := by decide +kernel
theorem dX6_reach_96 : decode cX6_reach 96 = .ok (.aload_n 0, 1) := by decide +kernel
theorem dX6_reach_97 : decode cX6_reach 97 = .ok (.getfield 16, 3) := by decide +kernel
theorem dX6_reach_100 : decode cX6_reach 100 = .ok (.iload_n 1, 1) := by decide +kernel
theorem dX6_reach_101 : decode cX6_reach 101 = .ok (.iaload, 1) := by decide +kernel
theorem dX6_reach_102 : decode cX6_reach 102 = .ok (.iaload, 1) := by decide +kernel
theorem dX6_reach_103 : decode cX6_reach 103 = .ok (.ior, 1) := by decide +kernel
theorem dX6_reach_104 : decode cX6_reach 104 = .ok (.iastore, 1) := by decide +kernel
theorem dX6_reach_105 : decode cX6_reach 105 = .ok (.iinc 1 1, 3) := by decide +kernel
theorem dX6_reach_108 : decode cX6_reach 108 = .ok (.goto (-106), 3) := by decide +kernel
theorem dX6_reach_111 : decode cX6_reach 111 = .ok (.return_, 1) := by decide +kernel
set_option maxRecDepth 20000 in
theorem ggX6_leads_X6_in : GoodIn wsX6_leads wsX6_in := goodIn_r _ [8] (by decide +kernel) (by decide +kernel)
set_option maxRecDepth 20000 in
theorem gX6_leads_X6_in : GoodIn wsX6_leads (va_wsS RX6 81 yX6_in wsX6_in) := goodIn_app (goodIn_of _ (by decide +kernel)) ggX6_leads_X6_in
set_option maxRecDepth 20000 in
theorem ggX6_leads_X6_reach : GoodIn wsX6_leads wsX6_reach := goodIn_r _ [12, 13, 14, 2, 15, 4, 3, 16, 17, 18, 19, 20, 21, 22, 23, 24, 25, 26, 27, 28, 29, 30, 31, 32, 33, 34, 35, 36, 37, 38, 39, 40, 41, 42] (by decide +kernel) (by decide +kernel)
set_option maxRecDepth 20000 in
theorem gX6_leads_X6_reach : GoodIn wsX6_leads (wsV RX6 147 RX6 yX6_reach wsX6_reach) := goodIn_app (goodIn_of _ (by decide +kernel)) ggX6_leads_X6_reach
theorem dX6_leads_0 : decode cX6_leads 0 = .ok (.iload_n 1, 1) := by decide +kernel
theorem dX6_leads_1 : decode cX6_leads 1 = .ok (.iconst 0, 1) := by decide +kernel
theorem dX6_leads_2 : decode cX6_leads 2 = .ok (.aload_n 0, 1) := by decide +kernel
theorem dX6_leads_3 : decode cX6_leads 3 = .ok (.getfield 92, 3) := by decide +kernel
theorem dX6_leads_6 : decode cX6_leads 6 = .ok (.iconst 1, 1) := by decide +kernel
theorem dX6_leads_7 : decode cX6_leads 7 = .ok (.isub, 1) := by decide +kernel
theorem dX6_leads_8 : decode cX6_leads 8 = .ok (.invokestatic 81, 3) := by decide +kernel
theorem dX6_leads_11 : decode cX6_leads 11 = .ok (.ifCond .eq 17, 3) := by decide +kernel
theorem dX6_leads_14 : decode cX6_leads 14 = .ok (.iload_n 2, 1) := by decide +kernel
theorem dX6_leads_15 : decode cX6_leads 15 = .ok (.iconst 0, 1) := by decide +kernel
theorem dX6_leads_16 : decode cX6_leads 16 = .ok (.aload_n 0, 1) := by decide +kernel
theorem dX6_leads_17 : decode cX6_leads 17 = .ok (.getfield 92, 3) := by decide +kernel
theorem dX6_leads_20 : decode cX6_leads 20 = .ok (.iconst 1, 1) := by decide +kernel
theorem dX6_leads_21 : decode cX6_leads 21 = .ok (.isub, 1) := by decide +kernel
theorem dX6_leads_22 : decode cX6_leads 22 = .ok (.invokestatic 81, 3) := by decide +kernel
theorem dX6_leads_25 : decode cX6_leads 25 = .ok (.ifCond .ne 6, 3) := by decide +kernel
theorem dX6_leads_28 : decode cX6_leads 28 = .ok (.bipush (-2), 2) := by decide +kernel
theorem dX6_leads_30 : decode cX6_leads 30 = .ok (.ireturn, 1) := by decide +kernel
theorem dX6_leads_31 : decode cX6_leads 31 = .ok (.aload_n 0, 1) := by decide +kernel
theorem dX6_leads_32 : decode cX6_leads 32 = .ok (.invokevirtual 147, 3) := by decide +kernel
theorem dX6_leads_35 : decode cX6_leads 35 = .ok (.aload_n 0, 1) := by decide +kernel
theorem dX6_leads_36 : decode cX6_leads 36 = .ok (.getfield 54, 3) := by decide +kernel
theorem dX6_leads_39 : decode cX6_leads 39 = .ok (.aload_n 0, 1) := by decide +kernel
theorem dX6_leads_40 : decode cX6_leads 40 = .ok (.getfield 13, 3) := by decide +kernel
theorem dX6_leads_43 : decode cX6_leads 43 = .ok (.aload_n 0, 1) := by decide +kernel
theorem dX6_leads_44 : decode cX6_leads 44 = .ok (.getfield 57, 3) := by decide +kernel
theorem dX6_leads_47 : decode cX6_leads 47 = .ok (.iload_n 2, 1) := by decide +kernel
theorem dX6_leads_48 : decode cX6_leads 48 = .ok (.iaload, 1) := by decide +kernel
theorem dX6_leads_49 : decode cX6_leads 49 = .ok (.iaload, 1) := by decide +kernel
theorem dX6_leads_50 : decode cX6_leads 50 = .ok (.iaload, 1) := by decide +kernel
theorem dX6_leads_51 : decode cX6_leads 51 = .ok (.iload_n 1, 1) := by decide +kernel
theorem dX6_leads_52 : decode cX6_leads 52 = .ok (.ishr, 1) := by decide +kernel
theorem dX6_leads_53 : decode cX6_leads 53 = .ok (.iconst 1, 1) := by decide +kernel
theorem dX6_leads_54 : decode cX6_leads 54 = .ok (.iand, 1) := by decide +kernel
theorem dX6_leads_55 : decode cX6_leads 55 = .ok (.ireturn, 1) := by decide +kernel
theorem dX6_isBroken_0 : decode cX6_isBroken 0 = .ok (.iconst 1, 1) := by decide +kernel
theorem dX6_isBroken_1 : decode cX6_isBroken 1 = .ok (.aload_n 0, 1) := by decide +kernel
theorem dX6_isBroken_2 : decode cX6_isBroken 2 = .ok (.getfield 92, 3) := by decide +kernel
theorem dX6_isBroken_5 : decode cX6_isBroken 5 = .ok (.ishl, 1) := by decide +kernel
theorem dX6_isBroken_6 : decode cX6_isBroken 6 = .ok (.iconst 1, 1) := by decide +kernel
theorem dX6_isBroken_7 : decode cX6_isBroken 7 = .ok (.isub, 1) := by decide +kernel
theorem dX6_isBroken_8 : decode cX6_isBroken 8 = .ok (.iload_n 1, 1) := by decide +kernel
theorem dX6_isBroken_9 : decode cX6_isBroken 9 = .ok (.iconst (-1), 1) := by decide +kernel
theorem dX6_isBroken_10 : decode cX6_isBroken 10 = .ok (.ixor, 1) := by decide +kernel
theorem dX6_isBroken_11 : decode cX6_isBroken 11 = .ok (.iand, 1) := by decide +kernel
theorem dX6_isBroken_12 : decode cX6_isBroken 12 = .ok (.istore_n 2, 1) := by decide +kernel
theorem dX6_isBroken_13 : decode cX6_isBroken 13 = .ok (.iconst 1, 1) := by decide +kernel
theorem dX6_isBroken_14 : decode cX6_isBroken 14 = .ok (.istore_n 3, 1) := by decide +kernel
theorem dX6_isBroken_15 : decode cX6_isBroken 15 = .ok (.iload_n 3, 1) := by decide +kernel
theorem dX6_isBroken_16 : decode cX6_isBroken 16 = .ok (.ifCond .eq 69, 3) := by decide +kernel
theorem dX6_isBroken_19 : decode cX6_isBroken 19 = .ok (.iconst 0, 1) := by decide +kernel
theorem dX6_isBroken_20 : decode cX6_isBroken 20 = .ok (.istore_n 3, 1) := by decide +kernel
theorem dX6_isBroken_21 : decode cX6_isBroken 21 = .ok (.iconst 0, 1) := by decide +kernel
theorem dX6_isBroken_22 : decode cX6_isBroken 22 = .ok (.istore 4, 2) := by decide +kernel
theorem dX6_isBroken_24 : decode cX6_isBroken 24 = .ok (.iload 4, 2) := by decide +kernel
theorem dX6_isBroken_26 : decode cX6_isBroken 26 = .ok (.aload_n 0, 1) := by decide +kernel
theorem dX6_isBroken_27 : decode cX6_isBroken 27 = .ok (.getfield 92, 3) := by decide +kernel
theorem dX6_isBroken_30 : decode cX6_isBroken 30 = .ok (.if_icmp .ge 52, 3) := by decide +kernel
theorem dX6_isBroken_33 : decode cX6_isBroken 33 = .ok (.iload_n 2, 1) := by decide +kernel
theorem dX6_isBroken_34 : decode cX6_isBroken 34 = .ok (.iload 4, 2) := by decide +kernel
theorem dX6_isBroken_36 : decode cX6_isBroken 36 = .ok (.ishr, 1) := by decide +kernel
theorem dX6_isBroken_37 : decode cX6_isBroken 37 = .ok (.iconst 1, 1) := by decide +kernel
theorem dX6_isBroken_38 : decode cX6_isBroken 38 = .ok (.iand, 1) := by decide +kernel
theorem dX6_isBroken_39 : decode cX6_isBroken 39 = .ok (.iconst 1, 1) := by decide +kernel
theorem dX6_isBroken_40 : decode cX6_isBroken 40 = .ok (.if_icmp .ne 36, 3) := by decide +kernel
theorem dX6_isBroken_43 : decode cX6_isBroken 43 = .ok (.aload_n 0, 1) := by decide +kernel
theorem dX6_isBroken_44 : decode cX6_isBroken 44 = .ok (.getfield 54, 3) := by decide +kernel
theorem dX6_isBroken_47 : decode cX6_isBroken 47 = .ok (.aload_n 0, 1) := by decide +kernel
theorem dX6_isBroken_48 : decode cX6_isBroken 48 = .ok (.getfield 13, 3) := by decide +kernel
theorem dX6_isBroken_51 : decode cX6_isBroken 51 = .ok (.aload_n 0, 1) := by decide +kernel
theorem dX6_isBroken_52 : decode cX6_isBroken 52 = .ok (.getfield 57, 3) := by decide +kernel
theorem dX6_isBroken_55 : decode cX6_isBroken 55 = .ok (.iload 4, 2) := by decide +kernel
theorem dX6_isBroken_57 : decode cX6_isBroken 57 = .ok (.iaload, 1) := by decide +kernel
theorem dX6_isBroken_58 : decode cX6_isBroken 58 = .ok (.iaload, 1) := by decide +kernel
theorem dX6_isBroken_59 : decode cX6_isBroken 59 = .ok (.iaload, 1) := by decide +kernel
theorem dX6_isBroken_60 : decode cX6_isBroken 60 = .ok (.iload_n 2, 1) := by decide +kernel
theorem dX6_isBroken_61 : decode cX6_isBroken 61 = .ok (.iand, 1) := by decide +kernel
theorem dX6_isBroken_62 : decode cX6_isBroken 62 = .ok (.ifCond .ne 14, 3) := by decide +kernel
theorem dX6_isBroken_65 : decode cX6_isBroken 65 = .ok (.iload_n 2, 1) := by decide +kernel
theorem dX6_isBroken_66 : decode cX6_isBroken 66 = .ok (.iconst 1, 1) := by decide +kernel
theorem dX6_isBroken_67 : decode cX6_isBroken 67 = .ok (.iload 4, 2) := by decide +kernel
theorem dX6_isBroken_69 : decode cX6_isBroken 69 = .ok (.ishl, 1) := by decide +kernel
theorem dX6_isBroken_70 : decode cX6_isBroken 70 = .ok (.iconst (-1), 1) := by decide +kernel
theorem dX6_isBroken_71 : decode cX6_isBroken 71 = .ok (.ixor, 1) := by decide +kernel
theorem dX6_isBroken_72 : decode cX6_isBroken 72 = .ok (.iand, 1) := by decide +kernel
theorem dX6_isBroken_73 : decode cX6_isBroken 73 = .ok (.istore_n 2, 1) := by decide +kernel
theorem dX6_isBroken_74 : decode cX6_isBroken 74 = .ok (.iconst 1, 1) := by decide +kernel
theorem dX6_isBroken_75 : decode cX6_isBroken 75 = .ok (.istore_n 3, 1) := by decide +kernel
theorem dX6_isBroken_76 : decode cX6_isBroken 76 = .ok (.iinc 4 1, 3) := by decide +kernel
theorem dX6_isBroken_79 : decode cX6_isBroken 79 = .ok (.goto (-55), 3) := by decide +kernel
theorem dX6_isBroken_82 : decode cX6_isBroken 82 = .ok (.goto (-67), 3) := by decide +kernel
theorem dX6_isBroken_85 : decode cX6_isBroken 85 = .ok (.iload_n 2, 1) := by decide +kernel
theorem dX6_isBroken_86 : decode cX6_isBroken 86 = .ok (.ifCond .ne 7, 3) := by decide +kernel
theorem dX6_isBroken_89 : decode cX6_isBroken 89 = .ok (.iconst 1, 1) := by decide +kernel
theorem dX6_isBroken_90 : decode cX6_isBroken 90 = .ok (.goto 4, 3) := by decide +kernel
theorem dX6_isBroken_93 : decode cX6_isBroken 93 = .ok (.iconst 0, 1) := by decide +kernel
theorem dX6_isBroken_94 : decode cX6_isBroken 94 = .ok (.ireturn, 1) := by decide +kernel
set_option maxRecDepth 20000 in
theorem ggX6_breaks_X6_reach : GoodIn wsX6_breaks wsX6_reach := goodIn_r _ [6, 7, 8, 9, 10, 11, 12, 13, 18, 19, 20, 21, 22, 23, 24, 25, 26, 27, 28, 29, 30, 31, 32, 33, 34, 35, 36, 37, 38, 39, 40, 41, 42, 43] (by decide +kernel) (by decide +kernel)
set_option maxRecDepth 20000 in
theorem gX6_breaks_X6_reach : GoodIn wsX6_breaks (wsV RX6 147 RX6 yX6_reach wsX6_reach) := goodIn_app (goodIn_of _ (by decide +kernel)) ggX6_breaks_X6_reach
set_option maxRecDepth 20000 in
theorem ggX6_breaks_X6_isBroken : GoodIn wsX6_breaks wsX6_isBroken := goodIn_r _ [17, 1, 9, 12, 11, 18, 19, 20, 21, 22, 23, 24, 25, 26, 27, 28, 29, 30, 31, 32, 33, 34, 35, 36, 37, 38, 39, 40, 41, 42, 43] (by decide +kernel) (by decide +kernel)
set_option maxRecDepth 20000 in
theorem gX6_breaks_X6_isBroken : GoodIn wsX6_breaks (wsV RX6 150 RX6 yX6_isBroken wsX6_isBroken) := goodIn_app (goodIn_of _ (by decide +kernel)) ggX6_breaks_X6_isBroken
theorem dX6_breaks_0 : decode cX6_breaks 0 = .ok (.iload_n 1, 1) := by decide +kernel
theorem dX6_breaks_1 : decode cX6_breaks 1 = .ok (.ifCond .lt 13, 3) := by decide +kernel
theorem dX6_breaks_4 : decode cX6_breaks 4 = .ok (.iload_n 1, 1) := by decide +kernel
theorem dX6_breaks_5 : decode cX6_breaks 5 = .ok (.iconst 1, 1) := by decide +kernel
theorem dX6_breaks_6 : decode cX6_breaks 6 = .ok (.aload_n 0, 1) := by decide +kernel
theorem dX6_breaks_7 : decode cX6_breaks 7 = .ok (.getfield 92, 3) := by decide +kernel
theorem dX6_breaks_10 : decode cX6_breaks 10 = .ok (.ishl, 1) := by decide +kernel
theorem dX6_breaks_11 : decode cX6_breaks 11 = .ok (.if_icmp .lt 6, 3) := by decide +kernel
theorem dX6_breaks_14 : decode cX6_breaks 14 = .ok (.bipush (-2), 2) := by decide +kernel
theorem dX6_breaks_16 : decode cX6_breaks 16 = .ok (.ireturn, 1) := by decide +kernel
theorem dX6_breaks_17 : decode cX6_breaks 17 = .ok (.aload_n 0, 1) := by decide +kernel
theorem dX6_breaks_18 : decode cX6_breaks 18 = .ok (.getfield 92, 3) := by decide +kernel
theorem dX6_breaks_21 : decode cX6_breaks 21 = .ok (.bipush 12, 2) := by decide +kernel
theorem dX6_breaks_23 : decode cX6_breaks 23 = .ok (.if_icmp .le 6, 3) := by decide +kernel
theorem dX6_breaks_26 : decode cX6_breaks 26 = .ok (.bipush (-3), 2) := by decide +kernel
theorem dX6_breaks_28 : decode cX6_breaks 28 = .ok (.ireturn, 1) := by decide +kernel
theorem dX6_breaks_29 : decode cX6_breaks 29 = .ok (.aload_n 0, 1) := by decide +kernel
theorem dX6_breaks_30 : decode cX6_breaks 30 = .ok (.invokevirtual 147, 3) := by decide +kernel
theorem dX6_breaks_33 : decode cX6_breaks 33 = .ok (.aload_n 0, 1) := by decide +kernel
theorem dX6_breaks_34 : decode cX6_breaks 34 = .ok (.iload_n 1, 1) := by decide +kernel
theorem dX6_breaks_35 : decode cX6_breaks 35 = .ok (.invokevirtual 150, 3) := by decide +kernel
theorem dX6_breaks_38 : decode cX6_breaks 38 = .ok (.ifCond .eq 7, 3) := by decide +kernel
theorem dX6_breaks_41 : decode cX6_breaks 41 = .ok (.iconst 1, 1) := by decide +kernel
theorem dX6_breaks_42 : decode cX6_breaks 42 = .ok (.goto 4, 3) := by decide +kernel
theorem dX6_breaks_45 : decode cX6_breaks 45 = .ok (.iconst 0, 1) := by decide +kernel
theorem dX6_breaks_46 : decode cX6_breaks 46 = .ok (.ireturn, 1) := by decide +kernel
theorem dX6_priceOf_0 : decode cX6_priceOf 0 = .ok (.iconst 0, 1) := by decide +kernel
theorem dX6_priceOf_1 : decode cX6_priceOf 1 = .ok (.istore_n 2, 1) := by decide +kernel
theorem dX6_priceOf_2 : decode cX6_priceOf 2 = .ok (.iconst 0, 1) := by decide +kernel
theorem dX6_priceOf_3 : decode cX6_priceOf 3 = .ok (.istore_n 3, 1) := by decide +kernel
theorem dX6_priceOf_4 : decode cX6_priceOf 4 = .ok (.iload_n 3, 1) := by decide +kernel
theorem dX6_priceOf_5 : decode cX6_priceOf 5 = .ok (.aload_n 0, 1) := by decide +kernel
theorem dX6_priceOf_6 : decode cX6_priceOf 6 = .ok (.getfield 92, 3) := by decide +kernel
theorem dX6_priceOf_9 : decode cX6_priceOf 9 = .ok (.if_icmp .ge 36, 3) := by decide +kernel
theorem dX6_priceOf_12 : decode cX6_priceOf 12 = .ok (.iload_n 2, 1) := by decide +kernel
theorem dX6_priceOf_13 : decode cX6_priceOf 13 = .ok (.iload_n 1, 1) := by decide +kernel
theorem dX6_priceOf_14 : decode cX6_priceOf 14 = .ok (.iload_n 3, 1) := by decide +kernel
theorem dX6_priceOf_15 : decode cX6_priceOf 15 = .ok (.ishr, 1) := by decide +kernel
theorem dX6_priceOf_16 : decode cX6_priceOf 16 = .ok (.iconst 1, 1) := by decide +kernel
theorem dX6_priceOf_17 : decode cX6_priceOf 17 = .ok (.iand, 1) := by decide +kernel
theorem dX6_priceOf_18 : decode cX6_priceOf 18 = .ok (.iconst 1, 1) := by decide +kernel
theorem dX6_priceOf_19 : decode cX6_priceOf 19 = .ok (.if_icmp .ne 17, 3) := by decide +kernel
theorem dX6_priceOf_22 : decode cX6_priceOf 22 = .ok (.aload_n 0, 1) := by decide +kernel
theorem dX6_priceOf_23 : decode cX6_priceOf 23 = .ok (.getfield 29, 3) := by decide +kernel
theorem dX6_priceOf_26 : decode cX6_priceOf 26 = .ok (.aload_n 0, 1) := by decide +kernel
theorem dX6_priceOf_27 : decode cX6_priceOf 27 = .ok (.getfield 57, 3) := by decide +kernel
theorem dX6_priceOf_30 : decode cX6_priceOf 30 = .ok (.iload_n 3, 1) := by decide +kernel
theorem dX6_priceOf_31 : decode cX6_priceOf 31 = .ok (.iaload, 1) := by decide +kernel
theorem dX6_priceOf_32 : decode cX6_priceOf 32 = .ok (.iaload, 1) := by decide +kernel
theorem dX6_priceOf_33 : decode cX6_priceOf 33 = .ok (.goto 4, 3) := by decide +kernel
theorem dX6_priceOf_36 : decode cX6_priceOf 36 = .ok (.iconst 0, 1) := by decide +kernel
theorem dX6_priceOf_37 : decode cX6_priceOf 37 = .ok (.iadd, 1) := by decide +kernel
theorem dX6_priceOf_38 : decode cX6_priceOf 38 = .ok (.istore_n 2, 1) := by decide +kernel
theorem dX6_priceOf_39 : decode cX6_priceOf 39 = .ok (.iinc 3 1, 3) := by decide +kernel
theorem dX6_priceOf_42 : decode cX6_priceOf 42 = .ok (.goto (-38), 3) := by decide +kernel
theorem dX6_priceOf_45 : decode cX6_priceOf 45 = .ok (.iload_n 2, 1) := by decide +kernel
theorem dX6_priceOf_46 : decode cX6_priceOf 46 = .ok (.ireturn, 1) := by decide +kernel
theorem dX6_ones_0 : decode cX6_ones 0 = .ok (.iconst 0, 1) := by decide +kernel
theorem dX6_ones_1 : decode cX6_ones 1 = .ok (.istore_n 1, 1) := by decide +kernel
theorem dX6_ones_2 : decode cX6_ones 2 = .ok (.iconst 0, 1) := by decide +kernel
theorem dX6_ones_3 : decode cX6_ones 3 = .ok (.istore_n 2, 1) := by decide +kernel
theorem dX6_ones_4 : decode cX6_ones 4 = .ok (.iload_n 2, 1) := by decide +kernel
theorem dX6_ones_5 : decode cX6_ones 5 = .ok (.bipush 24, 2) := by decide +kernel
theorem dX6_ones_7 : decode cX6_ones 7 = .ok (.if_icmp .ge 17, 3) := by decide +kernel
theorem dX6_ones_10 : decode cX6_ones 10 = .ok (.iload_n 1, 1) := by decide +kernel
theorem dX6_ones_11 : decode cX6_ones 11 = .ok (.iload_n 0, 1) := by decide +kernel
theorem dX6_ones_12 : decode cX6_ones 12 = .ok (.iload_n 2, 1) := by decide +kernel
theorem dX6_ones_13 : decode cX6_ones 13 = .ok (.ishr, 1) := by decide +kernel
theorem dX6_ones_14 : decode cX6_ones 14 = .ok (.iconst 1, 1) := by decide +kernel
theorem dX6_ones_15 : decode cX6_ones 15 = .ok (.iand, 1) := by decide +kernel
theorem dX6_ones_16 : decode cX6_ones 16 = .ok (.iadd, 1) := by decide +kernel
theorem dX6_ones_17 : decode cX6_ones 17 = .ok (.istore_n 1, 1) := by decide +kernel
theorem dX6_ones_18 : decode cX6_ones 18 = .ok (.iinc 2 1, 3) := by decide +kernel
theorem dX6_ones_21 : decode cX6_ones 21 = .ok (.goto (-17), 3) := by decide +kernel
theorem dX6_ones_24 : decode cX6_ones 24 = .ok (.iload_n 1, 1) := by decide +kernel
theorem dX6_ones_25 : decode cX6_ones 25 = .ok (.ireturn, 1) := by decide +kernel
set_option maxRecDepth 20000 in
theorem ggX6_bestSet_X6_reach : GoodIn wsX6_bestSet wsX6_reach := goodIn_r _ [6, 7, 8, 9, 10, 11, 12, 13, 26, 27, 28, 29, 30, 31, 32, 33, 34, 35, 36, 37, 38, 39, 40, 41, 42, 43, 44, 45, 46, 47, 48, 49, 50, 51] (by decide +kernel) (by decide +kernel)
set_option maxRecDepth 20000 in
theorem gX6_bestSet_X6_reach : GoodIn wsX6_bestSet (wsV RX6 147 RX6 yX6_reach wsX6_reach) := goodIn_app (goodIn_of _ (by decide +kernel)) ggX6_bestSet_X6_reach
set_option maxRecDepth 20000 in
theorem ggX6_bestSet_X6_priceOf : GoodIn wsX6_bestSet wsX6_priceOf := goodIn_r _ [17, 1, 18, 11, 26, 27, 28, 29, 30, 31, 32, 33, 34, 35, 36, 37, 38, 39, 40, 41, 42, 43, 44, 45, 46, 47, 48, 49, 50, 51] (by decide +kernel) (by decide +kernel)
set_option maxRecDepth 20000 in
theorem gX6_bestSet_X6_priceOf : GoodIn wsX6_bestSet (wsV RX6 153 RX6 yX6_priceOf wsX6_priceOf) := goodIn_app (goodIn_of _ (by decide +kernel)) ggX6_bestSet_X6_priceOf
set_option maxRecDepth 20000 in
theorem ggX6_bestSet_X6_ones : GoodIn wsX6_bestSet wsX6_ones := goodIn_r _ [21] (by decide +kernel) (by decide +kernel)
set_option maxRecDepth 20000 in
theorem gX6_bestSet_X6_ones : GoodIn wsX6_bestSet (va_wsS RX6 156 yX6_ones wsX6_ones) := goodIn_app (goodIn_of _ (by decide +kernel)) ggX6_bestSet_X6_ones
set_option maxRecDepth 20000 in
theorem ggX6_bestSet_X6_isBroken : GoodIn wsX6_bestSet wsX6_isBroken := goodIn_r _ [25, 1, 9, 12, 11, 26, 27, 28, 29, 30, 31, 32, 33, 34, 35, 36, 37, 38, 39, 40, 41, 42, 43, 44, 45, 46, 47, 48, 49, 50, 51] (by decide +kernel) (by decide +kernel)
set_option maxRecDepth 20000 in
theorem gX6_bestSet_X6_isBroken : GoodIn wsX6_bestSet (wsV RX6 150 RX6 yX6_isBroken wsX6_isBroken) := goodIn_app (goodIn_of _ (by decide +kernel)) ggX6_bestSet_X6_isBroken
theorem dX6_bestSet_0 : decode cX6_bestSet 0 = .ok (.aload_n 0, 1) := by decide +kernel
theorem dX6_bestSet_1 : decode cX6_bestSet 1 = .ok (.invokevirtual 147, 3) := by decide +kernel
theorem dX6_bestSet_4 : decode cX6_bestSet 4 = .ok (.iconst (-1), 1) := by decide +kernel
theorem dX6_bestSet_5 : decode cX6_bestSet 5 = .ok (.istore_n 1, 1) := by decide +kernel
theorem dX6_bestSet_6 : decode cX6_bestSet 6 = .ok (.iconst 0, 1) := by decide +kernel
theorem dX6_bestSet_7 : decode cX6_bestSet 7 = .ok (.istore_n 2, 1) := by decide +kernel
theorem dX6_bestSet_8 : decode cX6_bestSet 8 = .ok (.iconst 0, 1) := by decide +kernel
theorem dX6_bestSet_9 : decode cX6_bestSet 9 = .ok (.istore_n 3, 1) := by decide +kernel
theorem dX6_bestSet_10 : decode cX6_bestSet 10 = .ok (.iload_n 3, 1) := by decide +kernel
theorem dX6_bestSet_11 : decode cX6_bestSet 11 = .ok (.iconst 1, 1) := by decide +kernel
theorem dX6_bestSet_12 : decode cX6_bestSet 12 = .ok (.aload_n 0, 1) := by decide +kernel
theorem dX6_bestSet_13 : decode cX6_bestSet 13 = .ok (.getfield 92, 3) := by decide +kernel
theorem dX6_bestSet_16 : decode cX6_bestSet 16 = .ok (.ishl, 1) := by decide +kernel
theorem dX6_bestSet_17 : decode cX6_bestSet 17 = .ok (.if_icmp .ge 48, 3) := by decide +kernel
theorem dX6_bestSet_20 : decode cX6_bestSet 20 = .ok (.bipush 100, 2) := by decide +kernel
theorem dX6_bestSet_22 : decode cX6_bestSet 22 = .ok (.aload_n 0, 1) := by decide +kernel
theorem dX6_bestSet_23 : decode cX6_bestSet 23 = .ok (.iload_n 3, 1) := by decide +kernel
theorem dX6_bestSet_24 : decode cX6_bestSet 24 = .ok (.invokevirtual 153, 3) := by decide +kernel
theorem dX6_bestSet_27 : decode cX6_bestSet 27 = .ok (.imul, 1) := by decide +kernel
theorem dX6_bestSet_28 : decode cX6_bestSet 28 = .ok (.iload_n 3, 1) := by decide +kernel
theorem dX6_bestSet_29 : decode cX6_bestSet 29 = .ok (.invokestatic 156, 3) := by decide +kernel
theorem dX6_bestSet_32 : decode cX6_bestSet 32 = .ok (.iadd, 1) := by decide +kernel
theorem dX6_bestSet_33 : decode cX6_bestSet 33 = .ok (.istore 4, 2) := by decide +kernel
theorem dX6_bestSet_35 : decode cX6_bestSet 35 = .ok (.iload_n 1, 1) := by decide +kernel
theorem dX6_bestSet_36 : decode cX6_bestSet 36 = .ok (.iconst (-1), 1) := by decide +kernel
theorem dX6_bestSet_37 : decode cX6_bestSet 37 = .ok (.if_icmp .eq 9, 3) := by decide +kernel
theorem dX6_bestSet_40 : decode cX6_bestSet 40 = .ok (.iload 4, 2) := by decide +kernel
theorem dX6_bestSet_42 : decode cX6_bestSet 42 = .ok (.iload_n 2, 1) := by decide +kernel
theorem dX6_bestSet_43 : decode cX6_bestSet 43 = .ok (.if_icmp .ge 16, 3) := by decide +kernel
theorem dX6_bestSet_46 : decode cX6_bestSet 46 = .ok (.aload_n 0, 1) := by decide +kernel
theorem dX6_bestSet_47 : decode cX6_bestSet 47 = .ok (.iload_n 3, 1) := by decide +kernel
theorem dX6_bestSet_48 : decode cX6_bestSet 48 = .ok (.invokevirtual 150, 3) := by decide +kernel
theorem dX6_bestSet_51 : decode cX6_bestSet 51 = .ok (.ifCond .eq 8, 3) := by decide +kernel
theorem dX6_bestSet_54 : decode cX6_bestSet 54 = .ok (.iload_n 3, 1) := by decide +kernel
theorem dX6_bestSet_55 : decode cX6_bestSet 55 = .ok (.istore_n 1, 1) := by decide +kernel
theorem dX6_bestSet_56 : decode cX6_bestSet 56 = .ok (.iload 4, 2) := by decide +kernel
theorem dX6_bestSet_58 : decode cX6_bestSet 58 = .ok (.istore_n 2, 1) := by decide +kernel
theorem dX6_bestSet_59 : decode cX6_bestSet 59 = .ok (.iinc 3 1, 3) := by decide +kernel
theorem dX6_bestSet_62 : decode cX6_bestSet 62 = .ok (.goto (-52), 3) := by decide +kernel
theorem dX6_bestSet_65 : decode cX6_bestSet 65 = .ok (.iload_n 1, 1) := by decide +kernel
theorem dX6_bestSet_66 : decode cX6_bestSet 66 = .ok (.ireturn, 1) := by decide +kernel
set_option maxRecDepth 20000 in
theorem ggX6_best_X6_bestSet : GoodIn wsX6_best wsX6_bestSet := goodIn_r _ [6, 1, 7, 8, 9, 5, 10, 11, 12, 13, 14, 15, 16, 17, 18, 19, 20, 21, 22, 23, 24, 25, 26, 27, 28, 29, 30, 31, 32, 33, 34, 35, 36, 37, 38, 39, 40, 41, 42, 43, 44, 45, 46, 47, 48, 49, 50, 51, 52, 53, 54, 55] (by decide +kernel) (by decide +kernel)
set_option maxRecDepth 20000 in
theorem gX6_best_X6_bestSet : GoodIn wsX6_best (wsV RX6 159 RX6 yX6_bestSet wsX6_bestSet) := goodIn_app (goodIn_of _ (by decide +kernel)) ggX6_best_X6_bestSet
theorem dX6_best_0 : decode cX6_best 0 = .ok (.aload_n 0, 1) := by decide +kernel
theorem dX6_best_1 : decode cX6_best 1 = .ok (.getfield 92, 3) := by decide +kernel
theorem dX6_best_4 : decode cX6_best 4 = .ok (.bipush 12, 2) := by decide +kernel
theorem dX6_best_6 : decode cX6_best 6 = .ok (.if_icmp .le 8, 3) := by decide +kernel
theorem dX6_best_9 : decode cX6_best 9 = .ok (.bipush (-3), 2) := by decide +kernel
theorem dX6_best_11 : decode cX6_best 11 = .ok (.goto 7, 3) := by decide +kernel
theorem dX6_best_14 : decode cX6_best 14 = .ok (.aload_n 0, 1) := by decide +kernel
theorem dX6_best_15 : decode cX6_best 15 = .ok (.invokevirtual 159, 3) := by decide +kernel
theorem dX6_best_18 : decode cX6_best 18 = .ok (.ireturn, 1) := by decide +kernel
set_option maxRecDepth 20000 in
theorem ggX6_harden_X6_bestSet : GoodIn wsX6_harden wsX6_bestSet := goodIn_r _ [11, 1, 12, 13, 14, 10, 15, 2, 5, 16, 6, 17, 18, 19, 20, 21, 22, 23, 24, 25, 26, 27, 28, 29, 30, 31, 32, 33, 34, 35, 36, 37, 38, 39, 40, 41, 42, 43, 44, 45, 46, 47, 48, 49, 50, 51, 52, 53, 54, 55, 56, 57] (by decide +kernel) (by decide +kernel)
set_option maxRecDepth 20000 in
theorem gX6_harden_X6_bestSet : GoodIn wsX6_harden (wsV RX6 159 RX6 yX6_bestSet wsX6_bestSet) := goodIn_app (goodIn_of _ (by decide +kernel)) ggX6_harden_X6_bestSet
set_option maxRecDepth 20000 in
theorem ggX6_harden_X6_ones : GoodIn wsX6_harden wsX6_ones := goodIn_r _ [27] (by decide +kernel) (by decide +kernel)
set_option maxRecDepth 20000 in
theorem gX6_harden_X6_ones : GoodIn wsX6_harden (va_wsS RX6 156 yX6_ones wsX6_ones) := goodIn_app (goodIn_of _ (by decide +kernel)) ggX6_harden_X6_ones
theorem dX6_harden_0 : decode cX6_harden 0 = .ok (.aload_n 0, 1) := by decide +kernel
theorem dX6_harden_1 : decode cX6_harden 1 = .ok (.getfield 92, 3) := by decide +kernel
theorem dX6_harden_4 : decode cX6_harden 4 = .ok (.bipush 12, 2) := by decide +kernel
theorem dX6_harden_6 : decode cX6_harden 6 = .ok (.if_icmp .le 6, 3) := by decide +kernel
theorem dX6_harden_9 : decode cX6_harden 9 = .ok (.bipush (-3), 2) := by decide +kernel
theorem dX6_harden_11 : decode cX6_harden 11 = .ok (.ireturn, 1) := by decide +kernel
theorem dX6_harden_12 : decode cX6_harden 12 = .ok (.aload_n 0, 1) := by decide +kernel
theorem dX6_harden_13 : decode cX6_harden 13 = .ok (.invokevirtual 159, 3) := by decide +kernel
theorem dX6_harden_16 : decode cX6_harden 16 = .ok (.istore_n 1, 1) := by decide +kernel
theorem dX6_harden_17 : decode cX6_harden 17 = .ok (.iconst 0, 1) := by decide +kernel
theorem dX6_harden_18 : decode cX6_harden 18 = .ok (.istore_n 2, 1) := by decide +kernel
theorem dX6_harden_19 : decode cX6_harden 19 = .ok (.iload_n 2, 1) := by decide +kernel
theorem dX6_harden_20 : decode cX6_harden 20 = .ok (.aload_n 0, 1) := by decide +kernel
theorem dX6_harden_21 : decode cX6_harden 21 = .ok (.getfield 78, 3) := by decide +kernel
theorem dX6_harden_24 : decode cX6_harden 24 = .ok (.if_icmp .ge 51, 3) := by decide +kernel
theorem dX6_harden_27 : decode cX6_harden 27 = .ok (.aload_n 0, 1) := by decide +kernel
theorem dX6_harden_28 : decode cX6_harden 28 = .ok (.getfield 23, 3) := by decide +kernel
theorem dX6_harden_31 : decode cX6_harden 31 = .ok (.iload_n 2, 1) := by decide +kernel
theorem dX6_harden_32 : decode cX6_harden 32 = .ok (.iconst 1, 1) := by decide +kernel
theorem dX6_harden_33 : decode cX6_harden 33 = .ok (.bastore, 1) := by decide +kernel
theorem dX6_harden_34 : decode cX6_harden 34 = .ok (.aload_n 0, 1) := by decide +kernel
theorem dX6_harden_35 : decode cX6_harden 35 = .ok (.getfield 26, 3) := by decide +kernel
theorem dX6_harden_38 : decode cX6_harden 38 = .ok (.iload_n 2, 1) := by decide +kernel
theorem dX6_harden_39 : decode cX6_harden 39 = .ok (.aload_n 0, 1) := by decide +kernel
theorem dX6_harden_40 : decode cX6_harden 40 = .ok (.getfield 7, 3) := by decide +kernel
theorem dX6_harden_43 : decode cX6_harden 43 = .ok (.iload_n 2, 1) := by decide +kernel
theorem dX6_harden_44 : decode cX6_harden 44 = .ok (.iaload, 1) := by decide +kernel
theorem dX6_harden_45 : decode cX6_harden 45 = .ok (.iconst 5, 1) := by decide +kernel
theorem dX6_harden_46 : decode cX6_harden 46 = .ok (.if_icmp .ne 21, 3) := by decide +kernel
theorem dX6_harden_49 : decode cX6_harden 49 = .ok (.iload_n 1, 1) := by decide +kernel
theorem dX6_harden_50 : decode cX6_harden 50 = .ok (.aload_n 0, 1) := by decide +kernel
theorem dX6_harden_51 : decode cX6_harden 51 = .ok (.getfield 32, 3) := by decide +kernel
theorem dX6_harden_54 : decode cX6_harden 54 = .ok (.iload_n 2, 1) := by decide +kernel
theorem dX6_harden_55 : decode cX6_harden 55 = .ok (.iaload, 1) := by decide +kernel
theorem dX6_harden_56 : decode cX6_harden 56 = .ok (.ishr, 1) := by decide +kernel
theorem dX6_harden_57 : decode cX6_harden 57 = .ok (.iconst 1, 1) := by decide +kernel
theorem dX6_harden_58 : decode cX6_harden 58 = .ok (.iand, 1) := by decide +kernel
theorem dX6_harden_59 : decode cX6_harden 59 = .ok (.iconst 1, 1) := by decide +kernel
theorem dX6_harden_60 : decode cX6_harden 60 = .ok (.if_icmp .ne 7, 3) := by decide +kernel
theorem dX6_harden_63 : decode cX6_harden 63 = .ok (.iconst 1, 1) := by decide +kernel
theorem dX6_harden_64 : decode cX6_harden 64 = .ok (.goto 4, 3) := by decide +kernel
theorem dX6_harden_67 : decode cX6_harden 67 = .ok (.iconst 0, 1) := by decide +kernel
theorem dX6_harden_68 : decode cX6_harden 68 = .ok (.bastore, 1) := by decide +kernel
theorem dX6_harden_69 : decode cX6_harden 69 = .ok (.iinc 2 1, 3) := by decide +kernel
theorem dX6_harden_72 : decode cX6_harden 72 = .ok (.goto (-53), 3) := by decide +kernel
theorem dX6_harden_75 : decode cX6_harden 75 = .ok (.iload_n 1, 1) := by decide +kernel
theorem dX6_harden_76 : decode cX6_harden 76 = .ok (.invokestatic 156, 3) := by decide +kernel
theorem dX6_harden_79 : decode cX6_harden 79 = .ok (.ireturn, 1) := by decide +kernel
set_option maxRecDepth 20000 in
theorem ggX6_voter_X6_in : GoodIn wsX6_voter wsX6_in := goodIn_r _ [5] (by decide +kernel) (by decide +kernel)
set_option maxRecDepth 20000 in
theorem gX6_voter_X6_in : GoodIn wsX6_voter (va_wsS RX6 81 yX6_in wsX6_in) := goodIn_app (goodIn_of _ (by decide +kernel)) ggX6_voter_X6_in
theorem dX6_voter_0 : decode cX6_voter 0 = .ok (.iload_n 1, 1) := by decide +kernel
theorem dX6_voter_1 : decode cX6_voter 1 = .ok (.iconst 0, 1) := by decide +kernel
theorem dX6_voter_2 : decode cX6_voter 2 = .ok (.sipush 1000, 3) := by decide +kernel
theorem dX6_voter_5 : decode cX6_voter 5 = .ok (.invokestatic 81, 3) := by decide +kernel
theorem dX6_voter_8 : decode cX6_voter 8 = .ok (.ifCond .ne 6, 3) := by decide +kernel
theorem dX6_voter_11 : decode cX6_voter 11 = .ok (.bipush (-2), 2) := by decide +kernel
theorem dX6_voter_13 : decode cX6_voter 13 = .ok (.ireturn, 1) := by decide +kernel
theorem dX6_voter_14 : decode cX6_voter 14 = .ok (.aload_n 0, 1) := by decide +kernel
theorem dX6_voter_15 : decode cX6_voter 15 = .ok (.getfield 39, 3) := by decide +kernel
theorem dX6_voter_18 : decode cX6_voter 18 = .ok (.istore_n 2, 1) := by decide +kernel
theorem dX6_voter_19 : decode cX6_voter 19 = .ok (.aload_n 0, 1) := by decide +kernel
theorem dX6_voter_20 : decode cX6_voter 20 = .ok (.iload_n 1, 1) := by decide +kernel
theorem dX6_voter_21 : decode cX6_voter 21 = .ok (.putfield 39, 3) := by decide +kernel
theorem dX6_voter_24 : decode cX6_voter 24 = .ok (.iload_n 2, 1) := by decide +kernel
theorem dX6_voter_25 : decode cX6_voter 25 = .ok (.ireturn, 1) := by decide +kernel
set_option maxRecDepth 20000 in
theorem ggX6_cost_X6_copiesOf : GoodIn wsX6_cost wsX6_copiesOf := goodIn_r _ [9, 10, 11, 12, 13, 14, 15, 16, 17, 18, 19, 20, 21, 22, 23, 24, 25, 26, 27, 28, 29, 30, 31, 32, 33, 34, 35, 36] (by decide +kernel) (by decide +kernel)
set_option maxRecDepth 20000 in
theorem gX6_cost_X6_copiesOf : GoodIn wsX6_cost (wsV RX6 114 RX6 yX6_copiesOf wsX6_copiesOf) := goodIn_app (goodIn_of _ (by decide +kernel)) ggX6_cost_X6_copiesOf
theorem dX6_cost_0 : decode cX6_cost 0 = .ok (.iconst 0, 1) := by decide +kernel
theorem dX6_cost_1 : decode cX6_cost 1 = .ok (.istore_n 1, 1) := by decide +kernel
theorem dX6_cost_2 : decode cX6_cost 2 = .ok (.iconst 0, 1) := by decide +kernel
theorem dX6_cost_3 : decode cX6_cost 3 = .ok (.istore_n 2, 1) := by decide +kernel
theorem dX6_cost_4 : decode cX6_cost 4 = .ok (.iload_n 2, 1) := by decide +kernel
theorem dX6_cost_5 : decode cX6_cost 5 = .ok (.aload_n 0, 1) := by decide +kernel
theorem dX6_cost_6 : decode cX6_cost 6 = .ok (.getfield 78, 3) := by decide +kernel
theorem dX6_cost_9 : decode cX6_cost 9 = .ok (.if_icmp .ge 44, 3) := by decide +kernel
theorem dX6_cost_12 : decode cX6_cost 12 = .ok (.iload_n 1, 1) := by decide +kernel
theorem dX6_cost_13 : decode cX6_cost 13 = .ok (.aload_n 0, 1) := by decide +kernel
theorem dX6_cost_14 : decode cX6_cost 14 = .ok (.iload_n 2, 1) := by decide +kernel
theorem dX6_cost_15 : decode cX6_cost 15 = .ok (.invokevirtual 114, 3) := by decide +kernel
theorem dX6_cost_18 : decode cX6_cost 18 = .ok (.aload_n 0, 1) := by decide +kernel
theorem dX6_cost_19 : decode cX6_cost 19 = .ok (.getfield 29, 3) := by decide +kernel
theorem dX6_cost_22 : decode cX6_cost 22 = .ok (.iload_n 2, 1) := by decide +kernel
theorem dX6_cost_23 : decode cX6_cost 23 = .ok (.iaload, 1) := by decide +kernel
theorem dX6_cost_24 : decode cX6_cost 24 = .ok (.imul, 1) := by decide +kernel
theorem dX6_cost_25 : decode cX6_cost 25 = .ok (.aload_n 0, 1) := by decide +kernel
theorem dX6_cost_26 : decode cX6_cost 26 = .ok (.getfield 26, 3) := by decide +kernel
theorem dX6_cost_29 : decode cX6_cost 29 = .ok (.iload_n 2, 1) := by decide +kernel
theorem dX6_cost_30 : decode cX6_cost 30 = .ok (.baload, 1) := by decide +kernel
theorem dX6_cost_31 : decode cX6_cost 31 = .ok (.ifCond .eq 12, 3) := by decide +kernel
theorem dX6_cost_34 : decode cX6_cost 34 = .ok (.iconst 3, 1) := by decide +kernel
theorem dX6_cost_35 : decode cX6_cost 35 = .ok (.aload_n 0, 1) := by decide +kernel
theorem dX6_cost_36 : decode cX6_cost 36 = .ok (.getfield 39, 3) := by decide +kernel
theorem dX6_cost_39 : decode cX6_cost 39 = .ok (.imul, 1) := by decide +kernel
theorem dX6_cost_40 : decode cX6_cost 40 = .ok (.goto 4, 3) := by decide +kernel
theorem dX6_cost_43 : decode cX6_cost 43 = .ok (.iconst 0, 1) := by decide +kernel
theorem dX6_cost_44 : decode cX6_cost 44 = .ok (.iadd, 1) := by decide +kernel
theorem dX6_cost_45 : decode cX6_cost 45 = .ok (.iadd, 1) := by decide +kernel
theorem dX6_cost_46 : decode cX6_cost 46 = .ok (.istore_n 1, 1) := by decide +kernel
theorem dX6_cost_47 : decode cX6_cost 47 = .ok (.iinc 2 1, 3) := by decide +kernel
theorem dX6_cost_50 : decode cX6_cost 50 = .ok (.goto (-46), 3) := by decide +kernel
theorem dX6_cost_53 : decode cX6_cost 53 = .ok (.iload_n 1, 1) := by decide +kernel
theorem dX6_cost_54 : decode cX6_cost 54 = .ok (.ireturn, 1) := by decide +kernel
theorem dX6_slow_0 : decode cX6_slow 0 = .ok (.iconst 0, 1) := by decide +kernel
theorem dX6_slow_1 : decode cX6_slow 1 = .ok (.istore_n 1, 1) := by decide +kernel
theorem dX6_slow_2 : decode cX6_slow 2 = .ok (.iconst 0, 1) := by decide +kernel
theorem dX6_slow_3 : decode cX6_slow 3 = .ok (.istore_n 2, 1) := by decide +kernel
theorem dX6_slow_4 : decode cX6_slow 4 = .ok (.iload_n 2, 1) := by decide +kernel
theorem dX6_slow_5 : decode cX6_slow 5 = .ok (.aload_n 0, 1) := by decide +kernel
theorem dX6_slow_6 : decode cX6_slow 6 = .ok (.getfield 78, 3) := by decide +kernel
theorem dX6_slow_9 : decode cX6_slow 9 = .ok (.if_icmp .ge 121, 3) := by decide +kernel
theorem dX6_slow_12 : decode cX6_slow 12 = .ok (.aload_n 0, 1) := by decide +kernel
theorem dX6_slow_13 : decode cX6_slow 13 = .ok (.getfield 7, 3) := by decide +kernel
theorem dX6_slow_16 : decode cX6_slow 16 = .ok (.iload_n 2, 1) := by decide +kernel
theorem dX6_slow_17 : decode cX6_slow 17 = .ok (.iaload, 1) := by decide +kernel
theorem dX6_slow_18 : decode cX6_slow 18 = .ok (.ifCond .eq 13, 3) := by decide +kernel
theorem dX6_slow_21 : decode cX6_slow 21 = .ok (.aload_n 0, 1) := by decide +kernel
theorem dX6_slow_22 : decode cX6_slow 22 = .ok (.getfield 7, 3) := by decide +kernel
theorem dX6_slow_25 : decode cX6_slow 25 = .ok (.iload_n 2, 1) := by decide +kernel
theorem dX6_slow_26 : decode cX6_slow 26 = .ok (.iaload, 1) := by decide +kernel
theorem dX6_slow_27 : decode cX6_slow 27 = .ok (.iconst 5, 1) := by decide +kernel
theorem dX6_slow_28 : decode cX6_slow 28 = .ok (.if_icmp .ne 7, 3) := by decide +kernel
theorem dX6_slow_31 : decode cX6_slow 31 = .ok (.iconst (-1), 1) := by decide +kernel
theorem dX6_slow_32 : decode cX6_slow 32 = .ok (.goto 14, 3) := by decide +kernel
theorem dX6_slow_35 : decode cX6_slow 35 = .ok (.aload_n 0, 1) := by decide +kernel
theorem dX6_slow_36 : decode cX6_slow 36 = .ok (.getfield 60, 3) := by decide +kernel
theorem dX6_slow_39 : decode cX6_slow 39 = .ok (.aload_n 0, 1) := by decide +kernel
theorem dX6_slow_40 : decode cX6_slow 40 = .ok (.getfield 13, 3) := by decide +kernel
theorem dX6_slow_43 : decode cX6_slow 43 = .ok (.iload_n 2, 1) := by decide +kernel
theorem dX6_slow_44 : decode cX6_slow 44 = .ok (.iaload, 1) := by decide +kernel
theorem dX6_slow_45 : decode cX6_slow 45 = .ok (.iaload, 1) := by decide +kernel
theorem dX6_slow_46 : decode cX6_slow 46 = .ok (.istore_n 3, 1) := by decide +kernel
theorem dX6_slow_47 : decode cX6_slow 47 = .ok (.aload_n 0, 1) := by decide +kernel
theorem dX6_slow_48 : decode cX6_slow 48 = .ok (.getfield 16, 3) := by decide +kernel
theorem dX6_slow_51 : decode cX6_slow 51 = .ok (.iload_n 2, 1) := by decide +kernel
theorem dX6_slow_52 : decode cX6_slow 52 = .ok (.iaload, 1) := by decide +kernel
theorem dX6_slow_53 : decode cX6_slow 53 = .ok (.iconst (-1), 1) := by decide +kernel
theorem dX6_slow_54 : decode cX6_slow 54 = .ok (.if_icmp .ne 7, 3) := by decide +kernel
theorem dX6_slow_57 : decode cX6_slow 57 = .ok (.iload_n 3, 1) := by decide +kernel
theorem dX6_slow_58 : decode cX6_slow 58 = .ok (.goto 14, 3) := by decide +kernel
theorem dX6_slow_61 : decode cX6_slow 61 = .ok (.aload_n 0, 1) := by decide +kernel
theorem dX6_slow_62 : decode cX6_slow 62 = .ok (.getfield 60, 3) := by decide +kernel
theorem dX6_slow_65 : decode cX6_slow 65 = .ok (.aload_n 0, 1) := by decide +kernel
theorem dX6_slow_66 : decode cX6_slow 66 = .ok (.getfield 16, 3) := by decide +kernel
theorem dX6_slow_69 : decode cX6_slow 69 = .ok (.iload_n 2, 1) := by decide +kernel
theorem dX6_slow_70 : decode cX6_slow 70 = .ok (.iaload, 1) := by decide +kernel
theorem dX6_slow_71 : decode cX6_slow 71 = .ok (.iaload, 1) := by decide +kernel
theorem dX6_slow_72 : decode cX6_slow 72 = .ok (.istore 4, 2) := by decide +kernel
theorem dX6_slow_74 : decode cX6_slow 74 = .ok (.aload_n 0, 1) := by decide +kernel
theorem dX6_slow_75 : decode cX6_slow 75 = .ok (.getfield 60, 3) := by decide +kernel
theorem dX6_slow_78 : decode cX6_slow 78 = .ok (.iload_n 2, 1) := by decide +kernel
theorem dX6_slow_79 : decode cX6_slow 79 = .ok (.iconst 1, 1) := by decide +kernel
theorem dX6_slow_80 : decode cX6_slow 80 = .ok (.iload_n 3, 1) := by decide +kernel
theorem dX6_slow_81 : decode cX6_slow 81 = .ok (.iload 4, 2) := by decide +kernel
theorem dX6_slow_83 : decode cX6_slow 83 = .ok (.if_icmp .le 7, 3) := by decide +kernel
theorem dX6_slow_86 : decode cX6_slow 86 = .ok (.iload_n 3, 1) := by decide +kernel
theorem dX6_slow_87 : decode cX6_slow 87 = .ok (.goto 5, 3) := by decide +kernel
theorem dX6_slow_90 : decode cX6_slow 90 = .ok (.iload 4, 2) := by decide +kernel
theorem dX6_slow_92 : decode cX6_slow 92 = .ok (.iadd, 1) := by decide +kernel
theorem dX6_slow_93 : decode cX6_slow 93 = .ok (.iastore, 1) := by decide +kernel
theorem dX6_slow_94 : decode cX6_slow 94 = .ok (.aload_n 0, 1) := by decide +kernel
theorem dX6_slow_95 : decode cX6_slow 95 = .ok (.getfield 19, 3) := by decide +kernel
theorem dX6_slow_98 : decode cX6_slow 98 = .ok (.iload_n 2, 1) := by decide +kernel
theorem dX6_slow_99 : decode cX6_slow 99 = .ok (.baload, 1) := by decide +kernel
theorem dX6_slow_100 : decode cX6_slow 100 = .ok (.ifCond .eq 22, 3) := by decide +kernel
theorem dX6_slow_103 : decode cX6_slow 103 = .ok (.aload_n 0, 1) := by decide +kernel
theorem dX6_slow_104 : decode cX6_slow 104 = .ok (.getfield 60, 3) := by decide +kernel
theorem dX6_slow_107 : decode cX6_slow 107 = .ok (.iload_n 2, 1) := by decide +kernel
theorem dX6_slow_108 : decode cX6_slow 108 = .ok (.iaload, 1) := by decide +kernel
theorem dX6_slow_109 : decode cX6_slow 109 = .ok (.iload_n 1, 1) := by decide +kernel
theorem dX6_slow_110 : decode cX6_slow 110 = .ok (.if_icmp .le 12, 3) := by decide +kernel
theorem dX6_slow_113 : decode cX6_slow 113 = .ok (.aload_n 0, 1) := by decide +kernel
theorem dX6_slow_114 : decode cX6_slow 114 = .ok (.getfield 60, 3) := by decide +kernel
theorem dX6_slow_117 : decode cX6_slow 117 = .ok (.iload_n 2, 1) := by decide +kernel
theorem dX6_slow_118 : decode cX6_slow 118 = .ok (.iaload, 1) := by decide +kernel
theorem dX6_slow_119 : decode cX6_slow 119 = .ok (.goto 4, 3) := by decide +kernel
theorem dX6_slow_122 : decode cX6_slow 122 = .ok (.iload_n 1, 1) := by decide +kernel
theorem dX6_slow_123 : decode cX6_slow 123 = .ok (.istore_n 1, 1) := by decide +kernel
theorem dX6_slow_124 : decode cX6_slow 124 = .ok (.iinc 2 1, 3) := by decide +kernel
theorem dX6_slow_127 : decode cX6_slow 127 = .ok (.goto (-123), 3) := by decide +kernel
theorem dX6_slow_130 : decode cX6_slow 130 = .ok (.iconst 0, 1) := by decide +kernel
theorem dX6_slow_131 : decode cX6_slow 131 = .ok (.istore_n 2, 1) := by decide +kernel
theorem dX6_slow_132 : decode cX6_slow 132 = .ok (.iload_n 2, 1) := by decide +kernel
theorem dX6_slow_133 : decode cX6_slow 133 = .ok (.aload_n 0, 1) := by decide +kernel
theorem dX6_slow_134 : decode cX6_slow 134 = .ok (.getfield 78, 3) := by decide +kernel
theorem dX6_slow_137 : decode cX6_slow 137 = .ok (.if_icmp .ge 61, 3) := by decide +kernel
theorem dX6_slow_140 : decode cX6_slow 140 = .ok (.aload_n 0, 1) := by decide +kernel
theorem dX6_slow_141 : decode cX6_slow 141 = .ok (.getfield 7, 3) := by decide +kernel
theorem dX6_slow_144 : decode cX6_slow 144 = .ok (.iload_n 2, 1) := by decide +kernel
theorem dX6_slow_145 : decode cX6_slow 145 = .ok (.iaload, 1) := by decide +kernel
theorem dX6_slow_146 : decode cX6_slow 146 = .ok (.iconst 5, 1) := by decide +kernel
theorem dX6_slow_147 : decode cX6_slow 147 = .ok (.if_icmp .ne 32, 3) := by decide +kernel
theorem dX6_slow_150 : decode cX6_slow 150 = .ok (.aload_n 0, 1) := by decide +kernel
theorem dX6_slow_151 : decode cX6_slow 151 = .ok (.getfield 60, 3) := by decide +kernel
theorem dX6_slow_154 : decode cX6_slow 154 = .ok (.aload_n 0, 1) := by decide +kernel
theorem dX6_slow_155 : decode cX6_slow 155 = .ok (.getfield 13, 3) := by decide +kernel
theorem dX6_slow_158 : decode cX6_slow 158 = .ok (.iload_n 2, 1) := by decide +kernel
theorem dX6_slow_159 : decode cX6_slow 159 = .ok (.iaload, 1) := by decide +kernel
theorem dX6_slow_160 : decode cX6_slow 160 = .ok (.iaload, 1) := by decide +kernel
theorem dX6_slow_161 : decode cX6_slow 161 = .ok (.aload_n 0, 1) := by decide +kernel
theorem dX6_slow_162 : decode cX6_slow 162 = .ok (.getfield 26, 3) := by decide +kernel
theorem dX6_slow_165 : decode cX6_slow 165 = .ok (.iload_n 2, 1) := by decide +kernel
theorem dX6_slow_166 : decode cX6_slow 166 = .ok (.baload, 1) := by decide +kernel
theorem dX6_slow_167 : decode cX6_slow 167 = .ok (.ifCond .eq 7, 3) := by decide +kernel
theorem dX6_slow_170 : decode cX6_slow 170 = .ok (.iconst 1, 1) := by decide +kernel
theorem dX6_slow_171 : decode cX6_slow 171 = .ok (.goto 4, 3) := by decide +kernel
theorem dX6_slow_174 : decode cX6_slow 174 = .ok (.iconst 0, 1) := by decide +kernel
theorem dX6_slow_175 : decode cX6_slow 175 = .ok (.iadd, 1) := by decide +kernel
theorem dX6_slow_176 : decode cX6_slow 176 = .ok (.goto 4, 3) := by decide +kernel
theorem dX6_slow_179 : decode cX6_slow 179 = .ok (.iconst 0, 1) := by decide +kernel
theorem dX6_slow_180 : decode cX6_slow 180 = .ok (.istore_n 3, 1) := by decide +kernel
theorem dX6_slow_181 : decode cX6_slow 181 = .ok (.iload_n 3, 1) := by decide +kernel
theorem dX6_slow_182 : decode cX6_slow 182 = .ok (.iload_n 1, 1) := by decide +kernel
theorem dX6_slow_183 : decode cX6_slow 183 = .ok (.if_icmp .le 7, 3) := by decide +kernel
theorem dX6_slow_186 : decode cX6_slow 186 = .ok (.iload_n 3, 1) := by decide +kernel
theorem dX6_slow_187 : decode cX6_slow 187 = .ok (.goto 4, 3) := by decide +kernel
theorem dX6_slow_190 : decode cX6_slow 190 = .ok (.iload_n 1, 1) := by decide +kernel
theorem dX6_slow_191 : decode cX6_slow 191 = .ok (.istore_n 1, 1) := by decide +kernel
theorem dX6_slow_192 : decode cX6_slow 192 = .ok (.iinc 2 1, 3) := by decide +kernel
theorem dX6_slow_195 : decode cX6_slow 195 = .ok (.goto (-63), 3) := by decide +kernel
theorem dX6_slow_198 : decode cX6_slow 198 = .ok (.iload_n 1, 1) := by decide +kernel
theorem dX6_slow_199 : decode cX6_slow 199 = .ok (.ireturn, 1) := by decide +kernel
theorem dX6_meets_0 : decode cX6_meets 0 = .ok (.aload_n 0, 1) := by decide +kernel
theorem dX6_meets_1 : decode cX6_meets 1 = .ok (.iload_n 1, 1) := by decide +kernel
theorem dX6_meets_2 : decode cX6_meets 2 = .ok (.putfield 162, 3) := by decide +kernel
theorem dX6_meets_5 : decode cX6_meets 5 = .ok (.bipush (-10), 2) := by decide +kernel
theorem dX6_meets_7 : decode cX6_meets 7 = .ok (.iload_n 1, 1) := by decide +kernel
theorem dX6_meets_8 : decode cX6_meets 8 = .ok (.isub, 1) := by decide +kernel
theorem dX6_meets_9 : decode cX6_meets 9 = .ok (.ireturn, 1) := by decide +kernel
set_option maxRecDepth 20000 in
theorem ggX6_isSheet_X6_in : GoodIn wsX6_isSheet wsX6_in := goodIn_r _ [4] (by decide +kernel) (by decide +kernel)
set_option maxRecDepth 20000 in
theorem gX6_isSheet_X6_in : GoodIn wsX6_isSheet (va_wsS RX6 81 yX6_in wsX6_in) := goodIn_app (goodIn_of _ (by decide +kernel)) ggX6_isSheet_X6_in
theorem dX6_isSheet_0 : decode cX6_isSheet 0 = .ok (.iload_n 0, 1) := by decide +kernel
theorem dX6_isSheet_1 : decode cX6_isSheet 1 = .ok (.iconst 0, 1) := by decide +kernel
theorem dX6_isSheet_2 : decode cX6_isSheet 2 = .ok (.iconst 3, 1) := by decide +kernel
theorem dX6_isSheet_3 : decode cX6_isSheet 3 = .ok (.invokestatic 81, 3) := by decide +kernel
theorem dX6_isSheet_6 : decode cX6_isSheet 6 = .ok (.ireturn, 1) := by decide +kernel
set_option maxRecDepth 20000 in
theorem ggX6_sheet_X6_isSheet : GoodIn wsX6_sheet wsX6_isSheet := goodIn_r _ [8, 9, 10, 7, 11] (by decide +kernel) (by decide +kernel)
set_option maxRecDepth 20000 in
theorem gX6_sheet_X6_isSheet : GoodIn wsX6_sheet (va_wsS RX6 165 yX6_isSheet wsX6_isSheet) := goodIn_app (goodIn_of _ (by decide +kernel)) ggX6_sheet_X6_isSheet
set_option maxRecDepth 20000 in
theorem ggX6_sheet_X6_in : GoodIn wsX6_sheet wsX6_in := goodIn_r _ [11] (by decide +kernel) (by decide +kernel)
set_option maxRecDepth 20000 in
theorem gX6_sheet_X6_in : GoodIn wsX6_sheet (va_wsS RX6 81 yX6_in wsX6_in) := goodIn_app (goodIn_of _ (by decide +kernel)) ggX6_sheet_X6_in
set_option maxRecDepth 20000 in
theorem ggX6_sheet_X6_meets : GoodIn wsX6_sheet wsX6_meets := goodIn_r _ [15, 16, 17, 18, 19, 20, 21, 22, 23, 24, 25, 26, 27, 28, 29, 30, 31, 32, 33, 34, 35, 36, 37, 38, 39, 40, 41, 42] (by decide +kernel) (by decide +kernel)
set_option maxRecDepth 20000 in
theorem gX6_sheet_X6_meets : GoodIn wsX6_sheet (wsV RX6 168 RX6 yX6_meets wsX6_meets) := goodIn_app (goodIn_of _ (by decide +kernel)) ggX6_sheet_X6_meets
theorem dX6_sheet_0 : decode cX6_sheet 0 = .ok (.iload_n 1, 1) := by decide +kernel
theorem dX6_sheet_1 : decode cX6_sheet 1 = .ok (.invokestatic 165, 3) := by decide +kernel
theorem dX6_sheet_4 : decode cX6_sheet 4 = .ok (.ifCond .eq 18, 3) := by decide +kernel
theorem dX6_sheet_7 : decode cX6_sheet 7 = .ok (.iload_n 2, 1) := by decide +kernel
theorem dX6_sheet_8 : decode cX6_sheet 8 = .ok (.iconst 0, 1) := by decide +kernel
theorem dX6_sheet_9 : decode cX6_sheet 9 = .ok (.iconst 2, 1) := by decide +kernel
theorem dX6_sheet_10 : decode cX6_sheet 10 = .ok (.invokestatic 81, 3) := by decide +kernel
theorem dX6_sheet_13 : decode cX6_sheet 13 = .ok (.ifCond .eq 9, 3) := by decide +kernel
theorem dX6_sheet_16 : decode cX6_sheet 16 = .ok (.iload_n 3, 1) := by decide +kernel
theorem dX6_sheet_17 : decode cX6_sheet 17 = .ok (.bipush 60, 2) := by decide +kernel
theorem dX6_sheet_19 : decode cX6_sheet 19 = .ok (.if_icmp .le 6, 3) := by decide +kernel
theorem dX6_sheet_22 : decode cX6_sheet 22 = .ok (.bipush (-2), 2) := by decide +kernel
theorem dX6_sheet_24 : decode cX6_sheet 24 = .ok (.ireturn, 1) := by decide +kernel
theorem dX6_sheet_25 : decode cX6_sheet 25 = .ok (.iload_n 3, 1) := by decide +kernel
theorem dX6_sheet_26 : decode cX6_sheet 26 = .ok (.ifCond .ge 9, 3) := by decide +kernel
theorem dX6_sheet_29 : decode cX6_sheet 29 = .ok (.aload_n 0, 1) := by decide +kernel
theorem dX6_sheet_30 : decode cX6_sheet 30 = .ok (.iconst 5, 1) := by decide +kernel
theorem dX6_sheet_31 : decode cX6_sheet 31 = .ok (.invokevirtual 168, 3) := by decide +kernel
theorem dX6_sheet_34 : decode cX6_sheet 34 = .ok (.ireturn, 1) := by decide +kernel
theorem dX6_sheet_35 : decode cX6_sheet 35 = .ok (.aload_n 0, 1) := by decide +kernel
theorem dX6_sheet_36 : decode cX6_sheet 36 = .ok (.getfield 63, 3) := by decide +kernel
theorem dX6_sheet_39 : decode cX6_sheet 39 = .ok (.iload_n 1, 1) := by decide +kernel
theorem dX6_sheet_40 : decode cX6_sheet 40 = .ok (.iconst 1, 1) := by decide +kernel
theorem dX6_sheet_41 : decode cX6_sheet 41 = .ok (.bastore, 1) := by decide +kernel
theorem dX6_sheet_42 : decode cX6_sheet 42 = .ok (.aload_n 0, 1) := by decide +kernel
theorem dX6_sheet_43 : decode cX6_sheet 43 = .ok (.getfield 66, 3) := by decide +kernel
theorem dX6_sheet_46 : decode cX6_sheet 46 = .ok (.iload_n 1, 1) := by decide +kernel
theorem dX6_sheet_47 : decode cX6_sheet 47 = .ok (.iload_n 2, 1) := by decide +kernel
theorem dX6_sheet_48 : decode cX6_sheet 48 = .ok (.iastore, 1) := by decide +kernel
theorem dX6_sheet_49 : decode cX6_sheet 49 = .ok (.aload_n 0, 1) := by decide +kernel
theorem dX6_sheet_50 : decode cX6_sheet 50 = .ok (.getfield 69, 3) := by decide +kernel
theorem dX6_sheet_53 : decode cX6_sheet 53 = .ok (.iload_n 1, 1) := by decide +kernel
theorem dX6_sheet_54 : decode cX6_sheet 54 = .ok (.iload_n 3, 1) := by decide +kernel
theorem dX6_sheet_55 : decode cX6_sheet 55 = .ok (.iastore, 1) := by decide +kernel
theorem dX6_sheet_56 : decode cX6_sheet 56 = .ok (.iconst 0, 1) := by decide +kernel
theorem dX6_sheet_57 : decode cX6_sheet 57 = .ok (.istore 4, 2) := by decide +kernel
theorem dX6_sheet_59 : decode cX6_sheet 59 = .ok (.iload 4, 2) := by decide +kernel
theorem dX6_sheet_61 : decode cX6_sheet 61 = .ok (.bipush 60, 2) := by decide +kernel
theorem dX6_sheet_63 : decode cX6_sheet 63 = .ok (.if_icmp .ge 22, 3) := by decide +kernel
theorem dX6_sheet_66 : decode cX6_sheet 66 = .ok (.aload_n 0, 1) := by decide +kernel
theorem dX6_sheet_67 : decode cX6_sheet 67 = .ok (.getfield 72, 3) := by decide +kernel
theorem dX6_sheet_70 : decode cX6_sheet 70 = .ok (.bipush 60, 2) := by decide +kernel
theorem dX6_sheet_72 : decode cX6_sheet 72 = .ok (.iload_n 1, 1) := by decide +kernel
theorem dX6_sheet_73 : decode cX6_sheet 73 = .ok (.imul, 1) := by decide +kernel
theorem dX6_sheet_74 : decode cX6_sheet 74 = .ok (.iload 4, 2) := by decide +kernel
theorem dX6_sheet_76 : decode cX6_sheet 76 = .ok (.iadd, 1) := by decide +kernel
theorem dX6_sheet_77 : decode cX6_sheet 77 = .ok (.iconst 0, 1) := by decide +kernel
theorem dX6_sheet_78 : decode cX6_sheet 78 = .ok (.iastore, 1) := by decide +kernel
theorem dX6_sheet_79 : decode cX6_sheet 79 = .ok (.iinc 4 1, 3) := by decide +kernel
theorem dX6_sheet_82 : decode cX6_sheet 82 = .ok (.goto (-23), 3) := by decide +kernel
theorem dX6_sheet_85 : decode cX6_sheet 85 = .ok (.iload_n 3, 1) := by decide +kernel
theorem dX6_sheet_86 : decode cX6_sheet 86 = .ok (.ireturn, 1) := by decide +kernel
set_option maxRecDepth 20000 in
theorem ggX6_lose_X6_isSheet : GoodIn wsX6_lose wsX6_isSheet := goodIn_r _ [6, 7, 8, 5, 9] (by decide +kernel) (by decide +kernel)
set_option maxRecDepth 20000 in
theorem gX6_lose_X6_isSheet : GoodIn wsX6_lose (va_wsS RX6 165 yX6_isSheet wsX6_isSheet) := goodIn_app (goodIn_of _ (by decide +kernel)) ggX6_lose_X6_isSheet
set_option maxRecDepth 20000 in
theorem ggX6_lose_X6_meets : GoodIn wsX6_lose wsX6_meets := goodIn_r _ [13, 14, 15, 16, 17, 18, 19, 20, 21, 22, 23, 24, 25, 26, 27, 28, 29, 30, 31, 32, 33, 34, 35, 36, 37, 38, 39, 40] (by decide +kernel) (by decide +kernel)
set_option maxRecDepth 20000 in
theorem gX6_lose_X6_meets : GoodIn wsX6_lose (wsV RX6 168 RX6 yX6_meets wsX6_meets) := goodIn_app (goodIn_of _ (by decide +kernel)) ggX6_lose_X6_meets
theorem dX6_lose_0 : decode cX6_lose 0 = .ok (.iload_n 1, 1) := by decide +kernel
theorem dX6_lose_1 : decode cX6_lose 1 = .ok (.invokestatic 165, 3) := by decide +kernel
theorem dX6_lose_4 : decode cX6_lose 4 = .ok (.ifCond .ne 6, 3) := by decide +kernel
theorem dX6_lose_7 : decode cX6_lose 7 = .ok (.bipush (-2), 2) := by decide +kernel
theorem dX6_lose_9 : decode cX6_lose 9 = .ok (.ireturn, 1) := by decide +kernel
theorem dX6_lose_10 : decode cX6_lose 10 = .ok (.aload_n 0, 1) := by decide +kernel
theorem dX6_lose_11 : decode cX6_lose 11 = .ok (.getfield 63, 3) := by decide +kernel
theorem dX6_lose_14 : decode cX6_lose 14 = .ok (.iload_n 1, 1) := by decide +kernel
theorem dX6_lose_15 : decode cX6_lose 15 = .ok (.baload, 1) := by decide +kernel
theorem dX6_lose_16 : decode cX6_lose 16 = .ok (.ifCond .ne 9, 3) := by decide +kernel
theorem dX6_lose_19 : decode cX6_lose 19 = .ok (.aload_n 0, 1) := by decide +kernel
theorem dX6_lose_20 : decode cX6_lose 20 = .ok (.iconst 1, 1) := by decide +kernel
theorem dX6_lose_21 : decode cX6_lose 21 = .ok (.invokevirtual 168, 3) := by decide +kernel
theorem dX6_lose_24 : decode cX6_lose 24 = .ok (.ireturn, 1) := by decide +kernel
theorem dX6_lose_25 : decode cX6_lose 25 = .ok (.aload_n 0, 1) := by decide +kernel
theorem dX6_lose_26 : decode cX6_lose 26 = .ok (.getfield 63, 3) := by decide +kernel
theorem dX6_lose_29 : decode cX6_lose 29 = .ok (.iload_n 1, 1) := by decide +kernel
theorem dX6_lose_30 : decode cX6_lose 30 = .ok (.iconst 0, 1) := by decide +kernel
theorem dX6_lose_31 : decode cX6_lose 31 = .ok (.bastore, 1) := by decide +kernel
theorem dX6_lose_32 : decode cX6_lose 32 = .ok (.aload_n 0, 1) := by decide +kernel
theorem dX6_lose_33 : decode cX6_lose 33 = .ok (.getfield 69, 3) := by decide +kernel
theorem dX6_lose_36 : decode cX6_lose 36 = .ok (.iload_n 1, 1) := by decide +kernel
theorem dX6_lose_37 : decode cX6_lose 37 = .ok (.iaload, 1) := by decide +kernel
theorem dX6_lose_38 : decode cX6_lose 38 = .ok (.ireturn, 1) := by decide +kernel
set_option maxRecDepth 20000 in
theorem ggX6_lacks_X6_in : GoodIn wsX6_lacks wsX6_in := goodIn_r _ [7] (by decide +kernel) (by decide +kernel)
set_option maxRecDepth 20000 in
theorem gX6_lacks_X6_in : GoodIn wsX6_lacks (va_wsS RX6 81 yX6_in wsX6_in) := goodIn_app (goodIn_of _ (by decide +kernel)) ggX6_lacks_X6_in
theorem dX6_lacks_0 : decode cX6_lacks 0 = .ok (.aload_n 0, 1) := by decide +kernel
theorem dX6_lacks_1 : decode cX6_lacks 1 = .ok (.getfield 63, 3) := by decide +kernel
theorem dX6_lacks_4 : decode cX6_lacks 4 = .ok (.iload_n 1, 1) := by decide +kernel
theorem dX6_lacks_5 : decode cX6_lacks 5 = .ok (.baload, 1) := by decide +kernel
theorem dX6_lacks_6 : decode cX6_lacks 6 = .ok (.ifCond .ne 7, 3) := by decide +kernel
theorem dX6_lacks_9 : decode cX6_lacks 9 = .ok (.iconst 1, 1) := by decide +kernel
theorem dX6_lacks_10 : decode cX6_lacks 10 = .ok (.goto 38, 3) := by decide +kernel
theorem dX6_lacks_13 : decode cX6_lacks 13 = .ok (.aload_n 0, 1) := by decide +kernel
theorem dX6_lacks_14 : decode cX6_lacks 14 = .ok (.getfield 66, 3) := by decide +kernel
theorem dX6_lacks_17 : decode cX6_lacks 17 = .ok (.iload_n 1, 1) := by decide +kernel
theorem dX6_lacks_18 : decode cX6_lacks 18 = .ok (.iaload, 1) := by decide +kernel
theorem dX6_lacks_19 : decode cX6_lacks 19 = .ok (.iload_n 2, 1) := by decide +kernel
theorem dX6_lacks_20 : decode cX6_lacks 20 = .ok (.if_icmp .eq 7, 3) := by decide +kernel
theorem dX6_lacks_23 : decode cX6_lacks 23 = .ok (.iconst 3, 1) := by decide +kernel
theorem dX6_lacks_24 : decode cX6_lacks 24 = .ok (.goto 24, 3) := by decide +kernel
theorem dX6_lacks_27 : decode cX6_lacks 27 = .ok (.iload_n 3, 1) := by decide +kernel
theorem dX6_lacks_28 : decode cX6_lacks 28 = .ok (.iconst 0, 1) := by decide +kernel
theorem dX6_lacks_29 : decode cX6_lacks 29 = .ok (.aload_n 0, 1) := by decide +kernel
theorem dX6_lacks_30 : decode cX6_lacks 30 = .ok (.getfield 69, 3) := by decide +kernel
theorem dX6_lacks_33 : decode cX6_lacks 33 = .ok (.iload_n 1, 1) := by decide +kernel
theorem dX6_lacks_34 : decode cX6_lacks 34 = .ok (.iaload, 1) := by decide +kernel
theorem dX6_lacks_35 : decode cX6_lacks 35 = .ok (.iconst 1, 1) := by decide +kernel
theorem dX6_lacks_36 : decode cX6_lacks 36 = .ok (.isub, 1) := by decide +kernel
theorem dX6_lacks_37 : decode cX6_lacks 37 = .ok (.invokestatic 81, 3) := by decide +kernel
theorem dX6_lacks_40 : decode cX6_lacks 40 = .ok (.ifCond .eq 7, 3) := by decide +kernel
theorem dX6_lacks_43 : decode cX6_lacks 43 = .ok (.iconst 0, 1) := by decide +kernel
theorem dX6_lacks_44 : decode cX6_lacks 44 = .ok (.goto 4, 3) := by decide +kernel
theorem dX6_lacks_47 : decode cX6_lacks 47 = .ok (.iconst 2, 1) := by decide +kernel
theorem dX6_lacks_48 : decode cX6_lacks 48 = .ok (.ireturn, 1) := by decide +kernel
set_option maxRecDepth 20000 in
theorem ggX6_put_X6_isSheet : GoodIn wsX6_put wsX6_isSheet := goodIn_r _ [5, 6, 7, 4, 8] (by decide +kernel) (by decide +kernel)
set_option maxRecDepth 20000 in
theorem gX6_put_X6_isSheet : GoodIn wsX6_put (va_wsS RX6 165 yX6_isSheet wsX6_isSheet) := goodIn_app (goodIn_of _ (by decide +kernel)) ggX6_put_X6_isSheet
set_option maxRecDepth 20000 in
theorem ggX6_put_X6_in : GoodIn wsX6_put wsX6_in := goodIn_r _ [8] (by decide +kernel) (by decide +kernel)
set_option maxRecDepth 20000 in
theorem gX6_put_X6_in : GoodIn wsX6_put (va_wsS RX6 81 yX6_in wsX6_in) := goodIn_app (goodIn_of _ (by decide +kernel)) ggX6_put_X6_in
set_option maxRecDepth 20000 in
theorem ggX6_put_X6_lacks : GoodIn wsX6_put wsX6_lacks := goodIn_r _ [12, 13, 14, 15, 6, 7, 4, 8, 21, 22, 23, 24, 25, 26, 27, 28, 29, 30, 31, 32, 33, 34, 35, 36, 37, 38, 39, 40, 41, 42, 43, 44, 45, 46] (by decide +kernel) (by decide +kernel)
set_option maxRecDepth 20000 in
theorem gX6_put_X6_lacks : GoodIn wsX6_put (wsV RX6 171 RX6 yX6_lacks wsX6_lacks) := goodIn_app (goodIn_of _ (by decide +kernel)) ggX6_put_X6_lacks
set_option maxRecDepth 20000 in
theorem ggX6_put_X6_meets : GoodIn wsX6_put wsX6_meets := goodIn_r _ [19, 20, 21, 22, 23, 24, 25, 26, 27, 28, 29, 30, 31, 32, 33, 34, 35, 36, 37, 38, 39, 40, 41, 42, 43, 44, 45, 46] (by decide +kernel) (by decide +kernel)
set_option maxRecDepth 20000 in
theorem gX6_put_X6_meets : GoodIn wsX6_put (wsV RX6 168 RX6 yX6_meets wsX6_meets) := goodIn_app (goodIn_of _ (by decide +kernel)) ggX6_put_X6_meets
theorem dX6_put_0 : decode cX6_put 0 = .ok (.iload_n 1, 1) := by decide +kernel
theorem dX6_put_1 : decode cX6_put 1 = .ok (.invokestatic 165, 3) := by decide +kernel
theorem dX6_put_4 : decode cX6_put 4 = .ok (.ifCond .eq 12, 3) := by decide +kernel
theorem dX6_put_7 : decode cX6_put 7 = .ok (.iload_n 2, 1) := by decide +kernel
theorem dX6_put_8 : decode cX6_put 8 = .ok (.iconst 0, 1) := by decide +kernel
theorem dX6_put_9 : decode cX6_put 9 = .ok (.iconst 2, 1) := by decide +kernel
theorem dX6_put_10 : decode cX6_put 10 = .ok (.invokestatic 81, 3) := by decide +kernel
theorem dX6_put_13 : decode cX6_put 13 = .ok (.ifCond .ne 6, 3) := by decide +kernel
theorem dX6_put_16 : decode cX6_put 16 = .ok (.bipush (-2), 2) := by decide +kernel
theorem dX6_put_18 : decode cX6_put 18 = .ok (.ireturn, 1) := by decide +kernel
theorem dX6_put_19 : decode cX6_put 19 = .ok (.aload_n 0, 1) := by decide +kernel
theorem dX6_put_20 : decode cX6_put 20 = .ok (.iload_n 1, 1) := by decide +kernel
theorem dX6_put_21 : decode cX6_put 21 = .ok (.iload_n 2, 1) := by decide +kernel
theorem dX6_put_22 : decode cX6_put 22 = .ok (.iload_n 3, 1) := by decide +kernel
theorem dX6_put_23 : decode cX6_put 23 = .ok (.invokevirtual 171, 3) := by decide +kernel
theorem dX6_put_26 : decode cX6_put 26 = .ok (.istore 5, 2) := by decide +kernel
theorem dX6_put_28 : decode cX6_put 28 = .ok (.iload 5, 2) := by decide +kernel
theorem dX6_put_30 : decode cX6_put 30 = .ok (.ifCond .le 10, 3) := by decide +kernel
theorem dX6_put_33 : decode cX6_put 33 = .ok (.aload_n 0, 1) := by decide +kernel
theorem dX6_put_34 : decode cX6_put 34 = .ok (.iload 5, 2) := by decide +kernel
theorem dX6_put_36 : decode cX6_put 36 = .ok (.invokevirtual 168, 3) := by decide +kernel
theorem dX6_put_39 : decode cX6_put 39 = .ok (.ireturn, 1) := by decide +kernel
theorem dX6_put_40 : decode cX6_put 40 = .ok (.aload_n 0, 1) := by decide +kernel
theorem dX6_put_41 : decode cX6_put 41 = .ok (.getfield 72, 3) := by decide +kernel
theorem dX6_put_44 : decode cX6_put 44 = .ok (.bipush 60, 2) := by decide +kernel
theorem dX6_put_46 : decode cX6_put 46 = .ok (.iload_n 1, 1) := by decide +kernel
theorem dX6_put_47 : decode cX6_put 47 = .ok (.imul, 1) := by decide +kernel
theorem dX6_put_48 : decode cX6_put 48 = .ok (.iload_n 3, 1) := by decide +kernel
theorem dX6_put_49 : decode cX6_put 49 = .ok (.iadd, 1) := by decide +kernel
theorem dX6_put_50 : decode cX6_put 50 = .ok (.iload_n 2, 1) := by decide +kernel
theorem dX6_put_51 : decode cX6_put 51 = .ok (.ifCond .ne 9, 3) := by decide +kernel
theorem dX6_put_54 : decode cX6_put 54 = .ok (.iload 4, 2) := by decide +kernel
theorem dX6_put_56 : decode cX6_put 56 = .ok (.i2b, 1) := by decide +kernel
theorem dX6_put_57 : decode cX6_put 57 = .ok (.goto 16, 3) := by decide +kernel
theorem dX6_put_60 : decode cX6_put 60 = .ok (.iload_n 2, 1) := by decide +kernel
theorem dX6_put_61 : decode cX6_put 61 = .ok (.iconst 1, 1) := by decide +kernel
theorem dX6_put_62 : decode cX6_put 62 = .ok (.if_icmp .ne 9, 3) := by decide +kernel
theorem dX6_put_65 : decode cX6_put 65 = .ok (.iload 4, 2) := by decide +kernel
theorem dX6_put_67 : decode cX6_put 67 = .ok (.i2s, 1) := by decide +kernel
theorem dX6_put_68 : decode cX6_put 68 = .ok (.goto 5, 3) := by decide +kernel
theorem dX6_put_71 : decode cX6_put 71 = .ok (.iload 4, 2) := by decide +kernel
theorem dX6_put_73 : decode cX6_put 73 = .ok (.iastore, 1) := by decide +kernel
theorem dX6_put_74 : decode cX6_put 74 = .ok (.iconst 1, 1) := by decide +kernel
theorem dX6_put_75 : decode cX6_put 75 = .ok (.ireturn, 1) := by decide +kernel
set_option maxRecDepth 20000 in
theorem ggX6_get_X6_isSheet : GoodIn wsX6_get wsX6_isSheet := goodIn_r _ [7, 8, 9, 6, 10] (by decide +kernel) (by decide +kernel)
set_option maxRecDepth 20000 in
theorem gX6_get_X6_isSheet : GoodIn wsX6_get (va_wsS RX6 165 yX6_isSheet wsX6_isSheet) := goodIn_app (goodIn_of _ (by decide +kernel)) ggX6_get_X6_isSheet
set_option maxRecDepth 20000 in
theorem ggX6_get_X6_in : GoodIn wsX6_get wsX6_in := goodIn_r _ [10] (by decide +kernel) (by decide +kernel)
set_option maxRecDepth 20000 in
theorem gX6_get_X6_in : GoodIn wsX6_get (va_wsS RX6 81 yX6_in wsX6_in) := goodIn_app (goodIn_of _ (by decide +kernel)) ggX6_get_X6_in
set_option maxRecDepth 20000 in
theorem ggX6_get_X6_lacks : GoodIn wsX6_get wsX6_lacks := goodIn_r _ [14, 15, 16, 17, 8, 9, 6, 10, 18, 19, 20, 21, 22, 23, 24, 25, 26, 27, 28, 29, 30, 31, 32, 33, 34, 35, 36, 37, 38, 39, 40, 41, 42, 43] (by decide +kernel) (by decide +kernel)
set_option maxRecDepth 20000 in
theorem gX6_get_X6_lacks : GoodIn wsX6_get (wsV RX6 171 RX6 yX6_lacks wsX6_lacks) := goodIn_app (goodIn_of _ (by decide +kernel)) ggX6_get_X6_lacks
theorem dX6_get_0 : decode cX6_get 0 = .ok (.iload_n 1, 1) := by decide +kernel
theorem dX6_get_1 : decode cX6_get 1 = .ok (.invokestatic 165, 3) := by decide +kernel
theorem dX6_get_4 : decode cX6_get 4 = .ok (.ifCond .eq 12, 3) := by decide +kernel
theorem dX6_get_7 : decode cX6_get 7 = .ok (.iload_n 2, 1) := by decide +kernel
theorem dX6_get_8 : decode cX6_get 8 = .ok (.iconst 0, 1) := by decide +kernel
theorem dX6_get_9 : decode cX6_get 9 = .ok (.iconst 2, 1) := by decide +kernel
theorem dX6_get_10 : decode cX6_get 10 = .ok (.invokestatic 81, 3) := by decide +kernel
theorem dX6_get_13 : decode cX6_get 13 = .ok (.ifCond .ne 6, 3) := by decide +kernel
theorem dX6_get_16 : decode cX6_get 16 = .ok (.ldc 174, 2) := by decide +kernel
theorem dX6_get_18 : decode cX6_get 18 = .ok (.ireturn, 1) := by decide +kernel
theorem dX6_get_19 : decode cX6_get 19 = .ok (.aload_n 0, 1) := by decide +kernel
theorem dX6_get_20 : decode cX6_get 20 = .ok (.iload_n 1, 1) := by decide +kernel
theorem dX6_get_21 : decode cX6_get 21 = .ok (.iload_n 2, 1) := by decide +kernel
theorem dX6_get_22 : decode cX6_get 22 = .ok (.iload_n 3, 1) := by decide +kernel
theorem dX6_get_23 : decode cX6_get 23 = .ok (.invokevirtual 171, 3) := by decide +kernel
theorem dX6_get_26 : decode cX6_get 26 = .ok (.istore 4, 2) := by decide +kernel
theorem dX6_get_28 : decode cX6_get 28 = .ok (.iload 4, 2) := by decide +kernel
theorem dX6_get_30 : decode cX6_get 30 = .ok (.ifCond .le 12, 3) := by decide +kernel
theorem dX6_get_33 : decode cX6_get 33 = .ok (.aload_n 0, 1) := by decide +kernel
theorem dX6_get_34 : decode cX6_get 34 = .ok (.iload 4, 2) := by decide +kernel
theorem dX6_get_36 : decode cX6_get 36 = .ok (.putfield 162, 3) := by decide +kernel
theorem dX6_get_39 : decode cX6_get 39 = .ok (.ldc 174, 2) := by decide +kernel
theorem dX6_get_41 : decode cX6_get 41 = .ok (.ireturn, 1) := by decide +kernel
theorem dX6_get_42 : decode cX6_get 42 = .ok (.aload_n 0, 1) := by decide +kernel
theorem dX6_get_43 : decode cX6_get 43 = .ok (.getfield 72, 3) := by decide +kernel
theorem dX6_get_46 : decode cX6_get 46 = .ok (.bipush 60, 2) := by decide +kernel
theorem dX6_get_48 : decode cX6_get 48 = .ok (.iload_n 1, 1) := by decide +kernel
theorem dX6_get_49 : decode cX6_get 49 = .ok (.imul, 1) := by decide +kernel
theorem dX6_get_50 : decode cX6_get 50 = .ok (.iload_n 3, 1) := by decide +kernel
theorem dX6_get_51 : decode cX6_get 51 = .ok (.iadd, 1) := by decide +kernel
theorem dX6_get_52 : decode cX6_get 52 = .ok (.iaload, 1) := by decide +kernel
theorem dX6_get_53 : decode cX6_get 53 = .ok (.ireturn, 1) := by decide +kernel
set_option maxRecDepth 20000 in
theorem ggX6_move_X6_isSheet : GoodIn wsX6_move wsX6_isSheet := goodIn_r _ [9, 10, 11, 8, 12] (by decide +kernel) (by decide +kernel)
set_option maxRecDepth 20000 in
theorem gX6_move_X6_isSheet : GoodIn wsX6_move (va_wsS RX6 165 yX6_isSheet wsX6_isSheet) := goodIn_app (goodIn_of _ (by decide +kernel)) ggX6_move_X6_isSheet
set_option maxRecDepth 20000 in
theorem ggX6_move_X6_meets : GoodIn wsX6_move wsX6_meets := goodIn_r _ [16, 17, 18, 19, 20, 21, 22, 23, 24, 25, 26, 27, 28, 29, 30, 31, 32, 33, 34, 35, 36, 37, 38, 39, 40, 41, 42, 43] (by decide +kernel) (by decide +kernel)
set_option maxRecDepth 20000 in
theorem gX6_move_X6_meets : GoodIn wsX6_move (wsV RX6 168 RX6 yX6_meets wsX6_meets) := goodIn_app (goodIn_of _ (by decide +kernel)) ggX6_move_X6_meets
theorem dX6_move_0 : decode cX6_move 0 = .ok (.iload_n 1, 1) := by decide +kernel
theorem dX6_move_1 : decode cX6_move 1 = .ok (.invokestatic 165, 3) := by decide +kernel
theorem dX6_move_4 : decode cX6_move 4 = .ok (.ifCond .eq 10, 3) := by decide +kernel
theorem dX6_move_7 : decode cX6_move 7 = .ok (.iload_n 3, 1) := by decide +kernel
theorem dX6_move_8 : decode cX6_move 8 = .ok (.invokestatic 165, 3) := by decide +kernel
theorem dX6_move_11 : decode cX6_move 11 = .ok (.ifCond .ne 6, 3) := by decide +kernel
theorem dX6_move_14 : decode cX6_move 14 = .ok (.bipush (-2), 2) := by decide +kernel
theorem dX6_move_16 : decode cX6_move 16 = .ok (.ireturn, 1) := by decide +kernel
theorem dX6_move_17 : decode cX6_move 17 = .ok (.aload_n 0, 1) := by decide +kernel
theorem dX6_move_18 : decode cX6_move 18 = .ok (.getfield 63, 3) := by decide +kernel
theorem dX6_move_21 : decode cX6_move 21 = .ok (.iload_n 1, 1) := by decide +kernel
theorem dX6_move_22 : decode cX6_move 22 = .ok (.baload, 1) := by decide +kernel
theorem dX6_move_23 : decode cX6_move 23 = .ok (.ifCond .eq 12, 3) := by decide +kernel
theorem dX6_move_26 : decode cX6_move 26 = .ok (.aload_n 0, 1) := by decide +kernel
theorem dX6_move_27 : decode cX6_move 27 = .ok (.getfield 63, 3) := by decide +kernel
theorem dX6_move_30 : decode cX6_move 30 = .ok (.iload_n 3, 1) := by decide +kernel
theorem dX6_move_31 : decode cX6_move 31 = .ok (.baload, 1) := by decide +kernel
theorem dX6_move_32 : decode cX6_move 32 = .ok (.ifCond .ne 9, 3) := by decide +kernel
theorem dX6_move_35 : decode cX6_move 35 = .ok (.aload_n 0, 1) := by decide +kernel
theorem dX6_move_36 : decode cX6_move 36 = .ok (.iconst 1, 1) := by decide +kernel
theorem dX6_move_37 : decode cX6_move 37 = .ok (.invokevirtual 168, 3) := by decide +kernel
theorem dX6_move_40 : decode cX6_move 40 = .ok (.ireturn, 1) := by decide +kernel
theorem dX6_move_41 : decode cX6_move 41 = .ok (.aload_n 0, 1) := by decide +kernel
theorem dX6_move_42 : decode cX6_move 42 = .ok (.getfield 66, 3) := by decide +kernel
theorem dX6_move_45 : decode cX6_move 45 = .ok (.iload_n 1, 1) := by decide +kernel
theorem dX6_move_46 : decode cX6_move 46 = .ok (.iaload, 1) := by decide +kernel
theorem dX6_move_47 : decode cX6_move 47 = .ok (.aload_n 0, 1) := by decide +kernel
theorem dX6_move_48 : decode cX6_move 48 = .ok (.getfield 66, 3) := by decide +kernel
theorem dX6_move_51 : decode cX6_move 51 = .ok (.iload_n 3, 1) := by decide +kernel
theorem dX6_move_52 : decode cX6_move 52 = .ok (.iaload, 1) := by decide +kernel
theorem dX6_move_53 : decode cX6_move 53 = .ok (.if_icmp .eq 9, 3) := by decide +kernel
theorem dX6_move_56 : decode cX6_move 56 = .ok (.aload_n 0, 1) := by decide +kernel
theorem dX6_move_57 : decode cX6_move 57 = .ok (.iconst 4, 1) := by decide +kernel
theorem dX6_move_58 : decode cX6_move 58 = .ok (.invokevirtual 168, 3) := by decide +kernel
theorem dX6_move_61 : decode cX6_move 61 = .ok (.ireturn, 1) := by decide +kernel
theorem dX6_move_62 : decode cX6_move 62 = .ok (.iload_n 2, 1) := by decide +kernel
theorem dX6_move_63 : decode cX6_move 63 = .ok (.ifCond .lt 48, 3) := by decide +kernel
theorem dX6_move_66 : decode cX6_move 66 = .ok (.iload 4, 2) := by decide +kernel
theorem dX6_move_68 : decode cX6_move 68 = .ok (.ifCond .lt 43, 3) := by decide +kernel
theorem dX6_move_71 : decode cX6_move 71 = .ok (.iload 5, 2) := by decide +kernel
theorem dX6_move_73 : decode cX6_move 73 = .ok (.ifCond .lt 38, 3) := by decide +kernel
theorem dX6_move_76 : decode cX6_move 76 = .ok (.iload_n 2, 1) := by decide +kernel
theorem dX6_move_77 : decode cX6_move 77 = .ok (.i2l, 1) := by decide +kernel
theorem dX6_move_78 : decode cX6_move 78 = .ok (.iload 5, 2) := by decide +kernel
theorem dX6_move_80 : decode cX6_move 80 = .ok (.i2l, 1) := by decide +kernel
theorem dX6_move_81 : decode cX6_move 81 = .ok (.ladd, 1) := by decide +kernel
theorem dX6_move_82 : decode cX6_move 82 = .ok (.aload_n 0, 1) := by decide +kernel
theorem dX6_move_83 : decode cX6_move 83 = .ok (.getfield 69, 3) := by decide +kernel
theorem dX6_move_86 : decode cX6_move 86 = .ok (.iload_n 1, 1) := by decide +kernel
theorem dX6_move_87 : decode cX6_move 87 = .ok (.iaload, 1) := by decide +kernel
theorem dX6_move_88 : decode cX6_move 88 = .ok (.i2l, 1) := by decide +kernel
theorem dX6_move_89 : decode cX6_move 89 = .ok (.lcmp, 1) := by decide +kernel
theorem dX6_move_90 : decode cX6_move 90 = .ok (.ifCond .gt 21, 3) := by decide +kernel
theorem dX6_move_93 : decode cX6_move 93 = .ok (.iload 4, 2) := by decide +kernel
theorem dX6_move_95 : decode cX6_move 95 = .ok (.i2l, 1) := by decide +kernel
theorem dX6_move_96 : decode cX6_move 96 = .ok (.iload 5, 2) := by decide +kernel
theorem dX6_move_98 : decode cX6_move 98 = .ok (.i2l, 1) := by decide +kernel
theorem dX6_move_99 : decode cX6_move 99 = .ok (.ladd, 1) := by decide +kernel
theorem dX6_move_100 : decode cX6_move 100 = .ok (.aload_n 0, 1) := by decide +kernel
theorem dX6_move_101 : decode cX6_move 101 = .ok (.getfield 69, 3) := by decide +kernel
theorem dX6_move_104 : decode cX6_move 104 = .ok (.iload_n 3, 1) := by decide +kernel
theorem dX6_move_105 : decode cX6_move 105 = .ok (.iaload, 1) := by decide +kernel
theorem dX6_move_106 : decode cX6_move 106 = .ok (.i2l, 1) := by decide +kernel
theorem dX6_move_107 : decode cX6_move 107 = .ok (.lcmp, 1) := by decide +kernel
theorem dX6_move_108 : decode cX6_move 108 = .ok (.ifCond .le 9, 3) := by decide +kernel
theorem dX6_move_111 : decode cX6_move 111 = .ok (.aload_n 0, 1) := by decide +kernel
theorem dX6_move_112 : decode cX6_move 112 = .ok (.iconst 2, 1) := by decide +kernel
theorem dX6_move_113 : decode cX6_move 113 = .ok (.invokevirtual 168, 3) := by decide +kernel
theorem dX6_move_116 : decode cX6_move 116 = .ok (.ireturn, 1) := by decide +kernel
theorem dX6_move_117 : decode cX6_move 117 = .ok (.iconst 0, 1) := by decide +kernel
theorem dX6_move_118 : decode cX6_move 118 = .ok (.istore 6, 2) := by decide +kernel
theorem dX6_move_120 : decode cX6_move 120 = .ok (.iload 6, 2) := by decide +kernel
theorem dX6_move_122 : decode cX6_move 122 = .ok (.iload 5, 2) := by decide +kernel
theorem dX6_move_124 : decode cX6_move 124 = .ok (.if_icmp .ge 30, 3) := by decide +kernel
theorem dX6_move_127 : decode cX6_move 127 = .ok (.aload_n 0, 1) := by decide +kernel
theorem dX6_move_128 : decode cX6_move 128 = .ok (.getfield 75, 3) := by decide +kernel
theorem dX6_move_131 : decode cX6_move 131 = .ok (.iload 6, 2) := by decide +kernel
theorem dX6_move_133 : decode cX6_move 133 = .ok (.aload_n 0, 1) := by decide +kernel
theorem dX6_move_134 : decode cX6_move 134 = .ok (.getfield 72, 3) := by decide +kernel
theorem dX6_move_137 : decode cX6_move 137 = .ok (.bipush 60, 2) := by decide +kernel
theorem dX6_move_139 : decode cX6_move 139 = .ok (.iload_n 1, 1) := by decide +kernel
theorem dX6_move_140 : decode cX6_move 140 = .ok (.imul, 1) := by decide +kernel
theorem dX6_move_141 : decode cX6_move 141 = .ok (.iload_n 2, 1) := by decide +kernel
theorem dX6_move_142 : decode cX6_move 142 = .ok (.iadd, 1) := by decide +kernel
theorem dX6_move_143 : decode cX6_move 143 = .ok (.iload 6, 2) := by decide +kernel
theorem dX6_move_145 : decode cX6_move 145 = .ok (.iadd, 1) := by decide +kernel
theorem dX6_move_146 : decode cX6_move 146 = .ok (.iaload, 1) := by decide +kernel
theorem dX6_move_147 : decode cX6_move 147 = .ok (.iastore, 1) := by decide +kernel
theorem dX6_move_148 : decode cX6_move 148 = .ok (.iinc 6 1, 3) := by decide +kernel
theorem dX6_move_151 : decode cX6_move 151 = .ok (.goto (-31), 3) := by decide +kernel
theorem dX6_move_154 : decode cX6_move 154 = .ok (.iconst 0, 1) := by decide +kernel
theorem dX6_move_155 : decode cX6_move 155 = .ok (.istore 6, 2) := by decide +kernel
theorem dX6_move_157 : decode cX6_move 157 = .ok (.iload 6, 2) := by decide +kernel
theorem dX6_move_159 : decode cX6_move 159 = .ok (.iload 5, 2) := by decide +kernel
theorem dX6_move_161 : decode cX6_move 161 = .ok (.if_icmp .ge 31, 3) := by decide +kernel
theorem dX6_move_164 : decode cX6_move 164 = .ok (.aload_n 0, 1) := by decide +kernel
theorem dX6_move_165 : decode cX6_move 165 = .ok (.getfield 72, 3) := by decide +kernel
theorem dX6_move_168 : decode cX6_move 168 = .ok (.bipush 60, 2) := by decide +kernel
theorem dX6_move_170 : decode cX6_move 170 = .ok (.iload_n 3, 1) := by decide +kernel
theorem dX6_move_171 : decode cX6_move 171 = .ok (.imul, 1) := by decide +kernel
theorem dX6_move_172 : decode cX6_move 172 = .ok (.iload 4, 2) := by decide +kernel
theorem dX6_move_174 : decode cX6_move 174 = .ok (.iadd, 1) := by decide +kernel
theorem dX6_move_175 : decode cX6_move 175 = .ok (.iload 6, 2) := by decide +kernel
theorem dX6_move_177 : decode cX6_move 177 = .ok (.iadd, 1) := by decide +kernel
theorem dX6_move_178 : decode cX6_move 178 = .ok (.aload_n 0, 1) := by decide +kernel
theorem dX6_move_179 : decode cX6_move 179 = .ok (.getfield 75, 3) := by decide +kernel
theorem dX6_move_182 : decode cX6_move 182 = .ok (.iload 6, 2) := by decide +kernel
theorem dX6_move_184 : decode cX6_move 184 = .ok (.iaload, 1) := by decide +kernel
theorem dX6_move_185 : decode cX6_move 185 = .ok (.iastore, 1) := by decide +kernel
theorem dX6_move_186 : decode cX6_move 186 = .ok (.iinc 6 1, 3) := by decide +kernel
theorem dX6_move_189 : decode cX6_move 189 = .ok (.goto (-32), 3) := by decide +kernel
theorem dX6_move_192 : decode cX6_move 192 = .ok (.iconst 1, 1) := by decide +kernel
theorem dX6_move_193 : decode cX6_move 193 = .ok (.ireturn, 1) := by decide +kernel
theorem dX6_count_0 : decode cX6_count 0 = .ok (.iconst 0, 1) := by decide +kernel
theorem dX6_count_1 : decode cX6_count 1 = .ok (.istore_n 2, 1) := by decide +kernel
theorem dX6_count_2 : decode cX6_count 2 = .ok (.iconst 0, 1) := by decide +kernel
theorem dX6_count_3 : decode cX6_count 3 = .ok (.istore_n 3, 1) := by decide +kernel
theorem dX6_count_4 : decode cX6_count 4 = .ok (.iconst 0, 1) := by decide +kernel
theorem dX6_count_5 : decode cX6_count 5 = .ok (.istore 4, 2) := by decide +kernel
theorem dX6_count_7 : decode cX6_count 7 = .ok (.iconst 0, 1) := by decide +kernel
theorem dX6_count_8 : decode cX6_count 8 = .ok (.istore 5, 2) := by decide +kernel
theorem dX6_count_10 : decode cX6_count 10 = .ok (.iload 5, 2) := by decide +kernel
theorem dX6_count_12 : decode cX6_count 12 = .ok (.aload_n 0, 1) := by decide +kernel
theorem dX6_count_13 : decode cX6_count 13 = .ok (.getfield 78, 3) := by decide +kernel
theorem dX6_count_16 : decode cX6_count 16 = .ok (.if_icmp .ge 65, 3) := by decide +kernel
theorem dX6_count_19 : decode cX6_count 19 = .ok (.iload_n 2, 1) := by decide +kernel
theorem dX6_count_20 : decode cX6_count 20 = .ok (.aload_n 0, 1) := by decide +kernel
theorem dX6_count_21 : decode cX6_count 21 = .ok (.getfield 19, 3) := by decide +kernel
theorem dX6_count_24 : decode cX6_count 24 = .ok (.iload 5, 2) := by decide +kernel
theorem dX6_count_26 : decode cX6_count 26 = .ok (.baload, 1) := by decide +kernel
theorem dX6_count_27 : decode cX6_count 27 = .ok (.ifCond .eq 7, 3) := by decide +kernel
theorem dX6_count_30 : decode cX6_count 30 = .ok (.iconst 1, 1) := by decide +kernel
theorem dX6_count_31 : decode cX6_count 31 = .ok (.goto 4, 3) := by decide +kernel
theorem dX6_count_34 : decode cX6_count 34 = .ok (.iconst 0, 1) := by decide +kernel
theorem dX6_count_35 : decode cX6_count 35 = .ok (.iadd, 1) := by decide +kernel
theorem dX6_count_36 : decode cX6_count 36 = .ok (.istore_n 2, 1) := by decide +kernel
theorem dX6_count_37 : decode cX6_count 37 = .ok (.iload_n 3, 1) := by decide +kernel
theorem dX6_count_38 : decode cX6_count 38 = .ok (.aload_n 0, 1) := by decide +kernel
theorem dX6_count_39 : decode cX6_count 39 = .ok (.getfield 23, 3) := by decide +kernel
theorem dX6_count_42 : decode cX6_count 42 = .ok (.iload 5, 2) := by decide +kernel
theorem dX6_count_44 : decode cX6_count 44 = .ok (.baload, 1) := by decide +kernel
theorem dX6_count_45 : decode cX6_count 45 = .ok (.ifCond .eq 7, 3) := by decide +kernel
theorem dX6_count_48 : decode cX6_count 48 = .ok (.iconst 1, 1) := by decide +kernel
theorem dX6_count_49 : decode cX6_count 49 = .ok (.goto 4, 3) := by decide +kernel
theorem dX6_count_52 : decode cX6_count 52 = .ok (.iconst 0, 1) := by decide +kernel
theorem dX6_count_53 : decode cX6_count 53 = .ok (.iadd, 1) := by decide +kernel
theorem dX6_count_54 : decode cX6_count 54 = .ok (.istore_n 3, 1) := by decide +kernel
theorem dX6_count_55 : decode cX6_count 55 = .ok (.iload 4, 2) := by decide +kernel
theorem dX6_count_57 : decode cX6_count 57 = .ok (.aload_n 0, 1) := by decide +kernel
theorem dX6_count_58 : decode cX6_count 58 = .ok (.getfield 26, 3) := by decide +kernel
theorem dX6_count_61 : decode cX6_count 61 = .ok (.iload 5, 2) := by decide +kernel
theorem dX6_count_63 : decode cX6_count 63 = .ok (.baload, 1) := by decide +kernel
theorem dX6_count_64 : decode cX6_count 64 = .ok (.ifCond .eq 7, 3) := by decide +kernel
theorem dX6_count_67 : decode cX6_count 67 = .ok (.iconst 1, 1) := by decide +kernel
theorem dX6_count_68 : decode cX6_count 68 = .ok (.goto 4, 3) := by decide +kernel
theorem dX6_count_71 : decode cX6_count 71 = .ok (.iconst 0, 1) := by decide +kernel
theorem dX6_count_72 : decode cX6_count 72 = .ok (.iadd, 1) := by decide +kernel
theorem dX6_count_73 : decode cX6_count 73 = .ok (.istore 4, 2) := by decide +kernel
theorem dX6_count_75 : decode cX6_count 75 = .ok (.iinc 5 1, 3) := by decide +kernel
theorem dX6_count_78 : decode cX6_count 78 = .ok (.goto (-68), 3) := by decide +kernel
theorem dX6_count_81 : decode cX6_count 81 = .ok (.iload_n 1, 1) := by decide +kernel
theorem dX6_count_82 : decode cX6_count 82 = .ok (.tableswitch 87 0 8 #[50, 55, 60, 65, 67, 69, 72, 77, 82], 50) := by decide +kernel
theorem dX6_count_132 : decode cX6_count 132 = .ok (.aload_n 0, 1) := by decide +kernel
theorem dX6_count_133 : decode cX6_count 133 = .ok (.getfield 78, 3) := by decide +kernel
theorem dX6_count_136 : decode cX6_count 136 = .ok (.ireturn, 1) := by decide +kernel
theorem dX6_count_137 : decode cX6_count 137 = .ok (.aload_n 0, 1) := by decide +kernel
theorem dX6_count_138 : decode cX6_count 138 = .ok (.getfield 89, 3) := by decide +kernel
theorem dX6_count_141 : decode cX6_count 141 = .ok (.ireturn, 1) := by decide +kernel
theorem dX6_count_142 : decode cX6_count 142 = .ok (.aload_n 0, 1) := by decide +kernel
theorem dX6_count_143 : decode cX6_count 143 = .ok (.getfield 92, 3) := by decide +kernel
theorem dX6_count_146 : decode cX6_count 146 = .ok (.ireturn, 1) := by decide +kernel
theorem dX6_count_147 : decode cX6_count 147 = .ok (.iload_n 2, 1) := by decide +kernel
theorem dX6_count_148 : decode cX6_count 148 = .ok (.ireturn, 1) := by decide +kernel
theorem dX6_count_149 : decode cX6_count 149 = .ok (.iload_n 3, 1) := by decide +kernel
theorem dX6_count_150 : decode cX6_count 150 = .ok (.ireturn, 1) := by decide +kernel
theorem dX6_count_151 : decode cX6_count 151 = .ok (.iload 4, 2) := by decide +kernel
theorem dX6_count_153 : decode cX6_count 153 = .ok (.ireturn, 1) := by decide +kernel
theorem dX6_count_154 : decode cX6_count 154 = .ok (.aload_n 0, 1) := by decide +kernel
theorem dX6_count_155 : decode cX6_count 155 = .ok (.getfield 162, 3) := by decide +kernel
theorem dX6_count_158 : decode cX6_count 158 = .ok (.ireturn, 1) := by decide +kernel
theorem dX6_count_159 : decode cX6_count 159 = .ok (.aload_n 0, 1) := by decide +kernel
theorem dX6_count_160 : decode cX6_count 160 = .ok (.getfield 35, 3) := by decide +kernel
theorem dX6_count_163 : decode cX6_count 163 = .ok (.ireturn, 1) := by decide +kernel
theorem dX6_count_164 : decode cX6_count 164 = .ok (.aload_n 0, 1) := by decide +kernel
theorem dX6_count_165 : decode cX6_count 165 = .ok (.getfield 39, 3) := by decide +kernel
theorem dX6_count_168 : decode cX6_count 168 = .ok (.ireturn, 1) := by decide +kernel
theorem dX6_count_169 : decode cX6_count 169 = .ok (.bipush (-2), 2) := by decide +kernel
theorem dX6_count_171 : decode cX6_count 171 = .ok (.ireturn, 1) := by decide +kernel
set_option maxRecDepth 20000 in
theorem ggX6_digest_X6_count : GoodIn wsX6_digest wsX6_count := goodIn_r _ [11, 3, 5, 12, 13, 14, 15, 16, 4, 17, 56, 57, 58, 59, 60, 61, 62, 63, 64, 65, 66, 67, 68, 69, 70, 71, 72, 73, 74, 75, 76, 77, 78, 79, 80, 81] (by decide +kernel) (by decide +kernel)
set_option maxRecDepth 20000 in
theorem gX6_digest_X6_count : GoodIn wsX6_digest (wsV RX6 179 RX6 yX6_count wsX6_count) := goodIn_app (goodIn_of _ (by decide +kernel)) ggX6_digest_X6_count
set_option maxRecDepth 20000 in
theorem ggX6_digest_X6_about : GoodIn wsX6_digest wsX6_about := goodIn_r _ [21, 22, 23, 24, 5, 12, 13, 25, 26, 27, 28, 29, 10, 30, 3, 31, 32, 33, 56, 57, 58, 59, 60, 61, 62, 63, 64, 65, 66, 67, 68, 69, 70, 71, 72, 73, 74, 75, 76, 77, 78, 79, 80, 81] (by decide +kernel) (by decide +kernel)
set_option maxRecDepth 20000 in
theorem gX6_digest_X6_about : GoodIn wsX6_digest (wsV RX6 182 RX6 yX6_about wsX6_about) := goodIn_app (goodIn_of _ (by decide +kernel)) ggX6_digest_X6_about
set_option maxRecDepth 20000 in
theorem ggX6_digest_X6_runsBare : GoodIn wsX6_digest wsX6_runsBare := goodIn_r _ [37, 3, 6, 22, 23, 24, 38, 39, 40, 10, 41, 42, 43, 44, 26, 45, 46, 47, 56, 57, 58, 59, 60, 61, 62, 63, 64, 65, 66, 67, 68, 69, 70, 71, 72, 73, 74, 75, 76, 77, 78, 79, 80, 81] (by decide +kernel) (by decide +kernel)
set_option maxRecDepth 20000 in
theorem gX6_digest_X6_runsBare : GoodIn wsX6_digest (wsV RX6 106 RX6 yX6_runsBare wsX6_runsBare) := goodIn_app (goodIn_of _ (by decide +kernel)) ggX6_digest_X6_runsBare
set_option maxRecDepth 20000 in
theorem ggX6_digest_X6_cost : GoodIn wsX6_digest wsX6_cost := goodIn_r _ [51, 3, 25, 13, 17, 52, 53, 54, 10, 55, 12, 56, 57, 58, 59, 60, 61, 62, 63, 64, 65, 66, 67, 68, 69, 70, 71, 72, 73, 74, 75, 76, 77, 78, 79, 80, 81] (by decide +kernel) (by decide +kernel)
set_option maxRecDepth 20000 in
theorem gX6_digest_X6_cost : GoodIn wsX6_digest (wsV RX6 185 RX6 yX6_cost wsX6_cost) := goodIn_app (goodIn_of _ (by decide +kernel)) ggX6_digest_X6_cost
theorem dX6_digest_0 : decode cX6_digest 0 = .ok (.ldc2_w 175, 3) := by decide +kernel
theorem dX6_digest_3 : decode cX6_digest 3 = .ok (.lstore_n 1, 1) := by decide +kernel
theorem dX6_digest_4 : decode cX6_digest 4 = .ok (.iconst 0, 1) := by decide +kernel
theorem dX6_digest_5 : decode cX6_digest 5 = .ok (.istore_n 3, 1) := by decide +kernel
theorem dX6_digest_6 : decode cX6_digest 6 = .ok (.iload_n 3, 1) := by decide +kernel
theorem dX6_digest_7 : decode cX6_digest 7 = .ok (.bipush 9, 2) := by decide +kernel
theorem dX6_digest_9 : decode cX6_digest 9 = .ok (.if_icmp .ge 32, 3) := by decide +kernel
theorem dX6_digest_12 : decode cX6_digest 12 = .ok (.iload_n 3, 1) := by decide +kernel
theorem dX6_digest_13 : decode cX6_digest 13 = .ok (.bipush 6, 2) := by decide +kernel
theorem dX6_digest_15 : decode cX6_digest 15 = .ok (.if_icmp .ne 7, 3) := by decide +kernel
theorem dX6_digest_18 : decode cX6_digest 18 = .ok (.lload_n 1, 1) := by decide +kernel
theorem dX6_digest_19 : decode cX6_digest 19 = .ok (.goto 15, 3) := by decide +kernel
theorem dX6_digest_22 : decode cX6_digest 22 = .ok (.ldc2_w 177, 3) := by decide +kernel
theorem dX6_digest_25 : decode cX6_digest 25 = .ok (.lload_n 1, 1) := by decide +kernel
theorem dX6_digest_26 : decode cX6_digest 26 = .ok (.lmul, 1) := by decide +kernel
theorem dX6_digest_27 : decode cX6_digest 27 = .ok (.aload_n 0, 1) := by decide +kernel
theorem dX6_digest_28 : decode cX6_digest 28 = .ok (.iload_n 3, 1) := by decide +kernel
theorem dX6_digest_29 : decode cX6_digest 29 = .ok (.invokevirtual 179, 3) := by decide +kernel
theorem dX6_digest_32 : decode cX6_digest 32 = .ok (.i2l, 1) := by decide +kernel
theorem dX6_digest_33 : decode cX6_digest 33 = .ok (.ladd, 1) := by decide +kernel
theorem dX6_digest_34 : decode cX6_digest 34 = .ok (.lstore_n 1, 1) := by decide +kernel
theorem dX6_digest_35 : decode cX6_digest 35 = .ok (.iinc 3 1, 3) := by decide +kernel
theorem dX6_digest_38 : decode cX6_digest 38 = .ok (.goto (-32), 3) := by decide +kernel
theorem dX6_digest_41 : decode cX6_digest 41 = .ok (.iconst 0, 1) := by decide +kernel
theorem dX6_digest_42 : decode cX6_digest 42 = .ok (.istore_n 3, 1) := by decide +kernel
theorem dX6_digest_43 : decode cX6_digest 43 = .ok (.iload_n 3, 1) := by decide +kernel
theorem dX6_digest_44 : decode cX6_digest 44 = .ok (.aload_n 0, 1) := by decide +kernel
theorem dX6_digest_45 : decode cX6_digest 45 = .ok (.getfield 78, 3) := by decide +kernel
theorem dX6_digest_48 : decode cX6_digest 48 = .ok (.if_icmp .ge 40, 3) := by decide +kernel
theorem dX6_digest_51 : decode cX6_digest 51 = .ok (.iconst 1, 1) := by decide +kernel
theorem dX6_digest_52 : decode cX6_digest 52 = .ok (.istore 4, 2) := by decide +kernel
theorem dX6_digest_54 : decode cX6_digest 54 = .ok (.iload 4, 2) := by decide +kernel
theorem dX6_digest_56 : decode cX6_digest 56 = .ok (.bipush 7, 2) := by decide +kernel
theorem dX6_digest_58 : decode cX6_digest 58 = .ok (.if_icmp .ge 24, 3) := by decide +kernel
theorem dX6_digest_61 : decode cX6_digest 61 = .ok (.ldc2_w 177, 3) := by decide +kernel
theorem dX6_digest_64 : decode cX6_digest 64 = .ok (.lload_n 1, 1) := by decide +kernel
theorem dX6_digest_65 : decode cX6_digest 65 = .ok (.lmul, 1) := by decide +kernel
theorem dX6_digest_66 : decode cX6_digest 66 = .ok (.aload_n 0, 1) := by decide +kernel
theorem dX6_digest_67 : decode cX6_digest 67 = .ok (.iload_n 3, 1) := by decide +kernel
theorem dX6_digest_68 : decode cX6_digest 68 = .ok (.iload 4, 2) := by decide +kernel
theorem dX6_digest_70 : decode cX6_digest 70 = .ok (.invokevirtual 182, 3) := by decide +kernel
theorem dX6_digest_73 : decode cX6_digest 73 = .ok (.i2l, 1) := by decide +kernel
theorem dX6_digest_74 : decode cX6_digest 74 = .ok (.ladd, 1) := by decide +kernel
theorem dX6_digest_75 : decode cX6_digest 75 = .ok (.lstore_n 1, 1) := by decide +kernel
theorem dX6_digest_76 : decode cX6_digest 76 = .ok (.iinc 4 1, 3) := by decide +kernel
theorem dX6_digest_79 : decode cX6_digest 79 = .ok (.goto (-25), 3) := by decide +kernel
theorem dX6_digest_82 : decode cX6_digest 82 = .ok (.iinc 3 1, 3) := by decide +kernel
theorem dX6_digest_85 : decode cX6_digest 85 = .ok (.goto (-42), 3) := by decide +kernel
theorem dX6_digest_88 : decode cX6_digest 88 = .ok (.aload_n 0, 1) := by decide +kernel
theorem dX6_digest_89 : decode cX6_digest 89 = .ok (.aload_n 0, 1) := by decide +kernel
theorem dX6_digest_90 : decode cX6_digest 90 = .ok (.getfield 35, 3) := by decide +kernel
theorem dX6_digest_93 : decode cX6_digest 93 = .ok (.invokevirtual 106, 3) := by decide +kernel
theorem dX6_digest_96 : decode cX6_digest 96 = .ok (.iconst 0, 1) := by decide +kernel
theorem dX6_digest_97 : decode cX6_digest 97 = .ok (.istore_n 3, 1) := by decide +kernel
theorem dX6_digest_98 : decode cX6_digest 98 = .ok (.iload_n 3, 1) := by decide +kernel
theorem dX6_digest_99 : decode cX6_digest 99 = .ok (.aload_n 0, 1) := by decide +kernel
theorem dX6_digest_100 : decode cX6_digest 100 = .ok (.getfield 78, 3) := by decide +kernel
theorem dX6_digest_103 : decode cX6_digest 103 = .ok (.if_icmp .ge 56, 3) := by decide +kernel
theorem dX6_digest_106 : decode cX6_digest 106 = .ok (.iconst 0, 1) := by decide +kernel
theorem dX6_digest_107 : decode cX6_digest 107 = .ok (.istore 4, 2) := by decide +kernel
theorem dX6_digest_109 : decode cX6_digest 109 = .ok (.iload 4, 2) := by decide +kernel
theorem dX6_digest_111 : decode cX6_digest 111 = .ok (.aload_n 0, 1) := by decide +kernel
theorem dX6_digest_112 : decode cX6_digest 112 = .ok (.getfield 35, 3) := by decide +kernel
theorem dX6_digest_115 : decode cX6_digest 115 = .ok (.if_icmp .ge 38, 3) := by decide +kernel
theorem dX6_digest_118 : decode cX6_digest 118 = .ok (.aload_n 0, 1) := by decide +kernel
theorem dX6_digest_119 : decode cX6_digest 119 = .ok (.getfield 19, 3) := by decide +kernel
theorem dX6_digest_122 : decode cX6_digest 122 = .ok (.iload_n 3, 1) := by decide +kernel
theorem dX6_digest_123 : decode cX6_digest 123 = .ok (.baload, 1) := by decide +kernel
theorem dX6_digest_124 : decode cX6_digest 124 = .ok (.ifCond .eq 29, 3) := by decide +kernel
theorem dX6_digest_127 : decode cX6_digest 127 = .ok (.ldc2_w 177, 3) := by decide +kernel
theorem dX6_digest_130 : decode cX6_digest 130 = .ok (.lload_n 1, 1) := by decide +kernel
theorem dX6_digest_131 : decode cX6_digest 131 = .ok (.lmul, 1) := by decide +kernel
theorem dX6_digest_132 : decode cX6_digest 132 = .ok (.aload_n 0, 1) := by decide +kernel
theorem dX6_digest_133 : decode cX6_digest 133 = .ok (.getfield 42, 3) := by decide +kernel
theorem dX6_digest_136 : decode cX6_digest 136 = .ok (.bipush 24, 2) := by decide +kernel
theorem dX6_digest_138 : decode cX6_digest 138 = .ok (.iload 4, 2) := by decide +kernel
theorem dX6_digest_140 : decode cX6_digest 140 = .ok (.imul, 1) := by decide +kernel
theorem dX6_digest_141 : decode cX6_digest 141 = .ok (.iload_n 3, 1) := by decide +kernel
theorem dX6_digest_142 : decode cX6_digest 142 = .ok (.iadd, 1) := by decide +kernel
theorem dX6_digest_143 : decode cX6_digest 143 = .ok (.iaload, 1) := by decide +kernel
theorem dX6_digest_144 : decode cX6_digest 144 = .ok (.i2l, 1) := by decide +kernel
theorem dX6_digest_145 : decode cX6_digest 145 = .ok (.ladd, 1) := by decide +kernel
theorem dX6_digest_146 : decode cX6_digest 146 = .ok (.lstore_n 1, 1) := by decide +kernel
theorem dX6_digest_147 : decode cX6_digest 147 = .ok (.iinc 4 1, 3) := by decide +kernel
theorem dX6_digest_150 : decode cX6_digest 150 = .ok (.goto (-41), 3) := by decide +kernel
theorem dX6_digest_153 : decode cX6_digest 153 = .ok (.iinc 3 1, 3) := by decide +kernel
theorem dX6_digest_156 : decode cX6_digest 156 = .ok (.goto (-58), 3) := by decide +kernel
theorem dX6_digest_159 : decode cX6_digest 159 = .ok (.ldc2_w 177, 3) := by decide +kernel
theorem dX6_digest_162 : decode cX6_digest 162 = .ok (.lload_n 1, 1) := by decide +kernel
theorem dX6_digest_163 : decode cX6_digest 163 = .ok (.lmul, 1) := by decide +kernel
theorem dX6_digest_164 : decode cX6_digest 164 = .ok (.aload_n 0, 1) := by decide +kernel
theorem dX6_digest_165 : decode cX6_digest 165 = .ok (.invokevirtual 185, 3) := by decide +kernel
theorem dX6_digest_168 : decode cX6_digest 168 = .ok (.i2l, 1) := by decide +kernel
theorem dX6_digest_169 : decode cX6_digest 169 = .ok (.ladd, 1) := by decide +kernel
theorem dX6_digest_170 : decode cX6_digest 170 = .ok (.lreturn, 1) := by decide +kernel
theorem dJ6_bitCount_0f7a4_0 : decode cJ6_bitCount_0f7a4 0 = .ok (.iload_n 0, 1) := by decide +kernel
theorem dJ6_bitCount_0f7a4_1 : decode cJ6_bitCount_0f7a4 1 = .ok (.iload_n 0, 1) := by decide +kernel
theorem dJ6_bitCount_0f7a4_2 : decode cJ6_bitCount_0f7a4 2 = .ok (.iconst 1, 1) := by decide +kernel
theorem dJ6_bitCount_0f7a4_3 : decode cJ6_bitCount_0f7a4 3 = .ok (.iushr, 1) := by decide +kernel
theorem dJ6_bitCount_0f7a4_4 : decode cJ6_bitCount_0f7a4 4 = .ok (.ldc_w 265, 3) := by decide +kernel
theorem dJ6_bitCount_0f7a4_7 : decode cJ6_bitCount_0f7a4 7 = .ok (.iand, 1) := by decide +kernel
theorem dJ6_bitCount_0f7a4_8 : decode cJ6_bitCount_0f7a4 8 = .ok (.isub, 1) := by decide +kernel
theorem dJ6_bitCount_0f7a4_9 : decode cJ6_bitCount_0f7a4 9 = .ok (.istore_n 0, 1) := by decide +kernel
theorem dJ6_bitCount_0f7a4_10 : decode cJ6_bitCount_0f7a4 10 = .ok (.iload_n 0, 1) := by decide +kernel
theorem dJ6_bitCount_0f7a4_11 : decode cJ6_bitCount_0f7a4 11 = .ok (.ldc_w 266, 3) := by decide +kernel
theorem dJ6_bitCount_0f7a4_14 : decode cJ6_bitCount_0f7a4 14 = .ok (.iand, 1) := by decide +kernel
theorem dJ6_bitCount_0f7a4_15 : decode cJ6_bitCount_0f7a4 15 = .ok (.iload_n 0, 1) := by decide +kernel
theorem dJ6_bitCount_0f7a4_16 : decode cJ6_bitCount_0f7a4 16 = .ok (.iconst 2, 1) := by decide +kernel
theorem dJ6_bitCount_0f7a4_17 : decode cJ6_bitCount_0f7a4 17 = .ok (.iushr, 1) := by decide +kernel
theorem dJ6_bitCount_0f7a4_18 : decode cJ6_bitCount_0f7a4 18 = .ok (.ldc_w 266, 3) := by decide +kernel
theorem dJ6_bitCount_0f7a4_21 : decode cJ6_bitCount_0f7a4 21 = .ok (.iand, 1) := by decide +kernel
theorem dJ6_bitCount_0f7a4_22 : decode cJ6_bitCount_0f7a4 22 = .ok (.iadd, 1) := by decide +kernel
theorem dJ6_bitCount_0f7a4_23 : decode cJ6_bitCount_0f7a4 23 = .ok (.istore_n 0, 1) := by decide +kernel
theorem dJ6_bitCount_0f7a4_24 : decode cJ6_bitCount_0f7a4 24 = .ok (.iload_n 0, 1) := by decide +kernel
theorem dJ6_bitCount_0f7a4_25 : decode cJ6_bitCount_0f7a4 25 = .ok (.iload_n 0, 1) := by decide +kernel
theorem dJ6_bitCount_0f7a4_26 : decode cJ6_bitCount_0f7a4 26 = .ok (.iconst 4, 1) := by decide +kernel
theorem dJ6_bitCount_0f7a4_27 : decode cJ6_bitCount_0f7a4 27 = .ok (.iushr, 1) := by decide +kernel
theorem dJ6_bitCount_0f7a4_28 : decode cJ6_bitCount_0f7a4 28 = .ok (.iadd, 1) := by decide +kernel
theorem dJ6_bitCount_0f7a4_29 : decode cJ6_bitCount_0f7a4 29 = .ok (.ldc_w 267, 3) := by decide +kernel
theorem dJ6_bitCount_0f7a4_32 : decode cJ6_bitCount_0f7a4 32 = .ok (.iand, 1) := by decide +kernel
theorem dJ6_bitCount_0f7a4_33 : decode cJ6_bitCount_0f7a4 33 = .ok (.istore_n 0, 1) := by decide +kernel
theorem dJ6_bitCount_0f7a4_34 : decode cJ6_bitCount_0f7a4 34 = .ok (.iload_n 0, 1) := by decide +kernel
theorem dJ6_bitCount_0f7a4_35 : decode cJ6_bitCount_0f7a4 35 = .ok (.iload_n 0, 1) := by decide +kernel
theorem dJ6_bitCount_0f7a4_36 : decode cJ6_bitCount_0f7a4 36 = .ok (.bipush 8, 2) := by decide +kernel
theorem dJ6_bitCount_0f7a4_38 : decode cJ6_bitCount_0f7a4 38 = .ok (.iushr, 1) := by decide +kernel
theorem dJ6_bitCount_0f7a4_39 : decode cJ6_bitCount_0f7a4 39 = .ok (.iadd, 1) := by decide +kernel
theorem dJ6_bitCount_0f7a4_40 : decode cJ6_bitCount_0f7a4 40 = .ok (.istore_n 0, 1) := by decide +kernel
theorem dJ6_bitCount_0f7a4_41 : decode cJ6_bitCount_0f7a4 41 = .ok (.iload_n 0, 1) := by decide +kernel
theorem dJ6_bitCount_0f7a4_42 : decode cJ6_bitCount_0f7a4 42 = .ok (.iload_n 0, 1) := by decide +kernel
theorem dJ6_bitCount_0f7a4_43 : decode cJ6_bitCount_0f7a4 43 = .ok (.bipush 16, 2) := by decide +kernel
theorem dJ6_bitCount_0f7a4_45 : decode cJ6_bitCount_0f7a4 45 = .ok (.iushr, 1) := by decide +kernel
theorem dJ6_bitCount_0f7a4_46 : decode cJ6_bitCount_0f7a4 46 = .ok (.iadd, 1) := by decide +kernel
theorem dJ6_bitCount_0f7a4_47 : decode cJ6_bitCount_0f7a4 47 = .ok (.istore_n 0, 1) := by decide +kernel
theorem dJ6_bitCount_0f7a4_48 : decode cJ6_bitCount_0f7a4 48 = .ok (.iload_n 0, 1) := by decide +kernel
theorem dJ6_bitCount_0f7a4_49 : decode cJ6_bitCount_0f7a4 49 = .ok (.bipush 63, 2) := by decide +kernel
theorem dJ6_bitCount_0f7a4_51 : decode cJ6_bitCount_0f7a4 51 = .ok (.iand, 1) := by decide +kernel
theorem dJ6_bitCount_0f7a4_52 : decode cJ6_bitCount_0f7a4 52 = .ok (.ireturn, 1) := by decide +kernel
theorem dJ9_max_7cf53_0 : decode cJ9_max_7cf53 0 = .ok (.iload_n 0, 1) := by decide +kernel
theorem dJ9_max_7cf53_1 : decode cJ9_max_7cf53 1 = .ok (.iload_n 1, 1) := by decide +kernel
theorem dJ9_max_7cf53_2 : decode cJ9_max_7cf53 2 = .ok (.if_icmp .lt 7, 3) := by decide +kernel
theorem dJ9_max_7cf53_5 : decode cJ9_max_7cf53 5 = .ok (.iload_n 0, 1) := by decide +kernel
theorem dJ9_max_7cf53_6 : decode cJ9_max_7cf53 6 = .ok (.goto 4, 3) := by decide +kernel
theorem dJ9_max_7cf53_9 : decode cJ9_max_7cf53 9 = .ok (.iload_n 1, 1) := by decide +kernel
theorem dJ9_max_7cf53_10 : decode cJ9_max_7cf53 10 = .ok (.ireturn, 1) := by decide +kernel
theorem dJ7_fill_d0a16_0 : decode cJ7_fill_d0a16 0 = .ok (.iconst 0, 1) := by decide +kernel
theorem dJ7_fill_d0a16_1 : decode cJ7_fill_d0a16 1 = .ok (.istore_n 3, 1) := by decide +kernel
theorem dJ7_fill_d0a16_2 : decode cJ7_fill_d0a16 2 = .ok (.aload_n 0, 1) := by decide +kernel
theorem dJ7_fill_d0a16_3 : decode cJ7_fill_d0a16 3 = .ok (.arraylength, 1) := by decide +kernel
theorem dJ7_fill_d0a16_4 : decode cJ7_fill_d0a16 4 = .ok (.istore 4, 2) := by decide +kernel
theorem dJ7_fill_d0a16_6 : decode cJ7_fill_d0a16 6 = .ok (.iload_n 3, 1) := by decide +kernel
theorem dJ7_fill_d0a16_7 : decode cJ7_fill_d0a16 7 = .ok (.iload 4, 2) := by decide +kernel
theorem dJ7_fill_d0a16_9 : decode cJ7_fill_d0a16 9 = .ok (.if_icmp .ge 13, 3) := by decide +kernel
theorem dJ7_fill_d0a16_12 : decode cJ7_fill_d0a16 12 = .ok (.aload_n 0, 1) := by decide +kernel
theorem dJ7_fill_d0a16_13 : decode cJ7_fill_d0a16 13 = .ok (.iload_n 3, 1) := by decide +kernel
theorem dJ7_fill_d0a16_14 : decode cJ7_fill_d0a16 14 = .ok (.lload_n 1, 1) := by decide +kernel
theorem dJ7_fill_d0a16_15 : decode cJ7_fill_d0a16 15 = .ok (.lastore, 1) := by decide +kernel
theorem dJ7_fill_d0a16_16 : decode cJ7_fill_d0a16 16 = .ok (.iinc 3 1, 3) := by decide +kernel
theorem dJ7_fill_d0a16_19 : decode cJ7_fill_d0a16 19 = .ok (.goto (-13), 3) := by decide +kernel
theorem dJ7_fill_d0a16_22 : decode cJ7_fill_d0a16 22 = .ok (.return_, 1) := by decide +kernel
theorem dJ7_fill_53178_0 : decode cJ7_fill_53178 0 = .ok (.iconst 0, 1) := by decide +kernel
theorem dJ7_fill_53178_1 : decode cJ7_fill_53178 1 = .ok (.istore_n 2, 1) := by decide +kernel
theorem dJ7_fill_53178_2 : decode cJ7_fill_53178 2 = .ok (.aload_n 0, 1) := by decide +kernel
theorem dJ7_fill_53178_3 : decode cJ7_fill_53178 3 = .ok (.arraylength, 1) := by decide +kernel
theorem dJ7_fill_53178_4 : decode cJ7_fill_53178 4 = .ok (.istore_n 3, 1) := by decide +kernel
theorem dJ7_fill_53178_5 : decode cJ7_fill_53178 5 = .ok (.iload_n 2, 1) := by decide +kernel
theorem dJ7_fill_53178_6 : decode cJ7_fill_53178 6 = .ok (.iload_n 3, 1) := by decide +kernel
theorem dJ7_fill_53178_7 : decode cJ7_fill_53178 7 = .ok (.if_icmp .ge 13, 3) := by decide +kernel
theorem dJ7_fill_53178_10 : decode cJ7_fill_53178 10 = .ok (.aload_n 0, 1) := by decide +kernel
theorem dJ7_fill_53178_11 : decode cJ7_fill_53178 11 = .ok (.iload_n 2, 1) := by decide +kernel
theorem dJ7_fill_53178_12 : decode cJ7_fill_53178 12 = .ok (.iload_n 1, 1) := by decide +kernel
theorem dJ7_fill_53178_13 : decode cJ7_fill_53178 13 = .ok (.iastore, 1) := by decide +kernel
theorem dJ7_fill_53178_14 : decode cJ7_fill_53178 14 = .ok (.iinc 2 1, 3) := by decide +kernel
theorem dJ7_fill_53178_17 : decode cJ7_fill_53178 17 = .ok (.goto (-12), 3) := by decide +kernel
theorem dJ7_fill_53178_20 : decode cJ7_fill_53178 20 = .ok (.return_, 1) := by decide +kernel
