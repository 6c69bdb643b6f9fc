theorem dX0_init_0 : decode cX0_init 0 = .ok (.aload_n 0, 1) := by decide +kernel
theorem dX0_init_1 : decode cX0_init 1 = .ok (.invokespecial 3, 3) := by decide +kernel
theorem dX0_init_4 : decode cX0_init 4 = .ok (.aload_n 0, 1) := by decide +kernel
theorem dX0_init_5 : decode cX0_init 5 = .ok (.sipush 1152, 3) := by decide +kernel
theorem dX0_init_8 : decode cX0_init 8 = .ok (.newarray .long, 2) := by decide +kernel
theorem dX0_init_10 : decode cX0_init 10 = .ok (.putfield 9, 3) := by decide +kernel
theorem dX0_init_13 : decode cX0_init 13 = .ok (.aload_n 0, 1) := by decide +kernel
theorem dX0_init_14 : decode cX0_init 14 = .ok (.bipush 96, 2) := by decide +kernel
theorem dX0_init_16 : decode cX0_init 16 = .ok (.newarray .long, 2) := by decide +kernel
theorem dX0_init_18 : decode cX0_init 18 = .ok (.putfield 15, 3) := by decide +kernel
theorem dX0_init_21 : decode cX0_init 21 = .ok (.aload_n 0, 1) := by decide +kernel
theorem dX0_init_22 : decode cX0_init 22 = .ok (.bipush 72, 2) := by decide +kernel
theorem dX0_init_24 : decode cX0_init 24 = .ok (.newarray .long, 2) := by decide +kernel
theorem dX0_init_26 : decode cX0_init 26 = .ok (.putfield 18, 3) := by decide +kernel
theorem dX0_init_29 : decode cX0_init 29 = .ok (.aload_n 0, 1) := by decide +kernel
theorem dX0_init_30 : decode cX0_init 30 = .ok (.bipush 64, 2) := by decide +kernel
theorem dX0_init_32 : decode cX0_init 32 = .ok (.newarray .int, 2) := by decide +kernel
theorem dX0_init_34 : decode cX0_init 34 = .ok (.putfield 21, 3) := by decide +kernel
theorem dX0_init_37 : decode cX0_init 37 = .ok (.aload_n 0, 1) := by decide +kernel
theorem dX0_init_38 : decode cX0_init 38 = .ok (.iconst 4, 1) := by decide +kernel
theorem dX0_init_39 : decode cX0_init 39 = .ok (.newarray .int, 2) := by decide +kernel
theorem dX0_init_41 : decode cX0_init 41 = .ok (.putfield 25, 3) := by decide +kernel
theorem dX0_init_44 : decode cX0_init 44 = .ok (.return_, 1) := by decide +kernel
set_option maxRecDepth 20000 in
theorem ggX0_begin_J7_fill_d0a16 : GoodIn wsX0_begin wsJ7_fill_d0a16 := goodIn_r _ [8] (by decide +kernel) (by decide +kernel)
set_option maxRecDepth 20000 in
theorem gX0_begin_J7_fill_d0a16 : GoodIn wsX0_begin (va_wsS RX0 28 yJ7_fill_d0a16 wsJ7_fill_d0a16) := goodIn_app (goodIn_of _ (by decide +kernel)) ggX0_begin_J7_fill_d0a16
set_option maxRecDepth 20000 in
theorem ggX0_begin_J7_fill_53178 : GoodIn wsX0_begin wsJ7_fill_53178 := goodIn_r _ [11] (by decide +kernel) (by decide +kernel)
set_option maxRecDepth 20000 in
theorem gX0_begin_J7_fill_53178 : GoodIn wsX0_begin (va_wsS RX0 34 yJ7_fill_53178 wsJ7_fill_53178) := goodIn_app (goodIn_of _ (by decide +kernel)) ggX0_begin_J7_fill_53178
theorem dX0_begin_0 : decode cX0_begin 0 = .ok (.aload_n 0, 1) := by decide +kernel
theorem dX0_begin_1 : decode cX0_begin 1 = .ok (.getfield 9, 3) := by decide +kernel
theorem dX0_begin_4 : decode cX0_begin 4 = .ok (.lconst 0, 1) := by decide +kernel
theorem dX0_begin_5 : decode cX0_begin 5 = .ok (.invokestatic 28, 3) := by decide +kernel
theorem dX0_begin_8 : decode cX0_begin 8 = .ok (.aload_n 0, 1) := by decide +kernel
theorem dX0_begin_9 : decode cX0_begin 9 = .ok (.getfield 25, 3) := by decide +kernel
theorem dX0_begin_12 : decode cX0_begin 12 = .ok (.iconst 0, 1) := by decide +kernel
theorem dX0_begin_13 : decode cX0_begin 13 = .ok (.invokestatic 34, 3) := by decide +kernel
theorem dX0_begin_16 : decode cX0_begin 16 = .ok (.aload_n 0, 1) := by decide +kernel
theorem dX0_begin_17 : decode cX0_begin 17 = .ok (.iconst 0, 1) := by decide +kernel
theorem dX0_begin_18 : decode cX0_begin 18 = .ok (.putfield 37, 3) := by decide +kernel
theorem dX0_begin_21 : decode cX0_begin 21 = .ok (.aload_n 0, 1) := by decide +kernel
theorem dX0_begin_22 : decode cX0_begin 22 = .ok (.iconst (-1), 1) := by decide +kernel
theorem dX0_begin_23 : decode cX0_begin 23 = .ok (.putfield 41, 3) := by decide +kernel
theorem dX0_begin_26 : decode cX0_begin 26 = .ok (.return_, 1) := by decide +kernel
theorem dX0_mark_0 : decode cX0_mark 0 = .ok (.iload_n 2, 1) := by decide +kernel
theorem dX0_mark_1 : decode cX0_mark 1 = .ok (.bipush 24, 2) := by decide +kernel
theorem dX0_mark_3 : decode cX0_mark 3 = .ok (.imul, 1) := by decide +kernel
theorem dX0_mark_4 : decode cX0_mark 4 = .ok (.iload_n 3, 1) := by decide +kernel
theorem dX0_mark_5 : decode cX0_mark 5 = .ok (.iadd, 1) := by decide +kernel
theorem dX0_mark_6 : decode cX0_mark 6 = .ok (.iconst 3, 1) := by decide +kernel
theorem dX0_mark_7 : decode cX0_mark 7 = .ok (.imul, 1) := by decide +kernel
theorem dX0_mark_8 : decode cX0_mark 8 = .ok (.istore 5, 2) := by decide +kernel
theorem dX0_mark_10 : decode cX0_mark 10 = .ok (.iconst 0, 1) := by decide +kernel
theorem dX0_mark_11 : decode cX0_mark 11 = .ok (.istore 6, 2) := by decide +kernel
theorem dX0_mark_13 : decode cX0_mark 13 = .ok (.iload 6, 2) := by decide +kernel
theorem dX0_mark_15 : decode cX0_mark 15 = .ok (.iconst 3, 1) := by decide +kernel
theorem dX0_mark_16 : decode cX0_mark 16 = .ok (.if_icmp .ge 44, 3) := by decide +kernel
theorem dX0_mark_19 : decode cX0_mark 19 = .ok (.iload 6, 2) := by decide +kernel
theorem dX0_mark_21 : decode cX0_mark 21 = .ok (.iload 4, 2) := by decide +kernel
theorem dX0_mark_23 : decode cX0_mark 23 = .ok (.if_icmp .eq 12, 3) := by decide +kernel
theorem dX0_mark_26 : decode cX0_mark 26 = .ok (.aload_n 1, 1) := by decide +kernel
theorem dX0_mark_27 : decode cX0_mark 27 = .ok (.getfield 44, 3) := by decide +kernel
theorem dX0_mark_30 : decode cX0_mark 30 = .ok (.iload_n 3, 1) := by decide +kernel
theorem dX0_mark_31 : decode cX0_mark 31 = .ok (.baload, 1) := by decide +kernel
theorem dX0_mark_32 : decode cX0_mark 32 = .ok (.ifCond .ne 22, 3) := by decide +kernel
theorem dX0_mark_35 : decode cX0_mark 35 = .ok (.aload_n 0, 1) := by decide +kernel
theorem dX0_mark_36 : decode cX0_mark 36 = .ok (.getfield 9, 3) := by decide +kernel
theorem dX0_mark_39 : decode cX0_mark 39 = .ok (.iload 5, 2) := by decide +kernel
theorem dX0_mark_41 : decode cX0_mark 41 = .ok (.iload 6, 2) := by decide +kernel
theorem dX0_mark_43 : decode cX0_mark 43 = .ok (.iadd, 1) := by decide +kernel
theorem dX0_mark_44 : decode cX0_mark 44 = .ok (.dup2, 1) := by decide +kernel
theorem dX0_mark_45 : decode cX0_mark 45 = .ok (.laload, 1) := by decide +kernel
theorem dX0_mark_46 : decode cX0_mark 46 = .ok (.lconst 1, 1) := by decide +kernel
theorem dX0_mark_47 : decode cX0_mark 47 = .ok (.aload_n 0, 1) := by decide +kernel
theorem dX0_mark_48 : decode cX0_mark 48 = .ok (.getfield 37, 3) := by decide +kernel
theorem dX0_mark_51 : decode cX0_mark 51 = .ok (.lshl, 1) := by decide +kernel
theorem dX0_mark_52 : decode cX0_mark 52 = .ok (.lxor, 1) := by decide +kernel
theorem dX0_mark_53 : decode cX0_mark 53 = .ok (.lastore, 1) := by decide +kernel
theorem dX0_mark_54 : decode cX0_mark 54 = .ok (.iinc 6 1, 3) := by decide +kernel
theorem dX0_mark_57 : decode cX0_mark 57 = .ok (.goto (-44), 3) := by decide +kernel
theorem dX0_mark_60 : decode cX0_mark 60 = .ok (.aload_n 0, 1) := by decide +kernel
theorem dX0_mark_61 : decode cX0_mark 61 = .ok (.getfield 21, 3) := by decide +kernel
theorem dX0_mark_64 : decode cX0_mark 64 = .ok (.aload_n 0, 1) := by decide +kernel
theorem dX0_mark_65 : decode cX0_mark 65 = .ok (.getfield 37, 3) := by decide +kernel
theorem dX0_mark_68 : decode cX0_mark 68 = .ok (.sipush 10000, 3) := by decide +kernel
theorem dX0_mark_71 : decode cX0_mark 71 = .ok (.iload_n 2, 1) := by decide +kernel
theorem dX0_mark_72 : decode cX0_mark 72 = .ok (.imul, 1) := by decide +kernel
theorem dX0_mark_73 : decode cX0_mark 73 = .ok (.bipush 10, 2) := by decide +kernel
theorem dX0_mark_75 : decode cX0_mark 75 = .ok (.iload_n 3, 1) := by decide +kernel
theorem dX0_mark_76 : decode cX0_mark 76 = .ok (.imul, 1) := by decide +kernel
theorem dX0_mark_77 : decode cX0_mark 77 = .ok (.iadd, 1) := by decide +kernel
theorem dX0_mark_78 : decode cX0_mark 78 = .ok (.iload 4, 2) := by decide +kernel
theorem dX0_mark_80 : decode cX0_mark 80 = .ok (.iadd, 1) := by decide +kernel
theorem dX0_mark_81 : decode cX0_mark 81 = .ok (.iastore, 1) := by decide +kernel
theorem dX0_mark_82 : decode cX0_mark 82 = .ok (.return_, 1) := by decide +kernel
set_option maxRecDepth 20000 in
theorem ggX0_close_X0_runAll : GoodIn wsX0_close wsX0_runAll := goodIn_r _ [6, 1, 7, 8, 9, 10, 11, 12, 13, 5, 14, 15, 16, 17, 18, 19, 20, 21, 22, 23, 24, 25, 26, 27, 28, 29, 30, 31, 32, 33, 34, 35, 36, 37, 38, 39, 40, 41, 42, 43, 44, 45, 46, 47, 48, 49, 50, 51, 52, 53, 54, 55, 56, 57, 58, 59, 60, 61, 62, 63, 64, 65, 66, 67, 68, 69, 70, 71, 72, 73, 74, 75, 76, 77, 78, 79, 80, 81, 82, 83, 84, 85, 86, 87, 88, 89, 90, 91, 92, 93] (by decide +kernel) (by decide +kernel)
set_option maxRecDepth 20000 in
theorem gX0_close_X0_runAll : GoodIn wsX0_close (wsV RX0 50 RX0 yX0_runAll wsX0_runAll) := goodIn_app (goodIn_of _ (by decide +kernel)) ggX0_close_X0_runAll
theorem dX0_close_0 : decode cX0_close 0 = .ok (.aload_n 0, 1) := by decide +kernel
theorem dX0_close_1 : decode cX0_close 1 = .ok (.dup, 1) := by decide +kernel
theorem dX0_close_2 : decode cX0_close 2 = .ok (.getfield 37, 3) := by decide +kernel
theorem dX0_close_5 : decode cX0_close 5 = .ok (.iconst 1, 1) := by decide +kernel
theorem dX0_close_6 : decode cX0_close 6 = .ok (.iadd, 1) := by decide +kernel
theorem dX0_close_7 : decode cX0_close 7 = .ok (.putfield 37, 3) := by decide +kernel
theorem dX0_close_10 : decode cX0_close 10 = .ok (.aload_n 0, 1) := by decide +kernel
theorem dX0_close_11 : decode cX0_close 11 = .ok (.getfield 37, 3) := by decide +kernel
theorem dX0_close_14 : decode cX0_close 14 = .ok (.bipush 64, 2) := by decide +kernel
theorem dX0_close_16 : decode cX0_close 16 = .ok (.if_icmp .ne 10, 3) := by decide +kernel
theorem dX0_close_19 : decode cX0_close 19 = .ok (.aload_n 0, 1) := by decide +kernel
theorem dX0_close_20 : decode cX0_close 20 = .ok (.aload_n 1, 1) := by decide +kernel
theorem dX0_close_21 : decode cX0_close 21 = .ok (.aload_n 2, 1) := by decide +kernel
theorem dX0_close_22 : decode cX0_close 22 = .ok (.iload_n 3, 1) := by decide +kernel
theorem dX0_close_23 : decode cX0_close 23 = .ok (.invokevirtual 50, 3) := by decide +kernel
theorem dX0_close_26 : decode cX0_close 26 = .ok (.return_, 1) := by decide +kernel
set_option maxRecDepth 20000 in
theorem ggX0_runOne_X0_run : GoodIn wsX0_runOne wsX0_run := goodIn_r _ [5, 6, 7, 8, 9, 10, 11, 12, 13, 14, 15, 16, 17, 18, 19, 4, 20, 21, 22, 23, 24, 25, 26, 27, 28, 29, 30, 31, 32, 33, 34, 35, 36, 37, 38, 39, 40, 41, 42, 43, 44, 45, 46, 47, 48, 49, 50, 51, 52, 53, 54, 55, 56, 57, 58, 63, 64, 65, 66, 67, 68, 69, 70, 71, 72, 73, 74, 75, 76, 77, 78, 79, 80, 81, 82, 83, 84, 85] (by decide +kernel) (by decide +kernel)
set_option maxRecDepth 20000 in
theorem gX0_runOne_X0_run : GoodIn wsX0_runOne (wsV RX0 54 RX0 yX0_run wsX0_run) := goodIn_app (goodIn_of _ (by decide +kernel)) ggX0_runOne_X0_run
set_option maxRecDepth 20000 in
theorem ggX0_runOne_X0_verdict : GoodIn wsX0_runOne wsX0_verdict := goodIn_r _ [62, 6, 7, 63, 64, 65, 66, 67, 68, 69, 70, 71] (by decide +kernel) (by decide +kernel)
set_option maxRecDepth 20000 in
theorem gX0_runOne_X0_verdict : GoodIn wsX0_runOne (wsV RX0 57 RX0 yX0_verdict wsX0_verdict) := goodIn_app (goodIn_of _ (by decide +kernel)) ggX0_runOne_X0_verdict
theorem dX0_runOne_0 : decode cX0_runOne 0 = .ok (.aload_n 0, 1) := by decide +kernel
theorem dX0_runOne_1 : decode cX0_runOne 1 = .ok (.aload_n 1, 1) := by decide +kernel
theorem dX0_runOne_2 : decode cX0_runOne 2 = .ok (.aload_n 2, 1) := by decide +kernel
theorem dX0_runOne_3 : decode cX0_runOne 3 = .ok (.iload_n 3, 1) := by decide +kernel
theorem dX0_runOne_4 : decode cX0_runOne 4 = .ok (.invokevirtual 54, 3) := by decide +kernel
theorem dX0_runOne_7 : decode cX0_runOne 7 = .ok (.aload_n 0, 1) := by decide +kernel
theorem dX0_runOne_8 : decode cX0_runOne 8 = .ok (.iconst 0, 1) := by decide +kernel
theorem dX0_runOne_9 : decode cX0_runOne 9 = .ok (.invokevirtual 57, 3) := by decide +kernel
theorem dX0_runOne_12 : decode cX0_runOne 12 = .ok (.ireturn, 1) := by decide +kernel
set_option maxRecDepth 20000 in
theorem ggX0_runAll_X0_run : GoodIn wsX0_runAll wsX0_run := goodIn_r _ [10, 11, 12, 13, 14, 15, 16, 17, 18, 19, 20, 21, 22, 23, 24, 9, 25, 5, 26, 27, 28, 29, 30, 31, 32, 33, 34, 35, 36, 37, 38, 39, 40, 41, 42, 43, 44, 45, 46, 47, 48, 49, 50, 51, 52, 53, 54, 55, 56, 57, 58, 59, 60, 61, 62, 67, 68, 69, 70, 71, 72, 73, 74, 75, 76, 77, 78, 79, 80, 81, 82, 83, 84, 85, 86, 87, 88, 89] (by decide +kernel) (by decide +kernel)
set_option maxRecDepth 20000 in
theorem gX0_runAll_X0_run : GoodIn wsX0_runAll (wsV RX0 54 RX0 yX0_run wsX0_run) := goodIn_app (goodIn_of _ (by decide +kernel)) ggX0_runAll_X0_run
set_option maxRecDepth 20000 in
theorem ggX0_runAll_X0_verdict : GoodIn wsX0_runAll wsX0_verdict := goodIn_r _ [66, 11, 12, 67, 68, 69, 70, 71, 72, 73, 74, 75] (by decide +kernel) (by decide +kernel)
set_option maxRecDepth 20000 in
theorem gX0_runAll_X0_verdict : GoodIn wsX0_runAll (wsV RX0 57 RX0 yX0_verdict wsX0_verdict) := goodIn_app (goodIn_of _ (by decide +kernel)) ggX0_runAll_X0_verdict
set_option maxRecDepth 20000 in
theorem ggX0_runAll_J7_fill_d0a16 : GoodIn wsX0_runAll wsJ7_fill_d0a16 := goodIn_r _ [21] (by decide +kernel) (by decide +kernel)
set_option maxRecDepth 20000 in
theorem gX0_runAll_J7_fill_d0a16 : GoodIn wsX0_runAll (va_wsS RX0 28 yJ7_fill_d0a16 wsJ7_fill_d0a16) := goodIn_app (goodIn_of _ (by decide +kernel)) ggX0_runAll_J7_fill_d0a16
theorem dX0_runAll_0 : decode cX0_runAll 0 = .ok (.aload_n 0, 1) := by decide +kernel
theorem dX0_runAll_1 : decode cX0_runAll 1 = .ok (.aload_n 1, 1) := by decide +kernel
theorem dX0_runAll_2 : decode cX0_runAll 2 = .ok (.aload_n 2, 1) := by decide +kernel
theorem dX0_runAll_3 : decode cX0_runAll 3 = .ok (.iload_n 3, 1) := by decide +kernel
theorem dX0_runAll_4 : decode cX0_runAll 4 = .ok (.invokevirtual 54, 3) := by decide +kernel
theorem dX0_runAll_7 : decode cX0_runAll 7 = .ok (.iconst 0, 1) := by decide +kernel
theorem dX0_runAll_8 : decode cX0_runAll 8 = .ok (.istore 4, 2) := by decide +kernel
theorem dX0_runAll_10 : decode cX0_runAll 10 = .ok (.iload 4, 2) := by decide +kernel
theorem dX0_runAll_12 : decode cX0_runAll 12 = .ok (.aload_n 0, 1) := by decide +kernel
theorem dX0_runAll_13 : decode cX0_runAll 13 = .ok (.getfield 37, 3) := by decide +kernel
theorem dX0_runAll_16 : decode cX0_runAll 16 = .ok (.if_icmp .ge 54, 3) := by decide +kernel
theorem dX0_runAll_19 : decode cX0_runAll 19 = .ok (.aload_n 0, 1) := by decide +kernel
theorem dX0_runAll_20 : decode cX0_runAll 20 = .ok (.iload 4, 2) := by decide +kernel
theorem dX0_runAll_22 : decode cX0_runAll 22 = .ok (.invokevirtual 57, 3) := by decide +kernel
theorem dX0_runAll_25 : decode cX0_runAll 25 = .ok (.istore 5, 2) := by decide +kernel
theorem dX0_runAll_27 : decode cX0_runAll 27 = .ok (.aload_n 0, 1) := by decide +kernel
theorem dX0_runAll_28 : decode cX0_runAll 28 = .ok (.getfield 25, 3) := by decide +kernel
theorem dX0_runAll_31 : decode cX0_runAll 31 = .ok (.iload 5, 2) := by decide +kernel
theorem dX0_runAll_33 : decode cX0_runAll 33 = .ok (.dup2, 1) := by decide +kernel
theorem dX0_runAll_34 : decode cX0_runAll 34 = .ok (.iaload, 1) := by decide +kernel
theorem dX0_runAll_35 : decode cX0_runAll 35 = .ok (.iconst 1, 1) := by decide +kernel
theorem dX0_runAll_36 : decode cX0_runAll 36 = .ok (.iadd, 1) := by decide +kernel
theorem dX0_runAll_37 : decode cX0_runAll 37 = .ok (.iastore, 1) := by decide +kernel
theorem dX0_runAll_38 : decode cX0_runAll 38 = .ok (.aload_n 0, 1) := by decide +kernel
theorem dX0_runAll_39 : decode cX0_runAll 39 = .ok (.getfield 41, 3) := by decide +kernel
theorem dX0_runAll_42 : decode cX0_runAll 42 = .ok (.iconst (-1), 1) := by decide +kernel
theorem dX0_runAll_43 : decode cX0_runAll 43 = .ok (.if_icmp .ne 21, 3) := by decide +kernel
theorem dX0_runAll_46 : decode cX0_runAll 46 = .ok (.iload 5, 2) := by decide +kernel
theorem dX0_runAll_48 : decode cX0_runAll 48 = .ok (.iconst 1, 1) := by decide +kernel
theorem dX0_runAll_49 : decode cX0_runAll 49 = .ok (.iand, 1) := by decide +kernel
theorem dX0_runAll_50 : decode cX0_runAll 50 = .ok (.ifCond .eq 14, 3) := by decide +kernel
theorem dX0_runAll_53 : decode cX0_runAll 53 = .ok (.aload_n 0, 1) := by decide +kernel
theorem dX0_runAll_54 : decode cX0_runAll 54 = .ok (.aload_n 0, 1) := by decide +kernel
theorem dX0_runAll_55 : decode cX0_runAll 55 = .ok (.getfield 21, 3) := by decide +kernel
theorem dX0_runAll_58 : decode cX0_runAll 58 = .ok (.iload 4, 2) := by decide +kernel
theorem dX0_runAll_60 : decode cX0_runAll 60 = .ok (.iaload, 1) := by decide +kernel
theorem dX0_runAll_61 : decode cX0_runAll 61 = .ok (.putfield 41, 3) := by decide +kernel
theorem dX0_runAll_64 : decode cX0_runAll 64 = .ok (.iinc 4 1, 3) := by decide +kernel
theorem dX0_runAll_67 : decode cX0_runAll 67 = .ok (.goto (-57), 3) := by decide +kernel
theorem dX0_runAll_70 : decode cX0_runAll 70 = .ok (.aload_n 0, 1) := by decide +kernel
theorem dX0_runAll_71 : decode cX0_runAll 71 = .ok (.iconst 0, 1) := by decide +kernel
theorem dX0_runAll_72 : decode cX0_runAll 72 = .ok (.putfield 37, 3) := by decide +kernel
theorem dX0_runAll_75 : decode cX0_runAll 75 = .ok (.aload_n 0, 1) := by decide +kernel
theorem dX0_runAll_76 : decode cX0_runAll 76 = .ok (.getfield 9, 3) := by decide +kernel
theorem dX0_runAll_79 : decode cX0_runAll 79 = .ok (.lconst 0, 1) := by decide +kernel
theorem dX0_runAll_80 : decode cX0_runAll 80 = .ok (.invokestatic 28, 3) := by decide +kernel
theorem dX0_runAll_83 : decode cX0_runAll 83 = .ok (.return_, 1) := by decide +kernel
theorem dX0_verdict_0 : decode cX0_verdict 0 = .ok (.aload_n 0, 1) := by decide +kernel
theorem dX0_verdict_1 : decode cX0_verdict 1 = .ok (.getfield 61, 3) := by decide +kernel
theorem dX0_verdict_4 : decode cX0_verdict 4 = .ok (.iload_n 1, 1) := by decide +kernel
theorem dX0_verdict_5 : decode cX0_verdict 5 = .ok (.lshr, 1) := by decide +kernel
theorem dX0_verdict_6 : decode cX0_verdict 6 = .ok (.lconst 1, 1) := by decide +kernel
theorem dX0_verdict_7 : decode cX0_verdict 7 = .ok (.land, 1) := by decide +kernel
theorem dX0_verdict_8 : decode cX0_verdict 8 = .ok (.lconst 0, 1) := by decide +kernel
theorem dX0_verdict_9 : decode cX0_verdict 9 = .ok (.lcmp, 1) := by decide +kernel
theorem dX0_verdict_10 : decode cX0_verdict 10 = .ok (.ifCond .eq 7, 3) := by decide +kernel
theorem dX0_verdict_13 : decode cX0_verdict 13 = .ok (.iconst 1, 1) := by decide +kernel
theorem dX0_verdict_14 : decode cX0_verdict 14 = .ok (.goto 4, 3) := by decide +kernel
theorem dX0_verdict_17 : decode cX0_verdict 17 = .ok (.iconst 0, 1) := by decide +kernel
theorem dX0_verdict_18 : decode cX0_verdict 18 = .ok (.aload_n 0, 1) := by decide +kernel
theorem dX0_verdict_19 : decode cX0_verdict 19 = .ok (.getfield 65, 3) := by decide +kernel
theorem dX0_verdict_22 : decode cX0_verdict 22 = .ok (.iload_n 1, 1) := by decide +kernel
theorem dX0_verdict_23 : decode cX0_verdict 23 = .ok (.lshr, 1) := by decide +kernel
theorem dX0_verdict_24 : decode cX0_verdict 24 = .ok (.lconst 1, 1) := by decide +kernel
theorem dX0_verdict_25 : decode cX0_verdict 25 = .ok (.land, 1) := by decide +kernel
theorem dX0_verdict_26 : decode cX0_verdict 26 = .ok (.lconst 0, 1) := by decide +kernel
theorem dX0_verdict_27 : decode cX0_verdict 27 = .ok (.lcmp, 1) := by decide +kernel
theorem dX0_verdict_28 : decode cX0_verdict 28 = .ok (.ifCond .eq 7, 3) := by decide +kernel
theorem dX0_verdict_31 : decode cX0_verdict 31 = .ok (.iconst 2, 1) := by decide +kernel
theorem dX0_verdict_32 : decode cX0_verdict 32 = .ok (.goto 4, 3) := by decide +kernel
theorem dX0_verdict_35 : decode cX0_verdict 35 = .ok (.iconst 0, 1) := by decide +kernel
theorem dX0_verdict_36 : decode cX0_verdict 36 = .ok (.iadd, 1) := by decide +kernel
theorem dX0_verdict_37 : decode cX0_verdict 37 = .ok (.ireturn, 1) := by decide +kernel
theorem dX0_allSeen_0 : decode cX0_allSeen 0 = .ok (.aload_n 0, 1) := by decide +kernel
theorem dX0_allSeen_1 : decode cX0_allSeen 1 = .ok (.getfield 25, 3) := by decide +kernel
theorem dX0_allSeen_4 : decode cX0_allSeen 4 = .ok (.iconst 1, 1) := by decide +kernel
theorem dX0_allSeen_5 : decode cX0_allSeen 5 = .ok (.iaload, 1) := by decide +kernel
theorem dX0_allSeen_6 : decode cX0_allSeen 6 = .ok (.aload_n 0, 1) := by decide +kernel
theorem dX0_allSeen_7 : decode cX0_allSeen 7 = .ok (.getfield 25, 3) := by decide +kernel
theorem dX0_allSeen_10 : decode cX0_allSeen 10 = .ok (.iconst 3, 1) := by decide +kernel
theorem dX0_allSeen_11 : decode cX0_allSeen 11 = .ok (.iaload, 1) := by decide +kernel
theorem dX0_allSeen_12 : decode cX0_allSeen 12 = .ok (.iadd, 1) := by decide +kernel
theorem dX0_allSeen_13 : decode cX0_allSeen 13 = .ok (.ireturn, 1) := by decide +kernel
set_option maxRecDepth 20000 in
theorem ggX0_run_J7_fill_d0a16 : GoodIn wsX0_run wsJ7_fill_d0a16 := goodIn_r _ [11] (by decide +kernel) (by decide +kernel)
set_option maxRecDepth 20000 in
theorem gX0_run_J7_fill_d0a16 : GoodIn wsX0_run (va_wsS RX0 28 yJ7_fill_d0a16 wsJ7_fill_d0a16) := goodIn_app (goodIn_of _ (by decide +kernel)) ggX0_run_J7_fill_d0a16
set_option maxRecDepth 20000 in
theorem ggX0_run_X0_settle : GoodIn wsX0_run wsX0_settle := goodIn_r _ [16, 3, 17, 55, 56, 57, 58, 59, 60, 61, 62, 63] (by decide +kernel) (by decide +kernel)
set_option maxRecDepth 20000 in
theorem gX0_run_X0_settle : GoodIn wsX0_run (wsV RX0 74 RX0 yX0_settle wsX0_settle) := goodIn_app (goodIn_of _ (by decide +kernel)) ggX0_run_X0_settle
set_option maxRecDepth 20000 in
theorem ggX0_run_X0_workOut : GoodIn wsX0_run wsX0_workOut := goodIn_r _ [21, 7, 3, 22, 23, 24, 25, 26, 27, 28, 29, 30, 31, 32, 33, 34, 35, 64, 65, 66, 67, 68, 69, 70, 71, 72, 73, 74, 75, 76, 55, 56, 57, 58, 59, 60, 61, 62, 63, 77] (by decide +kernel) (by decide +kernel)
set_option maxRecDepth 20000 in
theorem gX0_run_X0_workOut : GoodIn wsX0_run (wsV RX0 84 RX0 yX0_workOut wsX0_workOut) := goodIn_app (goodIn_of _ (by decide +kernel)) ggX0_run_X0_workOut
set_option maxRecDepth 20000 in
theorem ggX0_run_X0_lookAtOutputs : GoodIn wsX0_run wsX0_lookAtOutputs := goodIn_r _ [39, 6, 40, 1, 3, 25, 26, 27, 28, 29, 30, 64, 65, 66, 67, 68, 69, 70, 71, 72, 73, 74, 75, 76, 55, 56, 57, 58, 59, 60, 61, 62, 63, 77] (by decide +kernel) (by decide +kernel)
set_option maxRecDepth 20000 in
theorem gX0_run_X0_lookAtOutputs : GoodIn wsX0_run (wsV RX0 88 RX0 yX0_lookAtOutputs wsX0_lookAtOutputs) := goodIn_app (goodIn_of _ (by decide +kernel)) ggX0_run_X0_lookAtOutputs
set_option maxRecDepth 20000 in
theorem ggX0_run_X0_feedStores : GoodIn wsX0_run wsX0_feedStores := goodIn_r _ [44, 4, 5, 22, 45, 46, 3, 23, 47, 48, 49, 50, 64, 65, 66, 67, 68, 69, 70, 71, 72, 73, 74, 75, 76, 55, 56, 57, 58, 59, 60, 61, 62, 63] (by decide +kernel) (by decide +kernel)
set_option maxRecDepth 20000 in
theorem gX0_run_X0_feedStores : GoodIn wsX0_run (wsV RX0 91 RX0 yX0_feedStores wsX0_feedStores) := goodIn_app (goodIn_of _ (by decide +kernel)) ggX0_run_X0_feedStores
set_option maxRecDepth 20000 in
theorem ggX0_run_X0_lookAtStores : GoodIn wsX0_run wsX0_lookAtStores := goodIn_r _ [54, 4, 5, 2, 3, 25, 26, 27, 28, 29, 30, 64, 65, 66, 67, 68, 69, 70, 71, 72, 73, 74, 75, 76, 55, 56, 57, 58, 59, 60, 61, 62, 63, 77] (by decide +kernel) (by decide +kernel)
set_option maxRecDepth 20000 in
theorem gX0_run_X0_lookAtStores : GoodIn wsX0_run (wsV RX0 95 RX0 yX0_lookAtStores wsX0_lookAtStores) := goodIn_app (goodIn_of _ (by decide +kernel)) ggX0_run_X0_lookAtStores
theorem dX0_run_0 : decode cX0_run 0 = .ok (.aload_n 0, 1) := by decide +kernel
theorem dX0_run_1 : decode cX0_run 1 = .ok (.lconst 0, 1) := by decide +kernel
theorem dX0_run_2 : decode cX0_run 2 = .ok (.putfield 61, 3) := by decide +kernel
theorem dX0_run_5 : decode cX0_run 5 = .ok (.aload_n 0, 1) := by decide +kernel
theorem dX0_run_6 : decode cX0_run 6 = .ok (.lconst 0, 1) := by decide +kernel
theorem dX0_run_7 : decode cX0_run 7 = .ok (.putfield 65, 3) := by decide +kernel
theorem dX0_run_10 : decode cX0_run 10 = .ok (.aload_n 0, 1) := by decide +kernel
theorem dX0_run_11 : decode cX0_run 11 = .ok (.getfield 15, 3) := by decide +kernel
theorem dX0_run_14 : decode cX0_run 14 = .ok (.lconst 0, 1) := by decide +kernel
theorem dX0_run_15 : decode cX0_run 15 = .ok (.invokestatic 28, 3) := by decide +kernel
theorem dX0_run_18 : decode cX0_run 18 = .ok (.iconst 0, 1) := by decide +kernel
theorem dX0_run_19 : decode cX0_run 19 = .ok (.istore 4, 2) := by decide +kernel
theorem dX0_run_21 : decode cX0_run 21 = .ok (.iload 4, 2) := by decide +kernel
theorem dX0_run_23 : decode cX0_run 23 = .ok (.iload_n 3, 1) := by decide +kernel
theorem dX0_run_24 : decode cX0_run 24 = .ok (.if_icmp .ge 100, 3) := by decide +kernel
theorem dX0_run_27 : decode cX0_run 27 = .ok (.iconst 0, 1) := by decide +kernel
theorem dX0_run_28 : decode cX0_run 28 = .ok (.istore 5, 2) := by decide +kernel
theorem dX0_run_30 : decode cX0_run 30 = .ok (.iload 5, 2) := by decide +kernel
theorem dX0_run_32 : decode cX0_run 32 = .ok (.aload_n 1, 1) := by decide +kernel
theorem dX0_run_33 : decode cX0_run 33 = .ok (.getfield 68, 3) := by decide +kernel
theorem dX0_run_36 : decode cX0_run 36 = .ok (.if_icmp .ge 22, 3) := by decide +kernel
theorem dX0_run_39 : decode cX0_run 39 = .ok (.aload_n 0, 1) := by decide +kernel
theorem dX0_run_40 : decode cX0_run 40 = .ok (.aload_n 1, 1) := by decide +kernel
theorem dX0_run_41 : decode cX0_run 41 = .ok (.getfield 71, 3) := by decide +kernel
theorem dX0_run_44 : decode cX0_run 44 = .ok (.iload 5, 2) := by decide +kernel
theorem dX0_run_46 : decode cX0_run 46 = .ok (.iaload, 1) := by decide +kernel
theorem dX0_run_47 : decode cX0_run 47 = .ok (.iload 4, 2) := by decide +kernel
theorem dX0_run_49 : decode cX0_run 49 = .ok (.invokevirtual 74, 3) := by decide +kernel
theorem dX0_run_52 : decode cX0_run 52 = .ok (.iinc 5 1, 3) := by decide +kernel
theorem dX0_run_55 : decode cX0_run 55 = .ok (.goto (-25), 3) := by decide +kernel
theorem dX0_run_58 : decode cX0_run 58 = .ok (.iconst 0, 1) := by decide +kernel
theorem dX0_run_59 : decode cX0_run 59 = .ok (.istore 5, 2) := by decide +kernel
theorem dX0_run_61 : decode cX0_run 61 = .ok (.iload 5, 2) := by decide +kernel
theorem dX0_run_63 : decode cX0_run 63 = .ok (.aload_n 1, 1) := by decide +kernel
theorem dX0_run_64 : decode cX0_run 64 = .ok (.getfield 78, 3) := by decide +kernel
theorem dX0_run_67 : decode cX0_run 67 = .ok (.if_icmp .ge 38, 3) := by decide +kernel
theorem dX0_run_70 : decode cX0_run 70 = .ok (.aload_n 1, 1) := by decide +kernel
theorem dX0_run_71 : decode cX0_run 71 = .ok (.getfield 81, 3) := by decide +kernel
theorem dX0_run_74 : decode cX0_run 74 = .ok (.iload 5, 2) := by decide +kernel
theorem dX0_run_76 : decode cX0_run 76 = .ok (.iaload, 1) := by decide +kernel
theorem dX0_run_77 : decode cX0_run 77 = .ok (.iconst 5, 1) := by decide +kernel
theorem dX0_run_78 : decode cX0_run 78 = .ok (.if_icmp .eq 21, 3) := by decide +kernel
theorem dX0_run_81 : decode cX0_run 81 = .ok (.aload_n 0, 1) := by decide +kernel
theorem dX0_run_82 : decode cX0_run 82 = .ok (.aload_n 1, 1) := by decide +kernel
theorem dX0_run_83 : decode cX0_run 83 = .ok (.aload_n 2, 1) := by decide +kernel
theorem dX0_run_84 : decode cX0_run 84 = .ok (.iload 5, 2) := by decide +kernel
theorem dX0_run_86 : decode cX0_run 86 = .ok (.iload 4, 2) := by decide +kernel
theorem dX0_run_88 : decode cX0_run 88 = .ok (.invokevirtual 84, 3) := by decide +kernel
theorem dX0_run_91 : decode cX0_run 91 = .ok (.aload_n 0, 1) := by decide +kernel
theorem dX0_run_92 : decode cX0_run 92 = .ok (.iload 5, 2) := by decide +kernel
theorem dX0_run_94 : decode cX0_run 94 = .ok (.iload 4, 2) := by decide +kernel
theorem dX0_run_96 : decode cX0_run 96 = .ok (.invokevirtual 74, 3) := by decide +kernel
theorem dX0_run_99 : decode cX0_run 99 = .ok (.iinc 5 1, 3) := by decide +kernel
theorem dX0_run_102 : decode cX0_run 102 = .ok (.goto (-41), 3) := by decide +kernel
theorem dX0_run_105 : decode cX0_run 105 = .ok (.aload_n 0, 1) := by decide +kernel
theorem dX0_run_106 : decode cX0_run 106 = .ok (.aload_n 1, 1) := by decide +kernel
theorem dX0_run_107 : decode cX0_run 107 = .ok (.aload_n 2, 1) := by decide +kernel
theorem dX0_run_108 : decode cX0_run 108 = .ok (.iload 4, 2) := by decide +kernel
theorem dX0_run_110 : decode cX0_run 110 = .ok (.invokevirtual 88, 3) := by decide +kernel
theorem dX0_run_113 : decode cX0_run 113 = .ok (.aload_n 0, 1) := by decide +kernel
theorem dX0_run_114 : decode cX0_run 114 = .ok (.aload_n 1, 1) := by decide +kernel
theorem dX0_run_115 : decode cX0_run 115 = .ok (.invokevirtual 91, 3) := by decide +kernel
theorem dX0_run_118 : decode cX0_run 118 = .ok (.iinc 4 1, 3) := by decide +kernel
theorem dX0_run_121 : decode cX0_run 121 = .ok (.goto (-100), 3) := by decide +kernel
theorem dX0_run_124 : decode cX0_run 124 = .ok (.aload_n 0, 1) := by decide +kernel
theorem dX0_run_125 : decode cX0_run 125 = .ok (.aload_n 1, 1) := by decide +kernel
theorem dX0_run_126 : decode cX0_run 126 = .ok (.aload_n 2, 1) := by decide +kernel
theorem dX0_run_127 : decode cX0_run 127 = .ok (.iload_n 3, 1) := by decide +kernel
theorem dX0_run_128 : decode cX0_run 128 = .ok (.invokevirtual 95, 3) := by decide +kernel
theorem dX0_run_131 : decode cX0_run 131 = .ok (.return_, 1) := by decide +kernel
set_option maxRecDepth 20000 in
theorem ggX0_workOut_X3_wide : GoodIn wsX0_workOut wsX3_wide := goodIn_r _ [10, 11, 39] (by decide +kernel) (by decide +kernel)
set_option maxRecDepth 20000 in
theorem gX0_workOut_X3_wide : GoodIn wsX0_workOut (wsV RX0 98 RX3 yX3_wide wsX3_wide) := goodIn_app (goodIn_of _ (by decide +kernel)) ggX0_workOut_X3_wide
set_option maxRecDepth 20000 in
theorem ggX0_workOut_X2_gate : GoodIn wsX0_workOut wsX2_gate := goodIn_r _ [15, 16] (by decide +kernel) (by decide +kernel)
set_option maxRecDepth 20000 in
theorem gX0_workOut_X2_gate : GoodIn wsX0_workOut (va_wsS RX0 110 yX2_gate wsX2_gate) := goodIn_app (goodIn_of _ (by decide +kernel)) ggX0_workOut_X2_gate
theorem dX0_workOut_0 : decode cX0_workOut 0 = .ok (.iconst 0, 1) := by decide +kernel
theorem dX0_workOut_1 : decode cX0_workOut 1 = .ok (.istore 5, 2) := by decide +kernel
theorem dX0_workOut_3 : decode cX0_workOut 3 = .ok (.iload 5, 2) := by decide +kernel
theorem dX0_workOut_5 : decode cX0_workOut 5 = .ok (.iconst 3, 1) := by decide +kernel
theorem dX0_workOut_6 : decode cX0_workOut 6 = .ok (.if_icmp .ge 130, 3) := by decide +kernel
theorem dX0_workOut_9 : decode cX0_workOut 9 = .ok (.iload_n 3, 1) := by decide +kernel
theorem dX0_workOut_10 : decode cX0_workOut 10 = .ok (.iconst 4, 1) := by decide +kernel
theorem dX0_workOut_11 : decode cX0_workOut 11 = .ok (.imul, 1) := by decide +kernel
theorem dX0_workOut_12 : decode cX0_workOut 12 = .ok (.iload 5, 2) := by decide +kernel
theorem dX0_workOut_14 : decode cX0_workOut 14 = .ok (.iadd, 1) := by decide +kernel
theorem dX0_workOut_15 : decode cX0_workOut 15 = .ok (.istore 6, 2) := by decide +kernel
theorem dX0_workOut_17 : decode cX0_workOut 17 = .ok (.aload_n 1, 1) := by decide +kernel
theorem dX0_workOut_18 : decode cX0_workOut 18 = .ok (.getfield 81, 3) := by decide +kernel
theorem dX0_workOut_21 : decode cX0_workOut 21 = .ok (.iload_n 3, 1) := by decide +kernel
theorem dX0_workOut_22 : decode cX0_workOut 22 = .ok (.iaload, 1) := by decide +kernel
theorem dX0_workOut_23 : decode cX0_workOut 23 = .ok (.ifCond .ne 20, 3) := by decide +kernel
theorem dX0_workOut_26 : decode cX0_workOut 26 = .ok (.aload_n 0, 1) := by decide +kernel
theorem dX0_workOut_27 : decode cX0_workOut 27 = .ok (.getfield 15, 3) := by decide +kernel
theorem dX0_workOut_30 : decode cX0_workOut 30 = .ok (.iload 6, 2) := by decide +kernel
theorem dX0_workOut_32 : decode cX0_workOut 32 = .ok (.aload_n 2, 1) := by decide +kernel
theorem dX0_workOut_33 : decode cX0_workOut 33 = .ok (.iload_n 3, 1) := by decide +kernel
theorem dX0_workOut_34 : decode cX0_workOut 34 = .ok (.iload 4, 2) := by decide +kernel
theorem dX0_workOut_36 : decode cX0_workOut 36 = .ok (.invokevirtual 98, 3) := by decide +kernel
theorem dX0_workOut_39 : decode cX0_workOut 39 = .ok (.lastore, 1) := by decide +kernel
theorem dX0_workOut_40 : decode cX0_workOut 40 = .ok (.goto 90, 3) := by decide +kernel
theorem dX0_workOut_43 : decode cX0_workOut 43 = .ok (.aload_n 1, 1) := by decide +kernel
theorem dX0_workOut_44 : decode cX0_workOut 44 = .ok (.getfield 44, 3) := by decide +kernel
theorem dX0_workOut_47 : decode cX0_workOut 47 = .ok (.iload_n 3, 1) := by decide +kernel
theorem dX0_workOut_48 : decode cX0_workOut 48 = .ok (.baload, 1) := by decide +kernel
theorem dX0_workOut_49 : decode cX0_workOut 49 = .ok (.ifCond .eq 8, 3) := by decide +kernel
theorem dX0_workOut_52 : decode cX0_workOut 52 = .ok (.iload 5, 2) := by decide +kernel
theorem dX0_workOut_54 : decode cX0_workOut 54 = .ok (.goto 4, 3) := by decide +kernel
theorem dX0_workOut_57 : decode cX0_workOut 57 = .ok (.iconst 3, 1) := by decide +kernel
theorem dX0_workOut_58 : decode cX0_workOut 58 = .ok (.istore 7, 2) := by decide +kernel
theorem dX0_workOut_60 : decode cX0_workOut 60 = .ok (.aload_n 0, 1) := by decide +kernel
theorem dX0_workOut_61 : decode cX0_workOut 61 = .ok (.getfield 15, 3) := by decide +kernel
theorem dX0_workOut_64 : decode cX0_workOut 64 = .ok (.aload_n 1, 1) := by decide +kernel
theorem dX0_workOut_65 : decode cX0_workOut 65 = .ok (.getfield 104, 3) := by decide +kernel
theorem dX0_workOut_68 : decode cX0_workOut 68 = .ok (.iload_n 3, 1) := by decide +kernel
theorem dX0_workOut_69 : decode cX0_workOut 69 = .ok (.iaload, 1) := by decide +kernel
theorem dX0_workOut_70 : decode cX0_workOut 70 = .ok (.iconst 4, 1) := by decide +kernel
theorem dX0_workOut_71 : decode cX0_workOut 71 = .ok (.imul, 1) := by decide +kernel
theorem dX0_workOut_72 : decode cX0_workOut 72 = .ok (.iload 7, 2) := by decide +kernel
theorem dX0_workOut_74 : decode cX0_workOut 74 = .ok (.iadd, 1) := by decide +kernel
theorem dX0_workOut_75 : decode cX0_workOut 75 = .ok (.laload, 1) := by decide +kernel
theorem dX0_workOut_76 : decode cX0_workOut 76 = .ok (.lstore 8, 2) := by decide +kernel
theorem dX0_workOut_78 : decode cX0_workOut 78 = .ok (.aload_n 1, 1) := by decide +kernel
theorem dX0_workOut_79 : decode cX0_workOut 79 = .ok (.getfield 107, 3) := by decide +kernel
theorem dX0_workOut_82 : decode cX0_workOut 82 = .ok (.iload_n 3, 1) := by decide +kernel
theorem dX0_workOut_83 : decode cX0_workOut 83 = .ok (.iaload, 1) := by decide +kernel
theorem dX0_workOut_84 : decode cX0_workOut 84 = .ok (.iconst (-1), 1) := by decide +kernel
theorem dX0_workOut_85 : decode cX0_workOut 85 = .ok (.if_icmp .ne 7, 3) := by decide +kernel
theorem dX0_workOut_88 : decode cX0_workOut 88 = .ok (.lconst 0, 1) := by decide +kernel
theorem dX0_workOut_89 : decode cX0_workOut 89 = .ok (.goto 19, 3) := by decide +kernel
theorem dX0_workOut_92 : decode cX0_workOut 92 = .ok (.aload_n 0, 1) := by decide +kernel
theorem dX0_workOut_93 : decode cX0_workOut 93 = .ok (.getfield 15, 3) := by decide +kernel
theorem dX0_workOut_96 : decode cX0_workOut 96 = .ok (.aload_n 1, 1) := by decide +kernel
theorem dX0_workOut_97 : decode cX0_workOut 97 = .ok (.getfield 107, 3) := by decide +kernel
theorem dX0_workOut_100 : decode cX0_workOut 100 = .ok (.iload_n 3, 1) := by decide +kernel
theorem dX0_workOut_101 : decode cX0_workOut 101 = .ok (.iaload, 1) := by decide +kernel
theorem dX0_workOut_102 : decode cX0_workOut 102 = .ok (.iconst 4, 1) := by decide +kernel
theorem dX0_workOut_103 : decode cX0_workOut 103 = .ok (.imul, 1) := by decide +kernel
theorem dX0_workOut_104 : decode cX0_workOut 104 = .ok (.iload 7, 2) := by decide +kernel
theorem dX0_workOut_106 : decode cX0_workOut 106 = .ok (.iadd, 1) := by decide +kernel
theorem dX0_workOut_107 : decode cX0_workOut 107 = .ok (.laload, 1) := by decide +kernel
theorem dX0_workOut_108 : decode cX0_workOut 108 = .ok (.lstore 10, 2) := by decide +kernel
theorem dX0_workOut_110 : decode cX0_workOut 110 = .ok (.aload_n 0, 1) := by decide +kernel
theorem dX0_workOut_111 : decode cX0_workOut 111 = .ok (.getfield 15, 3) := by decide +kernel
theorem dX0_workOut_114 : decode cX0_workOut 114 = .ok (.iload 6, 2) := by decide +kernel
theorem dX0_workOut_116 : decode cX0_workOut 116 = .ok (.aload_n 1, 1) := by decide +kernel
theorem dX0_workOut_117 : decode cX0_workOut 117 = .ok (.getfield 81, 3) := by decide +kernel
theorem dX0_workOut_120 : decode cX0_workOut 120 = .ok (.iload_n 3, 1) := by decide +kernel
theorem dX0_workOut_121 : decode cX0_workOut 121 = .ok (.iaload, 1) := by decide +kernel
theorem dX0_workOut_122 : decode cX0_workOut 122 = .ok (.lload 8, 2) := by decide +kernel
theorem dX0_workOut_124 : decode cX0_workOut 124 = .ok (.lload 10, 2) := by decide +kernel
theorem dX0_workOut_126 : decode cX0_workOut 126 = .ok (.invokestatic 110, 3) := by decide +kernel
theorem dX0_workOut_129 : decode cX0_workOut 129 = .ok (.lastore, 1) := by decide +kernel
theorem dX0_workOut_130 : decode cX0_workOut 130 = .ok (.iinc 5 1, 3) := by decide +kernel
theorem dX0_workOut_133 : decode cX0_workOut 133 = .ok (.goto (-130), 3) := by decide +kernel
theorem dX0_workOut_136 : decode cX0_workOut 136 = .ok (.return_, 1) := by decide +kernel
theorem dX0_settle_0 : decode cX0_settle 0 = .ok (.iload_n 1, 1) := by decide +kernel
theorem dX0_settle_1 : decode cX0_settle 1 = .ok (.iconst 4, 1) := by decide +kernel
theorem dX0_settle_2 : decode cX0_settle 2 = .ok (.imul, 1) := by decide +kernel
theorem dX0_settle_3 : decode cX0_settle 3 = .ok (.istore_n 3, 1) := by decide +kernel
theorem dX0_settle_4 : decode cX0_settle 4 = .ok (.iload_n 2, 1) := by decide +kernel
theorem dX0_settle_5 : decode cX0_settle 5 = .ok (.bipush 24, 2) := by decide +kernel
theorem dX0_settle_7 : decode cX0_settle 7 = .ok (.imul, 1) := by decide +kernel
theorem dX0_settle_8 : decode cX0_settle 8 = .ok (.iload_n 1, 1) := by decide +kernel
theorem dX0_settle_9 : decode cX0_settle 9 = .ok (.iadd, 1) := by decide +kernel
theorem dX0_settle_10 : decode cX0_settle 10 = .ok (.iconst 3, 1) := by decide +kernel
theorem dX0_settle_11 : decode cX0_settle 11 = .ok (.imul, 1) := by decide +kernel
theorem dX0_settle_12 : decode cX0_settle 12 = .ok (.istore 4, 2) := by decide +kernel
theorem dX0_settle_14 : decode cX0_settle 14 = .ok (.iconst 0, 1) := by decide +kernel
theorem dX0_settle_15 : decode cX0_settle 15 = .ok (.istore 5, 2) := by decide +kernel
theorem dX0_settle_17 : decode cX0_settle 17 = .ok (.iload 5, 2) := by decide +kernel
theorem dX0_settle_19 : decode cX0_settle 19 = .ok (.iconst 3, 1) := by decide +kernel
theorem dX0_settle_20 : decode cX0_settle 20 = .ok (.if_icmp .ge 31, 3) := by decide +kernel
theorem dX0_settle_23 : decode cX0_settle 23 = .ok (.aload_n 0, 1) := by decide +kernel
theorem dX0_settle_24 : decode cX0_settle 24 = .ok (.getfield 15, 3) := by decide +kernel
theorem dX0_settle_27 : decode cX0_settle 27 = .ok (.iload_n 3, 1) := by decide +kernel
theorem dX0_settle_28 : decode cX0_settle 28 = .ok (.iload 5, 2) := by decide +kernel
theorem dX0_settle_30 : decode cX0_settle 30 = .ok (.iadd, 1) := by decide +kernel
theorem dX0_settle_31 : decode cX0_settle 31 = .ok (.dup2, 1) := by decide +kernel
theorem dX0_settle_32 : decode cX0_settle 32 = .ok (.laload, 1) := by decide +kernel
theorem dX0_settle_33 : decode cX0_settle 33 = .ok (.aload_n 0, 1) := by decide +kernel
theorem dX0_settle_34 : decode cX0_settle 34 = .ok (.getfield 9, 3) := by decide +kernel
theorem dX0_settle_37 : decode cX0_settle 37 = .ok (.iload 4, 2) := by decide +kernel
theorem dX0_settle_39 : decode cX0_settle 39 = .ok (.iload 5, 2) := by decide +kernel
theorem dX0_settle_41 : decode cX0_settle 41 = .ok (.iadd, 1) := by decide +kernel
theorem dX0_settle_42 : decode cX0_settle 42 = .ok (.laload, 1) := by decide +kernel
theorem dX0_settle_43 : decode cX0_settle 43 = .ok (.lxor, 1) := by decide +kernel
theorem dX0_settle_44 : decode cX0_settle 44 = .ok (.lastore, 1) := by decide +kernel
theorem dX0_settle_45 : decode cX0_settle 45 = .ok (.iinc 5 1, 3) := by decide +kernel
theorem dX0_settle_48 : decode cX0_settle 48 = .ok (.goto (-31), 3) := by decide +kernel
theorem dX0_settle_51 : decode cX0_settle 51 = .ok (.aload_n 0, 1) := by decide +kernel
theorem dX0_settle_52 : decode cX0_settle 52 = .ok (.getfield 15, 3) := by decide +kernel
theorem dX0_settle_55 : decode cX0_settle 55 = .ok (.iload_n 3, 1) := by decide +kernel
theorem dX0_settle_56 : decode cX0_settle 56 = .ok (.laload, 1) := by decide +kernel
theorem dX0_settle_57 : decode cX0_settle 57 = .ok (.lstore 5, 2) := by decide +kernel
theorem dX0_settle_59 : decode cX0_settle 59 = .ok (.aload_n 0, 1) := by decide +kernel
theorem dX0_settle_60 : decode cX0_settle 60 = .ok (.getfield 15, 3) := by decide +kernel
theorem dX0_settle_63 : decode cX0_settle 63 = .ok (.iload_n 3, 1) := by decide +kernel
theorem dX0_settle_64 : decode cX0_settle 64 = .ok (.iconst 1, 1) := by decide +kernel
theorem dX0_settle_65 : decode cX0_settle 65 = .ok (.iadd, 1) := by decide +kernel
theorem dX0_settle_66 : decode cX0_settle 66 = .ok (.laload, 1) := by decide +kernel
theorem dX0_settle_67 : decode cX0_settle 67 = .ok (.lstore 7, 2) := by decide +kernel
theorem dX0_settle_69 : decode cX0_settle 69 = .ok (.aload_n 0, 1) := by decide +kernel
theorem dX0_settle_70 : decode cX0_settle 70 = .ok (.getfield 15, 3) := by decide +kernel
theorem dX0_settle_73 : decode cX0_settle 73 = .ok (.iload_n 3, 1) := by decide +kernel
theorem dX0_settle_74 : decode cX0_settle 74 = .ok (.iconst 2, 1) := by decide +kernel
theorem dX0_settle_75 : decode cX0_settle 75 = .ok (.iadd, 1) := by decide +kernel
theorem dX0_settle_76 : decode cX0_settle 76 = .ok (.laload, 1) := by decide +kernel
theorem dX0_settle_77 : decode cX0_settle 77 = .ok (.lstore 9, 2) := by decide +kernel
theorem dX0_settle_79 : decode cX0_settle 79 = .ok (.aload_n 0, 1) := by decide +kernel
theorem dX0_settle_80 : decode cX0_settle 80 = .ok (.getfield 15, 3) := by decide +kernel
theorem dX0_settle_83 : decode cX0_settle 83 = .ok (.iload_n 3, 1) := by decide +kernel
theorem dX0_settle_84 : decode cX0_settle 84 = .ok (.iconst 3, 1) := by decide +kernel
theorem dX0_settle_85 : decode cX0_settle 85 = .ok (.iadd, 1) := by decide +kernel
theorem dX0_settle_86 : decode cX0_settle 86 = .ok (.lload 5, 2) := by decide +kernel
theorem dX0_settle_88 : decode cX0_settle 88 = .ok (.lload 7, 2) := by decide +kernel
theorem dX0_settle_90 : decode cX0_settle 90 = .ok (.land, 1) := by decide +kernel
theorem dX0_settle_91 : decode cX0_settle 91 = .ok (.lload 5, 2) := by decide +kernel
theorem dX0_settle_93 : decode cX0_settle 93 = .ok (.lload 9, 2) := by decide +kernel
theorem dX0_settle_95 : decode cX0_settle 95 = .ok (.land, 1) := by decide +kernel
theorem dX0_settle_96 : decode cX0_settle 96 = .ok (.lor, 1) := by decide +kernel
theorem dX0_settle_97 : decode cX0_settle 97 = .ok (.lload 7, 2) := by decide +kernel
theorem dX0_settle_99 : decode cX0_settle 99 = .ok (.lload 9, 2) := by decide +kernel
theorem dX0_settle_101 : decode cX0_settle 101 = .ok (.land, 1) := by decide +kernel
theorem dX0_settle_102 : decode cX0_settle 102 = .ok (.lor, 1) := by decide +kernel
theorem dX0_settle_103 : decode cX0_settle 103 = .ok (.lastore, 1) := by decide +kernel
theorem dX0_settle_104 : decode cX0_settle 104 = .ok (.return_, 1) := by decide +kernel
set_option maxRecDepth 20000 in
theorem ggX0_lookAtOutputs_X3_wide : GoodIn wsX0_lookAtOutputs wsX3_wide := goodIn_r _ [9, 10, 33] (by decide +kernel) (by decide +kernel)
set_option maxRecDepth 20000 in
theorem gX0_lookAtOutputs_X3_wide : GoodIn wsX0_lookAtOutputs (wsV RX0 98 RX3 yX3_wide wsX3_wide) := goodIn_app (goodIn_of _ (by decide +kernel)) ggX0_lookAtOutputs_X3_wide
theorem dX0_lookAtOutputs_0 : decode cX0_lookAtOutputs 0 = .ok (.iconst 0, 1) := by decide +kernel
theorem dX0_lookAtOutputs_1 : decode cX0_lookAtOutputs 1 = .ok (.istore 4, 2) := by decide +kernel
theorem dX0_lookAtOutputs_3 : decode cX0_lookAtOutputs 3 = .ok (.iload 4, 2) := by decide +kernel
theorem dX0_lookAtOutputs_5 : decode cX0_lookAtOutputs 5 = .ok (.aload_n 1, 1) := by decide +kernel
theorem dX0_lookAtOutputs_6 : decode cX0_lookAtOutputs 6 = .ok (.getfield 78, 3) := by decide +kernel
theorem dX0_lookAtOutputs_9 : decode cX0_lookAtOutputs 9 = .ok (.if_icmp .ge 47, 3) := by decide +kernel
theorem dX0_lookAtOutputs_12 : decode cX0_lookAtOutputs 12 = .ok (.aload_n 1, 1) := by decide +kernel
theorem dX0_lookAtOutputs_13 : decode cX0_lookAtOutputs 13 = .ok (.getfield 114, 3) := by decide +kernel
theorem dX0_lookAtOutputs_16 : decode cX0_lookAtOutputs 16 = .ok (.iload 4, 2) := by decide +kernel
theorem dX0_lookAtOutputs_18 : decode cX0_lookAtOutputs 18 = .ok (.baload, 1) := by decide +kernel
theorem dX0_lookAtOutputs_19 : decode cX0_lookAtOutputs 19 = .ok (.ifCond .eq 31, 3) := by decide +kernel
theorem dX0_lookAtOutputs_22 : decode cX0_lookAtOutputs 22 = .ok (.aload_n 0, 1) := by decide +kernel
theorem dX0_lookAtOutputs_23 : decode cX0_lookAtOutputs 23 = .ok (.dup, 1) := by decide +kernel
theorem dX0_lookAtOutputs_24 : decode cX0_lookAtOutputs 24 = .ok (.getfield 61, 3) := by decide +kernel
theorem dX0_lookAtOutputs_27 : decode cX0_lookAtOutputs 27 = .ok (.aload_n 0, 1) := by decide +kernel
theorem dX0_lookAtOutputs_28 : decode cX0_lookAtOutputs 28 = .ok (.getfield 15, 3) := by decide +kernel
theorem dX0_lookAtOutputs_31 : decode cX0_lookAtOutputs 31 = .ok (.iload 4, 2) := by decide +kernel
theorem dX0_lookAtOutputs_33 : decode cX0_lookAtOutputs 33 = .ok (.iconst 4, 1) := by decide +kernel
theorem dX0_lookAtOutputs_34 : decode cX0_lookAtOutputs 34 = .ok (.imul, 1) := by decide +kernel
theorem dX0_lookAtOutputs_35 : decode cX0_lookAtOutputs 35 = .ok (.iconst 3, 1) := by decide +kernel
theorem dX0_lookAtOutputs_36 : decode cX0_lookAtOutputs 36 = .ok (.iadd, 1) := by decide +kernel
theorem dX0_lookAtOutputs_37 : decode cX0_lookAtOutputs 37 = .ok (.laload, 1) := by decide +kernel
theorem dX0_lookAtOutputs_38 : decode cX0_lookAtOutputs 38 = .ok (.aload_n 2, 1) := by decide +kernel
theorem dX0_lookAtOutputs_39 : decode cX0_lookAtOutputs 39 = .ok (.iload 4, 2) := by decide +kernel
theorem dX0_lookAtOutputs_41 : decode cX0_lookAtOutputs 41 = .ok (.iload_n 3, 1) := by decide +kernel
theorem dX0_lookAtOutputs_42 : decode cX0_lookAtOutputs 42 = .ok (.invokevirtual 98, 3) := by decide +kernel
theorem dX0_lookAtOutputs_45 : decode cX0_lookAtOutputs 45 = .ok (.lxor, 1) := by decide +kernel
theorem dX0_lookAtOutputs_46 : decode cX0_lookAtOutputs 46 = .ok (.lor, 1) := by decide +kernel
theorem dX0_lookAtOutputs_47 : decode cX0_lookAtOutputs 47 = .ok (.putfield 61, 3) := by decide +kernel
theorem dX0_lookAtOutputs_50 : decode cX0_lookAtOutputs 50 = .ok (.iinc 4 1, 3) := by decide +kernel
theorem dX0_lookAtOutputs_53 : decode cX0_lookAtOutputs 53 = .ok (.goto (-50), 3) := by decide +kernel
theorem dX0_lookAtOutputs_56 : decode cX0_lookAtOutputs 56 = .ok (.return_, 1) := by decide +kernel
theorem dX0_feedStores_0 : decode cX0_feedStores 0 = .ok (.iconst 0, 1) := by decide +kernel
theorem dX0_feedStores_1 : decode cX0_feedStores 1 = .ok (.istore_n 2, 1) := by decide +kernel
theorem dX0_feedStores_2 : decode cX0_feedStores 2 = .ok (.iload_n 2, 1) := by decide +kernel
theorem dX0_feedStores_3 : decode cX0_feedStores 3 = .ok (.aload_n 1, 1) := by decide +kernel
theorem dX0_feedStores_4 : decode cX0_feedStores 4 = .ok (.getfield 68, 3) := by decide +kernel
theorem dX0_feedStores_7 : decode cX0_feedStores 7 = .ok (.if_icmp .ge 92, 3) := by decide +kernel
theorem dX0_feedStores_10 : decode cX0_feedStores 10 = .ok (.aload_n 1, 1) := by decide +kernel
theorem dX0_feedStores_11 : decode cX0_feedStores 11 = .ok (.getfield 71, 3) := by decide +kernel
theorem dX0_feedStores_14 : decode cX0_feedStores 14 = .ok (.iload_n 2, 1) := by decide +kernel
theorem dX0_feedStores_15 : decode cX0_feedStores 15 = .ok (.iaload, 1) := by decide +kernel
theorem dX0_feedStores_16 : decode cX0_feedStores 16 = .ok (.istore_n 3, 1) := by decide +kernel
theorem dX0_feedStores_17 : decode cX0_feedStores 17 = .ok (.aload_n 1, 1) := by decide +kernel
theorem dX0_feedStores_18 : decode cX0_feedStores 18 = .ok (.getfield 44, 3) := by decide +kernel
theorem dX0_feedStores_21 : decode cX0_feedStores 21 = .ok (.iload_n 3, 1) := by decide +kernel
theorem dX0_feedStores_22 : decode cX0_feedStores 22 = .ok (.baload, 1) := by decide +kernel
theorem dX0_feedStores_23 : decode cX0_feedStores 23 = .ok (.ifCond .eq 16, 3) := by decide +kernel
theorem dX0_feedStores_26 : decode cX0_feedStores 26 = .ok (.aload_n 1, 1) := by decide +kernel
theorem dX0_feedStores_27 : decode cX0_feedStores 27 = .ok (.getfield 117, 3) := by decide +kernel
theorem dX0_feedStores_30 : decode cX0_feedStores 30 = .ok (.iload_n 3, 1) := by decide +kernel
theorem dX0_feedStores_31 : decode cX0_feedStores 31 = .ok (.baload, 1) := by decide +kernel
theorem dX0_feedStores_32 : decode cX0_feedStores 32 = .ok (.ifCond .ne 7, 3) := by decide +kernel
theorem dX0_feedStores_35 : decode cX0_feedStores 35 = .ok (.iconst 1, 1) := by decide +kernel
theorem dX0_feedStores_36 : decode cX0_feedStores 36 = .ok (.goto 4, 3) := by decide +kernel
theorem dX0_feedStores_39 : decode cX0_feedStores 39 = .ok (.iconst 0, 1) := by decide +kernel
theorem dX0_feedStores_40 : decode cX0_feedStores 40 = .ok (.istore 4, 2) := by decide +kernel
theorem dX0_feedStores_42 : decode cX0_feedStores 42 = .ok (.iconst 0, 1) := by decide +kernel
theorem dX0_feedStores_43 : decode cX0_feedStores 43 = .ok (.istore 5, 2) := by decide +kernel
theorem dX0_feedStores_45 : decode cX0_feedStores 45 = .ok (.iload 5, 2) := by decide +kernel
theorem dX0_feedStores_47 : decode cX0_feedStores 47 = .ok (.iconst 3, 1) := by decide +kernel
theorem dX0_feedStores_48 : decode cX0_feedStores 48 = .ok (.if_icmp .ge 45, 3) := by decide +kernel
theorem dX0_feedStores_51 : decode cX0_feedStores 51 = .ok (.aload_n 0, 1) := by decide +kernel
theorem dX0_feedStores_52 : decode cX0_feedStores 52 = .ok (.getfield 18, 3) := by decide +kernel
theorem dX0_feedStores_55 : decode cX0_feedStores 55 = .ok (.iload_n 2, 1) := by decide +kernel
theorem dX0_feedStores_56 : decode cX0_feedStores 56 = .ok (.iconst 3, 1) := by decide +kernel
theorem dX0_feedStores_57 : decode cX0_feedStores 57 = .ok (.imul, 1) := by decide +kernel
theorem dX0_feedStores_58 : decode cX0_feedStores 58 = .ok (.iload 5, 2) := by decide +kernel
theorem dX0_feedStores_60 : decode cX0_feedStores 60 = .ok (.iadd, 1) := by decide +kernel
theorem dX0_feedStores_61 : decode cX0_feedStores 61 = .ok (.aload_n 0, 1) := by decide +kernel
theorem dX0_feedStores_62 : decode cX0_feedStores 62 = .ok (.getfield 15, 3) := by decide +kernel
theorem dX0_feedStores_65 : decode cX0_feedStores 65 = .ok (.aload_n 1, 1) := by decide +kernel
theorem dX0_feedStores_66 : decode cX0_feedStores 66 = .ok (.getfield 104, 3) := by decide +kernel
theorem dX0_feedStores_69 : decode cX0_feedStores 69 = .ok (.iload_n 3, 1) := by decide +kernel
theorem dX0_feedStores_70 : decode cX0_feedStores 70 = .ok (.iaload, 1) := by decide +kernel
theorem dX0_feedStores_71 : decode cX0_feedStores 71 = .ok (.iconst 4, 1) := by decide +kernel
theorem dX0_feedStores_72 : decode cX0_feedStores 72 = .ok (.imul, 1) := by decide +kernel
theorem dX0_feedStores_73 : decode cX0_feedStores 73 = .ok (.iload 4, 2) := by decide +kernel
theorem dX0_feedStores_75 : decode cX0_feedStores 75 = .ok (.ifCond .eq 8, 3) := by decide +kernel
theorem dX0_feedStores_78 : decode cX0_feedStores 78 = .ok (.iload 5, 2) := by decide +kernel
theorem dX0_feedStores_80 : decode cX0_feedStores 80 = .ok (.goto 4, 3) := by decide +kernel
theorem dX0_feedStores_83 : decode cX0_feedStores 83 = .ok (.iconst 3, 1) := by decide +kernel
theorem dX0_feedStores_84 : decode cX0_feedStores 84 = .ok (.iadd, 1) := by decide +kernel
theorem dX0_feedStores_85 : decode cX0_feedStores 85 = .ok (.laload, 1) := by decide +kernel
theorem dX0_feedStores_86 : decode cX0_feedStores 86 = .ok (.lastore, 1) := by decide +kernel
theorem dX0_feedStores_87 : decode cX0_feedStores 87 = .ok (.iinc 5 1, 3) := by decide +kernel
theorem dX0_feedStores_90 : decode cX0_feedStores 90 = .ok (.goto (-45), 3) := by decide +kernel
theorem dX0_feedStores_93 : decode cX0_feedStores 93 = .ok (.iinc 2 1, 3) := by decide +kernel
theorem dX0_feedStores_96 : decode cX0_feedStores 96 = .ok (.goto (-94), 3) := by decide +kernel
theorem dX0_feedStores_99 : decode cX0_feedStores 99 = .ok (.iconst 0, 1) := by decide +kernel
theorem dX0_feedStores_100 : decode cX0_feedStores 100 = .ok (.istore_n 2, 1) := by decide +kernel
theorem dX0_feedStores_101 : decode cX0_feedStores 101 = .ok (.iload_n 2, 1) := by decide +kernel
theorem dX0_feedStores_102 : decode cX0_feedStores 102 = .ok (.aload_n 1, 1) := by decide +kernel
theorem dX0_feedStores_103 : decode cX0_feedStores 103 = .ok (.getfield 68, 3) := by decide +kernel
theorem dX0_feedStores_106 : decode cX0_feedStores 106 = .ok (.if_icmp .ge 32, 3) := by decide +kernel
theorem dX0_feedStores_109 : decode cX0_feedStores 109 = .ok (.aload_n 0, 1) := by decide +kernel
theorem dX0_feedStores_110 : decode cX0_feedStores 110 = .ok (.getfield 18, 3) := by decide +kernel
theorem dX0_feedStores_113 : decode cX0_feedStores 113 = .ok (.iload_n 2, 1) := by decide +kernel
theorem dX0_feedStores_114 : decode cX0_feedStores 114 = .ok (.iconst 3, 1) := by decide +kernel
theorem dX0_feedStores_115 : decode cX0_feedStores 115 = .ok (.imul, 1) := by decide +kernel
theorem dX0_feedStores_116 : decode cX0_feedStores 116 = .ok (.aload_n 0, 1) := by decide +kernel
theorem dX0_feedStores_117 : decode cX0_feedStores 117 = .ok (.getfield 15, 3) := by decide +kernel
theorem dX0_feedStores_120 : decode cX0_feedStores 120 = .ok (.aload_n 1, 1) := by decide +kernel
theorem dX0_feedStores_121 : decode cX0_feedStores 121 = .ok (.getfield 71, 3) := by decide +kernel
theorem dX0_feedStores_124 : decode cX0_feedStores 124 = .ok (.iload_n 2, 1) := by decide +kernel
theorem dX0_feedStores_125 : decode cX0_feedStores 125 = .ok (.iaload, 1) := by decide +kernel
theorem dX0_feedStores_126 : decode cX0_feedStores 126 = .ok (.iconst 4, 1) := by decide +kernel
theorem dX0_feedStores_127 : decode cX0_feedStores 127 = .ok (.imul, 1) := by decide +kernel
theorem dX0_feedStores_128 : decode cX0_feedStores 128 = .ok (.iconst 3, 1) := by decide +kernel
theorem dX0_feedStores_129 : decode cX0_feedStores 129 = .ok (.invokestatic 120, 3) := by decide +kernel
theorem dX0_feedStores_132 : decode cX0_feedStores 132 = .ok (.iinc 2 1, 3) := by decide +kernel
theorem dX0_feedStores_135 : decode cX0_feedStores 135 = .ok (.goto (-34), 3) := by decide +kernel
theorem dX0_feedStores_138 : decode cX0_feedStores 138 = .ok (.return_, 1) := by decide +kernel
set_option maxRecDepth 20000 in
theorem ggX0_lookAtStores_X3_wide : GoodIn wsX0_lookAtStores wsX3_wide := goodIn_r _ [9, 10, 33] (by decide +kernel) (by decide +kernel)
set_option maxRecDepth 20000 in
theorem gX0_lookAtStores_X3_wide : GoodIn wsX0_lookAtStores (wsV RX0 98 RX3 yX3_wide wsX3_wide) := goodIn_app (goodIn_of _ (by decide +kernel)) ggX0_lookAtStores_X3_wide
theorem dX0_lookAtStores_0 : decode cX0_lookAtStores 0 = .ok (.iconst 0, 1) := by decide +kernel
theorem dX0_lookAtStores_1 : decode cX0_lookAtStores 1 = .ok (.istore 4, 2) := by decide +kernel
theorem dX0_lookAtStores_3 : decode cX0_lookAtStores 3 = .ok (.iload 4, 2) := by decide +kernel
theorem dX0_lookAtStores_5 : decode cX0_lookAtStores 5 = .ok (.aload_n 1, 1) := by decide +kernel
theorem dX0_lookAtStores_6 : decode cX0_lookAtStores 6 = .ok (.getfield 68, 3) := by decide +kernel
theorem dX0_lookAtStores_9 : decode cX0_lookAtStores 9 = .ok (.if_icmp .ge 62, 3) := by decide +kernel
theorem dX0_lookAtStores_12 : decode cX0_lookAtStores 12 = .ok (.aload_n 1, 1) := by decide +kernel
theorem dX0_lookAtStores_13 : decode cX0_lookAtStores 13 = .ok (.getfield 71, 3) := by decide +kernel
theorem dX0_lookAtStores_16 : decode cX0_lookAtStores 16 = .ok (.iload 4, 2) := by decide +kernel
theorem dX0_lookAtStores_18 : decode cX0_lookAtStores 18 = .ok (.iaload, 1) := by decide +kernel
theorem dX0_lookAtStores_19 : decode cX0_lookAtStores 19 = .ok (.istore 5, 2) := by decide +kernel
theorem dX0_lookAtStores_21 : decode cX0_lookAtStores 21 = .ok (.iconst 0, 1) := by decide +kernel
theorem dX0_lookAtStores_22 : decode cX0_lookAtStores 22 = .ok (.istore 6, 2) := by decide +kernel
theorem dX0_lookAtStores_24 : decode cX0_lookAtStores 24 = .ok (.iload 6, 2) := by decide +kernel
theorem dX0_lookAtStores_26 : decode cX0_lookAtStores 26 = .ok (.iconst 3, 1) := by decide +kernel
theorem dX0_lookAtStores_27 : decode cX0_lookAtStores 27 = .ok (.if_icmp .ge 38, 3) := by decide +kernel
theorem dX0_lookAtStores_30 : decode cX0_lookAtStores 30 = .ok (.aload_n 0, 1) := by decide +kernel
theorem dX0_lookAtStores_31 : decode cX0_lookAtStores 31 = .ok (.dup, 1) := by decide +kernel
theorem dX0_lookAtStores_32 : decode cX0_lookAtStores 32 = .ok (.getfield 65, 3) := by decide +kernel
theorem dX0_lookAtStores_35 : decode cX0_lookAtStores 35 = .ok (.aload_n 0, 1) := by decide +kernel
theorem dX0_lookAtStores_36 : decode cX0_lookAtStores 36 = .ok (.getfield 15, 3) := by decide +kernel
theorem dX0_lookAtStores_39 : decode cX0_lookAtStores 39 = .ok (.iload 5, 2) := by decide +kernel
theorem dX0_lookAtStores_41 : decode cX0_lookAtStores 41 = .ok (.iconst 4, 1) := by decide +kernel
theorem dX0_lookAtStores_42 : decode cX0_lookAtStores 42 = .ok (.imul, 1) := by decide +kernel
theorem dX0_lookAtStores_43 : decode cX0_lookAtStores 43 = .ok (.iload 6, 2) := by decide +kernel
theorem dX0_lookAtStores_45 : decode cX0_lookAtStores 45 = .ok (.iadd, 1) := by decide +kernel
theorem dX0_lookAtStores_46 : decode cX0_lookAtStores 46 = .ok (.laload, 1) := by decide +kernel
theorem dX0_lookAtStores_47 : decode cX0_lookAtStores 47 = .ok (.aload_n 2, 1) := by decide +kernel
theorem dX0_lookAtStores_48 : decode cX0_lookAtStores 48 = .ok (.iload 5, 2) := by decide +kernel
theorem dX0_lookAtStores_50 : decode cX0_lookAtStores 50 = .ok (.iload_n 3, 1) := by decide +kernel
theorem dX0_lookAtStores_51 : decode cX0_lookAtStores 51 = .ok (.invokevirtual 98, 3) := by decide +kernel
theorem dX0_lookAtStores_54 : decode cX0_lookAtStores 54 = .ok (.lxor, 1) := by decide +kernel
theorem dX0_lookAtStores_55 : decode cX0_lookAtStores 55 = .ok (.lor, 1) := by decide +kernel
theorem dX0_lookAtStores_56 : decode cX0_lookAtStores 56 = .ok (.putfield 65, 3) := by decide +kernel
theorem dX0_lookAtStores_59 : decode cX0_lookAtStores 59 = .ok (.iinc 6 1, 3) := by decide +kernel
theorem dX0_lookAtStores_62 : decode cX0_lookAtStores 62 = .ok (.goto (-38), 3) := by decide +kernel
theorem dX0_lookAtStores_65 : decode cX0_lookAtStores 65 = .ok (.iinc 4 1, 3) := by decide +kernel
theorem dX0_lookAtStores_68 : decode cX0_lookAtStores 68 = .ok (.goto (-65), 3) := by decide +kernel
theorem dX0_lookAtStores_71 : decode cX0_lookAtStores 71 = .ok (.return_, 1) := by decide +kernel
theorem dX1_init_0 : decode cX1_init 0 = .ok (.aload_n 0, 1) := by decide +kernel
theorem dX1_init_1 : decode cX1_init 1 = .ok (.invokespecial 3, 3) := by decide +kernel
theorem dX1_init_4 : decode cX1_init 4 = .ok (.aload_n 0, 1) := by decide +kernel
theorem dX1_init_5 : decode cX1_init 5 = .ok (.bipush 24, 2) := by decide +kernel
theorem dX1_init_7 : decode cX1_init 7 = .ok (.newarray .int, 2) := by decide +kernel
theorem dX1_init_9 : decode cX1_init 9 = .ok (.putfield 9, 3) := by decide +kernel
theorem dX1_init_12 : decode cX1_init 12 = .ok (.aload_n 0, 1) := by decide +kernel
theorem dX1_init_13 : decode cX1_init 13 = .ok (.bipush 24, 2) := by decide +kernel
theorem dX1_init_15 : decode cX1_init 15 = .ok (.newarray .int, 2) := by decide +kernel
theorem dX1_init_17 : decode cX1_init 17 = .ok (.putfield 15, 3) := by decide +kernel
theorem dX1_init_20 : decode cX1_init 20 = .ok (.return_, 1) := by decide +kernel
theorem dX1_trace_0 : decode cX1_trace 0 = .ok (.iconst 0, 1) := by decide +kernel
theorem dX1_trace_1 : decode cX1_trace 1 = .ok (.istore_n 2, 1) := by decide +kernel
theorem dX1_trace_2 : decode cX1_trace 2 = .ok (.iload_n 2, 1) := by decide +kernel
theorem dX1_trace_3 : decode cX1_trace 3 = .ok (.aload_n 1, 1) := by decide +kernel
theorem dX1_trace_4 : decode cX1_trace 4 = .ok (.getfield 18, 3) := by decide +kernel
theorem dX1_trace_7 : decode cX1_trace 7 = .ok (.if_icmp .ge 100, 3) := by decide +kernel
theorem dX1_trace_10 : decode cX1_trace 10 = .ok (.aload_n 1, 1) := by decide +kernel
theorem dX1_trace_11 : decode cX1_trace 11 = .ok (.getfield 24, 3) := by decide +kernel
theorem dX1_trace_14 : decode cX1_trace 14 = .ok (.iload_n 2, 1) := by decide +kernel
theorem dX1_trace_15 : decode cX1_trace 15 = .ok (.iaload, 1) := by decide +kernel
theorem dX1_trace_16 : decode cX1_trace 16 = .ok (.ifCond .ne 13, 3) := by decide +kernel
theorem dX1_trace_19 : decode cX1_trace 19 = .ok (.aload_n 0, 1) := by decide +kernel
theorem dX1_trace_20 : decode cX1_trace 20 = .ok (.getfield 9, 3) := by decide +kernel
theorem dX1_trace_23 : decode cX1_trace 23 = .ok (.iload_n 2, 1) := by decide +kernel
theorem dX1_trace_24 : decode cX1_trace 24 = .ok (.iconst 0, 1) := by decide +kernel
theorem dX1_trace_25 : decode cX1_trace 25 = .ok (.iastore, 1) := by decide +kernel
theorem dX1_trace_26 : decode cX1_trace 26 = .ok (.goto 75, 3) := by decide +kernel
theorem dX1_trace_29 : decode cX1_trace 29 = .ok (.aload_n 1, 1) := by decide +kernel
theorem dX1_trace_30 : decode cX1_trace 30 = .ok (.getfield 24, 3) := by decide +kernel
theorem dX1_trace_33 : decode cX1_trace 33 = .ok (.iload_n 2, 1) := by decide +kernel
theorem dX1_trace_34 : decode cX1_trace 34 = .ok (.iaload, 1) := by decide +kernel
theorem dX1_trace_35 : decode cX1_trace 35 = .ok (.iconst 5, 1) := by decide +kernel
theorem dX1_trace_36 : decode cX1_trace 36 = .ok (.if_icmp .ne 20, 3) := by decide +kernel
theorem dX1_trace_39 : decode cX1_trace 39 = .ok (.aload_n 0, 1) := by decide +kernel
theorem dX1_trace_40 : decode cX1_trace 40 = .ok (.getfield 9, 3) := by decide +kernel
theorem dX1_trace_43 : decode cX1_trace 43 = .ok (.iload_n 2, 1) := by decide +kernel
theorem dX1_trace_44 : decode cX1_trace 44 = .ok (.iconst 1, 1) := by decide +kernel
theorem dX1_trace_45 : decode cX1_trace 45 = .ok (.aload_n 1, 1) := by decide +kernel
theorem dX1_trace_46 : decode cX1_trace 46 = .ok (.getfield 27, 3) := by decide +kernel
theorem dX1_trace_49 : decode cX1_trace 49 = .ok (.iload_n 2, 1) := by decide +kernel
theorem dX1_trace_50 : decode cX1_trace 50 = .ok (.iaload, 1) := by decide +kernel
theorem dX1_trace_51 : decode cX1_trace 51 = .ok (.ishl, 1) := by decide +kernel
theorem dX1_trace_52 : decode cX1_trace 52 = .ok (.iastore, 1) := by decide +kernel
theorem dX1_trace_53 : decode cX1_trace 53 = .ok (.goto 48, 3) := by decide +kernel
theorem dX1_trace_56 : decode cX1_trace 56 = .ok (.aload_n 1, 1) := by decide +kernel
theorem dX1_trace_57 : decode cX1_trace 57 = .ok (.getfield 30, 3) := by decide +kernel
theorem dX1_trace_60 : decode cX1_trace 60 = .ok (.iload_n 2, 1) := by decide +kernel
theorem dX1_trace_61 : decode cX1_trace 61 = .ok (.iaload, 1) := by decide +kernel
theorem dX1_trace_62 : decode cX1_trace 62 = .ok (.iconst (-1), 1) := by decide +kernel
theorem dX1_trace_63 : decode cX1_trace 63 = .ok (.if_icmp .ne 7, 3) := by decide +kernel
theorem dX1_trace_66 : decode cX1_trace 66 = .ok (.iconst 0, 1) := by decide +kernel
theorem dX1_trace_67 : decode cX1_trace 67 = .ok (.goto 14, 3) := by decide +kernel
theorem dX1_trace_70 : decode cX1_trace 70 = .ok (.aload_n 0, 1) := by decide +kernel
theorem dX1_trace_71 : decode cX1_trace 71 = .ok (.getfield 9, 3) := by decide +kernel
theorem dX1_trace_74 : decode cX1_trace 74 = .ok (.aload_n 1, 1) := by decide +kernel
theorem dX1_trace_75 : decode cX1_trace 75 = .ok (.getfield 30, 3) := by decide +kernel
theorem dX1_trace_78 : decode cX1_trace 78 = .ok (.iload_n 2, 1) := by decide +kernel
theorem dX1_trace_79 : decode cX1_trace 79 = .ok (.iaload, 1) := by decide +kernel
theorem dX1_trace_80 : decode cX1_trace 80 = .ok (.iaload, 1) := by decide +kernel
theorem dX1_trace_81 : decode cX1_trace 81 = .ok (.istore_n 3, 1) := by decide +kernel
theorem dX1_trace_82 : decode cX1_trace 82 = .ok (.aload_n 0, 1) := by decide +kernel
theorem dX1_trace_83 : decode cX1_trace 83 = .ok (.getfield 9, 3) := by decide +kernel
theorem dX1_trace_86 : decode cX1_trace 86 = .ok (.iload_n 2, 1) := by decide +kernel
theorem dX1_trace_87 : decode cX1_trace 87 = .ok (.aload_n 0, 1) := by decide +kernel
theorem dX1_trace_88 : decode cX1_trace 88 = .ok (.getfield 9, 3) := by decide +kernel
theorem dX1_trace_91 : decode cX1_trace 91 = .ok (.aload_n 1, 1) := by decide +kernel
theorem dX1_trace_92 : decode cX1_trace 92 = .ok (.getfield 33, 3) := by decide +kernel
theorem dX1_trace_95 : decode cX1_trace 95 = .ok (.iload_n 2, 1) := by decide +kernel
theorem dX1_trace_96 : decode cX1_trace 96 = .ok (.iaload, 1) := by decide +kernel
theorem dX1_trace_97 : decode cX1_trace 97 = .ok (.iaload, 1) := by decide +kernel
theorem dX1_trace_98 : decode cX1_trace 98 = .ok (.iload_n 3, 1) := by decide +kernel
theorem dX1_trace_99 : decode cX1_trace 99 = .ok (.ior, 1) := by decide +kernel
theorem dX1_trace_100 : decode cX1_trace 100 = .ok (.iastore, 1) := by decide +kernel
theorem dX1_trace_101 : decode cX1_trace 101 = .ok (.iinc 2 1, 3) := by decide +kernel
theorem dX1_trace_104 : decode cX1_trace 104 = .ok (.goto (-102), 3) := by decide +kernel
theorem dX1_trace_107 : decode cX1_trace 107 = .ok (.aload_n 0, 1) := by decide +kernel
theorem dX1_trace_108 : decode cX1_trace 108 = .ok (.aload_n 1, 1) := by decide +kernel
theorem dX1_trace_109 : decode cX1_trace 109 = .ok (.getfield 36, 3) := by decide +kernel
theorem dX1_trace_112 : decode cX1_trace 112 = .ok (.putfield 39, 3) := by decide +kernel
theorem dX1_trace_115 : decode cX1_trace 115 = .ok (.iconst 0, 1) := by decide +kernel
theorem dX1_trace_116 : decode cX1_trace 116 = .ok (.istore_n 2, 1) := by decide +kernel
theorem dX1_trace_117 : decode cX1_trace 117 = .ok (.iload_n 2, 1) := by decide +kernel
theorem dX1_trace_118 : decode cX1_trace 118 = .ok (.aload_n 0, 1) := by decide +kernel
theorem dX1_trace_119 : decode cX1_trace 119 = .ok (.getfield 39, 3) := by decide +kernel
theorem dX1_trace_122 : decode cX1_trace 122 = .ok (.if_icmp .ge 31, 3) := by decide +kernel
theorem dX1_trace_125 : decode cX1_trace 125 = .ok (.aload_n 0, 1) := by decide +kernel
theorem dX1_trace_126 : decode cX1_trace 126 = .ok (.getfield 15, 3) := by decide +kernel
theorem dX1_trace_129 : decode cX1_trace 129 = .ok (.iload_n 2, 1) := by decide +kernel
theorem dX1_trace_130 : decode cX1_trace 130 = .ok (.aload_n 0, 1) := by decide +kernel
theorem dX1_trace_131 : decode cX1_trace 131 = .ok (.getfield 9, 3) := by decide +kernel
theorem dX1_trace_134 : decode cX1_trace 134 = .ok (.aload_n 1, 1) := by decide +kernel
theorem dX1_trace_135 : decode cX1_trace 135 = .ok (.getfield 33, 3) := by decide +kernel
theorem dX1_trace_138 : decode cX1_trace 138 = .ok (.aload_n 1, 1) := by decide +kernel
theorem dX1_trace_139 : decode cX1_trace 139 = .ok (.getfield 40, 3) := by decide +kernel
theorem dX1_trace_142 : decode cX1_trace 142 = .ok (.iload_n 2, 1) := by decide +kernel
theorem dX1_trace_143 : decode cX1_trace 143 = .ok (.iaload, 1) := by decide +kernel
theorem dX1_trace_144 : decode cX1_trace 144 = .ok (.iaload, 1) := by decide +kernel
theorem dX1_trace_145 : decode cX1_trace 145 = .ok (.iaload, 1) := by decide +kernel
theorem dX1_trace_146 : decode cX1_trace 146 = .ok (.iastore, 1) := by decide +kernel
theorem dX1_trace_147 : decode cX1_trace 147 = .ok (.iinc 2 1, 3) := by decide +kernel
theorem dX1_trace_150 : decode cX1_trace 150 = .ok (.goto (-33), 3) := by decide +kernel
theorem dX1_trace_153 : decode cX1_trace 153 = .ok (.return_, 1) := by decide +kernel
theorem dX1_allBroken_0 : decode cX1_allBroken 0 = .ok (.iconst 1, 1) := by decide +kernel
theorem dX1_allBroken_1 : decode cX1_allBroken 1 = .ok (.aload_n 0, 1) := by decide +kernel
theorem dX1_allBroken_2 : decode cX1_allBroken 2 = .ok (.getfield 39, 3) := by decide +kernel
theorem dX1_allBroken_5 : decode cX1_allBroken 5 = .ok (.ishl, 1) := by decide +kernel
theorem dX1_allBroken_6 : decode cX1_allBroken 6 = .ok (.iconst 1, 1) := by decide +kernel
theorem dX1_allBroken_7 : decode cX1_allBroken 7 = .ok (.isub, 1) := by decide +kernel
theorem dX1_allBroken_8 : decode cX1_allBroken 8 = .ok (.iload_n 1, 1) := by decide +kernel
theorem dX1_allBroken_9 : decode cX1_allBroken 9 = .ok (.iconst (-1), 1) := by decide +kernel
theorem dX1_allBroken_10 : decode cX1_allBroken 10 = .ok (.ixor, 1) := by decide +kernel
theorem dX1_allBroken_11 : decode cX1_allBroken 11 = .ok (.iand, 1) := by decide +kernel
theorem dX1_allBroken_12 : decode cX1_allBroken 12 = .ok (.istore_n 2, 1) := by decide +kernel
theorem dX1_allBroken_13 : decode cX1_allBroken 13 = .ok (.iconst 0, 1) := by decide +kernel
theorem dX1_allBroken_14 : decode cX1_allBroken 14 = .ok (.istore_n 3, 1) := by decide +kernel
theorem dX1_allBroken_15 : decode cX1_allBroken 15 = .ok (.iload_n 3, 1) := by decide +kernel
theorem dX1_allBroken_16 : decode cX1_allBroken 16 = .ok (.aload_n 0, 1) := by decide +kernel
theorem dX1_allBroken_17 : decode cX1_allBroken 17 = .ok (.getfield 39, 3) := by decide +kernel
theorem dX1_allBroken_20 : decode cX1_allBroken 20 = .ok (.if_icmp .ge 63, 3) := by decide +kernel
theorem dX1_allBroken_23 : decode cX1_allBroken 23 = .ok (.iload_n 2, 1) := by decide +kernel
theorem dX1_allBroken_24 : decode cX1_allBroken 24 = .ok (.ifCond .eq 59, 3) := by decide +kernel
theorem dX1_allBroken_27 : decode cX1_allBroken 27 = .ok (.iload_n 2, 1) := by decide +kernel
theorem dX1_allBroken_28 : decode cX1_allBroken 28 = .ok (.istore 4, 2) := by decide +kernel
theorem dX1_allBroken_30 : decode cX1_allBroken 30 = .ok (.iconst 0, 1) := by decide +kernel
theorem dX1_allBroken_31 : decode cX1_allBroken 31 = .ok (.istore 5, 2) := by decide +kernel
theorem dX1_allBroken_33 : decode cX1_allBroken 33 = .ok (.iload 5, 2) := by decide +kernel
theorem dX1_allBroken_35 : decode cX1_allBroken 35 = .ok (.aload_n 0, 1) := by decide +kernel
theorem dX1_allBroken_36 : decode cX1_allBroken 36 = .ok (.getfield 39, 3) := by decide +kernel
theorem dX1_allBroken_39 : decode cX1_allBroken 39 = .ok (.if_icmp .ge 30, 3) := by decide +kernel
theorem dX1_allBroken_42 : decode cX1_allBroken 42 = .ok (.aload_n 0, 1) := by decide +kernel
theorem dX1_allBroken_43 : decode cX1_allBroken 43 = .ok (.getfield 15, 3) := by decide +kernel
theorem dX1_allBroken_46 : decode cX1_allBroken 46 = .ok (.iload 5, 2) := by decide +kernel
theorem dX1_allBroken_48 : decode cX1_allBroken 48 = .ok (.iaload, 1) := by decide +kernel
theorem dX1_allBroken_49 : decode cX1_allBroken 49 = .ok (.iload_n 2, 1) := by decide +kernel
theorem dX1_allBroken_50 : decode cX1_allBroken 50 = .ok (.iand, 1) := by decide +kernel
theorem dX1_allBroken_51 : decode cX1_allBroken 51 = .ok (.ifCond .ne 12, 3) := by decide +kernel
theorem dX1_allBroken_54 : decode cX1_allBroken 54 = .ok (.iload_n 2, 1) := by decide +kernel
theorem dX1_allBroken_55 : decode cX1_allBroken 55 = .ok (.iconst 1, 1) := by decide +kernel
theorem dX1_allBroken_56 : decode cX1_allBroken 56 = .ok (.iload 5, 2) := by decide +kernel
theorem dX1_allBroken_58 : decode cX1_allBroken 58 = .ok (.ishl, 1) := by decide +kernel
theorem dX1_allBroken_59 : decode cX1_allBroken 59 = .ok (.iconst (-1), 1) := by decide +kernel
theorem dX1_allBroken_60 : decode cX1_allBroken 60 = .ok (.ixor, 1) := by decide +kernel
theorem dX1_allBroken_61 : decode cX1_allBroken 61 = .ok (.iand, 1) := by decide +kernel
theorem dX1_allBroken_62 : decode cX1_allBroken 62 = .ok (.istore_n 2, 1) := by decide +kernel
theorem dX1_allBroken_63 : decode cX1_allBroken 63 = .ok (.iinc 5 1, 3) := by decide +kernel
theorem dX1_allBroken_66 : decode cX1_allBroken 66 = .ok (.goto (-33), 3) := by decide +kernel
theorem dX1_allBroken_69 : decode cX1_allBroken 69 = .ok (.iload_n 2, 1) := by decide +kernel
theorem dX1_allBroken_70 : decode cX1_allBroken 70 = .ok (.iload 4, 2) := by decide +kernel
theorem dX1_allBroken_72 : decode cX1_allBroken 72 = .ok (.if_icmp .ne 5, 3) := by decide +kernel
theorem dX1_allBroken_75 : decode cX1_allBroken 75 = .ok (.iconst 0, 1) := by decide +kernel
theorem dX1_allBroken_76 : decode cX1_allBroken 76 = .ok (.ireturn, 1) := by decide +kernel
theorem dX1_allBroken_77 : decode cX1_allBroken 77 = .ok (.iinc 3 1, 3) := by decide +kernel
theorem dX1_allBroken_80 : decode cX1_allBroken 80 = .ok (.goto (-65), 3) := by decide +kernel
theorem dX1_allBroken_83 : decode cX1_allBroken 83 = .ok (.iload_n 2, 1) := by decide +kernel
theorem dX1_allBroken_84 : decode cX1_allBroken 84 = .ok (.ifCond .ne 7, 3) := by decide +kernel
theorem dX1_allBroken_87 : decode cX1_allBroken 87 = .ok (.iconst 1, 1) := by decide +kernel
theorem dX1_allBroken_88 : decode cX1_allBroken 88 = .ok (.goto 4, 3) := by decide +kernel
theorem dX1_allBroken_91 : decode cX1_allBroken 91 = .ok (.iconst 0, 1) := by decide +kernel
theorem dX1_allBroken_92 : decode cX1_allBroken 92 = .ok (.ireturn, 1) := by decide +kernel
set_option maxRecDepth 20000 in
theorem ggX1_cheapest_X1_priceOf : GoodIn wsX1_cheapest wsX1_priceOf := goodIn_r _ [6, 1, 7, 8, 21, 22, 23, 24, 25, 26, 27, 28, 29, 30, 31, 32, 33, 34, 35, 36] (by decide +kernel) (by decide +kernel)
set_option maxRecDepth 20000 in
theorem gX1_cheapest_X1_priceOf : GoodIn wsX1_cheapest (wsV RX1 43 RX1 yX1_priceOf wsX1_priceOf) := goodIn_app (goodIn_of _ (by decide +kernel)) ggX1_cheapest_X1_priceOf
set_option maxRecDepth 20000 in
theorem ggX1_cheapest_J6_bitCount_0f7a4 : GoodIn wsX1_cheapest wsJ6_bitCount_0f7a4 := goodIn_r _ [12, 13, 14, 15] (by decide +kernel) (by decide +kernel)
set_option maxRecDepth 20000 in
theorem gX1_cheapest_J6_bitCount_0f7a4 : GoodIn wsX1_cheapest (va_wsS RX1 47 yJ6_bitCount_0f7a4 wsJ6_bitCount_0f7a4) := goodIn_app (goodIn_of _ (by decide +kernel)) ggX1_cheapest_J6_bitCount_0f7a4
set_option maxRecDepth 20000 in
theorem ggX1_cheapest_X1_allBroken : GoodIn wsX1_cheapest wsX1_allBroken := goodIn_r _ [19, 1, 20, 21, 22, 23] (by decide +kernel) (by decide +kernel)
set_option maxRecDepth 20000 in
theorem gX1_cheapest_X1_allBroken : GoodIn wsX1_cheapest (wsV RX1 53 RX1 yX1_allBroken wsX1_allBroken) := goodIn_app (goodIn_of _ (by decide +kernel)) ggX1_cheapest_X1_allBroken
theorem dX1_cheapest_0 : decode cX1_cheapest 0 = .ok (.iconst 1, 1) := by decide +kernel
theorem dX1_cheapest_1 : decode cX1_cheapest 1 = .ok (.aload_n 0, 1) := by decide +kernel
theorem dX1_cheapest_2 : decode cX1_cheapest 2 = .ok (.getfield 39, 3) := by decide +kernel
theorem dX1_cheapest_5 : decode cX1_cheapest 5 = .ok (.ishl, 1) := by decide +kernel
theorem dX1_cheapest_6 : decode cX1_cheapest 6 = .ok (.iconst 1, 1) := by decide +kernel
theorem dX1_cheapest_7 : decode cX1_cheapest 7 = .ok (.isub, 1) := by decide +kernel
theorem dX1_cheapest_8 : decode cX1_cheapest 8 = .ok (.istore_n 2, 1) := by decide +kernel
theorem dX1_cheapest_9 : decode cX1_cheapest 9 = .ok (.aload_n 0, 1) := by decide +kernel
theorem dX1_cheapest_10 : decode cX1_cheapest 10 = .ok (.aload_n 1, 1) := by decide +kernel
theorem dX1_cheapest_11 : decode cX1_cheapest 11 = .ok (.iload_n 2, 1) := by decide +kernel
theorem dX1_cheapest_12 : decode cX1_cheapest 12 = .ok (.invokevirtual 43, 3) := by decide +kernel
theorem dX1_cheapest_15 : decode cX1_cheapest 15 = .ok (.istore_n 3, 1) := by decide +kernel
theorem dX1_cheapest_16 : decode cX1_cheapest 16 = .ok (.iconst 0, 1) := by decide +kernel
theorem dX1_cheapest_17 : decode cX1_cheapest 17 = .ok (.istore 4, 2) := by decide +kernel
theorem dX1_cheapest_19 : decode cX1_cheapest 19 = .ok (.iload 4, 2) := by decide +kernel
theorem dX1_cheapest_21 : decode cX1_cheapest 21 = .ok (.iconst 1, 1) := by decide +kernel
theorem dX1_cheapest_22 : decode cX1_cheapest 22 = .ok (.aload_n 0, 1) := by decide +kernel
theorem dX1_cheapest_23 : decode cX1_cheapest 23 = .ok (.getfield 39, 3) := by decide +kernel
theorem dX1_cheapest_26 : decode cX1_cheapest 26 = .ok (.ishl, 1) := by decide +kernel
theorem dX1_cheapest_27 : decode cX1_cheapest 27 = .ok (.if_icmp .ge 81, 3) := by decide +kernel
theorem dX1_cheapest_30 : decode cX1_cheapest 30 = .ok (.aload_n 0, 1) := by decide +kernel
theorem dX1_cheapest_31 : decode cX1_cheapest 31 = .ok (.aload_n 1, 1) := by decide +kernel
theorem dX1_cheapest_32 : decode cX1_cheapest 32 = .ok (.iload 4, 2) := by decide +kernel
theorem dX1_cheapest_34 : decode cX1_cheapest 34 = .ok (.invokevirtual 43, 3) := by decide +kernel
theorem dX1_cheapest_37 : decode cX1_cheapest 37 = .ok (.istore 5, 2) := by decide +kernel
theorem dX1_cheapest_39 : decode cX1_cheapest 39 = .ok (.iload 4, 2) := by decide +kernel
theorem dX1_cheapest_41 : decode cX1_cheapest 41 = .ok (.invokestatic 47, 3) := by decide +kernel
theorem dX1_cheapest_44 : decode cX1_cheapest 44 = .ok (.iload_n 2, 1) := by decide +kernel
theorem dX1_cheapest_45 : decode cX1_cheapest 45 = .ok (.invokestatic 47, 3) := by decide +kernel
theorem dX1_cheapest_48 : decode cX1_cheapest 48 = .ok (.if_icmp .ge 7, 3) := by decide +kernel
theorem dX1_cheapest_51 : decode cX1_cheapest 51 = .ok (.iconst 1, 1) := by decide +kernel
theorem dX1_cheapest_52 : decode cX1_cheapest 52 = .ok (.goto 4, 3) := by decide +kernel
theorem dX1_cheapest_55 : decode cX1_cheapest 55 = .ok (.iconst 0, 1) := by decide +kernel
theorem dX1_cheapest_56 : decode cX1_cheapest 56 = .ok (.istore 6, 2) := by decide +kernel
theorem dX1_cheapest_58 : decode cX1_cheapest 58 = .ok (.iload 5, 2) := by decide +kernel
theorem dX1_cheapest_60 : decode cX1_cheapest 60 = .ok (.iload_n 3, 1) := by decide +kernel
theorem dX1_cheapest_61 : decode cX1_cheapest 61 = .ok (.if_icmp .lt 14, 3) := by decide +kernel
theorem dX1_cheapest_64 : decode cX1_cheapest 64 = .ok (.iload 5, 2) := by decide +kernel
theorem dX1_cheapest_66 : decode cX1_cheapest 66 = .ok (.iload_n 3, 1) := by decide +kernel
theorem dX1_cheapest_67 : decode cX1_cheapest 67 = .ok (.if_icmp .ne 12, 3) := by decide +kernel
theorem dX1_cheapest_70 : decode cX1_cheapest 70 = .ok (.iload 6, 2) := by decide +kernel
theorem dX1_cheapest_72 : decode cX1_cheapest 72 = .ok (.ifCond .eq 7, 3) := by decide +kernel
theorem dX1_cheapest_75 : decode cX1_cheapest 75 = .ok (.iconst 1, 1) := by decide +kernel
theorem dX1_cheapest_76 : decode cX1_cheapest 76 = .ok (.goto 4, 3) := by decide +kernel
theorem dX1_cheapest_79 : decode cX1_cheapest 79 = .ok (.iconst 0, 1) := by decide +kernel
theorem dX1_cheapest_80 : decode cX1_cheapest 80 = .ok (.istore 7, 2) := by decide +kernel
theorem dX1_cheapest_82 : decode cX1_cheapest 82 = .ok (.iload 7, 2) := by decide +kernel
theorem dX1_cheapest_84 : decode cX1_cheapest 84 = .ok (.ifCond .eq 18, 3) := by decide +kernel
theorem dX1_cheapest_87 : decode cX1_cheapest 87 = .ok (.aload_n 0, 1) := by decide +kernel
theorem dX1_cheapest_88 : decode cX1_cheapest 88 = .ok (.iload 4, 2) := by decide +kernel
theorem dX1_cheapest_90 : decode cX1_cheapest 90 = .ok (.invokevirtual 53, 3) := by decide +kernel
theorem dX1_cheapest_93 : decode cX1_cheapest 93 = .ok (.ifCond .eq 9, 3) := by decide +kernel
theorem dX1_cheapest_96 : decode cX1_cheapest 96 = .ok (.iload 4, 2) := by decide +kernel
theorem dX1_cheapest_98 : decode cX1_cheapest 98 = .ok (.istore_n 2, 1) := by decide +kernel
theorem dX1_cheapest_99 : decode cX1_cheapest 99 = .ok (.iload 5, 2) := by decide +kernel
theorem dX1_cheapest_101 : decode cX1_cheapest 101 = .ok (.istore_n 3, 1) := by decide +kernel
theorem dX1_cheapest_102 : decode cX1_cheapest 102 = .ok (.iinc 4 1, 3) := by decide +kernel
theorem dX1_cheapest_105 : decode cX1_cheapest 105 = .ok (.goto (-86), 3) := by decide +kernel
theorem dX1_cheapest_108 : decode cX1_cheapest 108 = .ok (.iload_n 2, 1) := by decide +kernel
theorem dX1_cheapest_109 : decode cX1_cheapest 109 = .ok (.ireturn, 1) := by decide +kernel
theorem dX1_priceOf_0 : decode cX1_priceOf 0 = .ok (.iconst 0, 1) := by decide +kernel
theorem dX1_priceOf_1 : decode cX1_priceOf 1 = .ok (.istore_n 3, 1) := by decide +kernel
theorem dX1_priceOf_2 : decode cX1_priceOf 2 = .ok (.iconst 0, 1) := by decide +kernel
theorem dX1_priceOf_3 : decode cX1_priceOf 3 = .ok (.istore 4, 2) := by decide +kernel
theorem dX1_priceOf_5 : decode cX1_priceOf 5 = .ok (.iload 4, 2) := by decide +kernel
theorem dX1_priceOf_7 : decode cX1_priceOf 7 = .ok (.aload_n 0, 1) := by decide +kernel
theorem dX1_priceOf_8 : decode cX1_priceOf 8 = .ok (.getfield 39, 3) := by decide +kernel
theorem dX1_priceOf_11 : decode cX1_priceOf 11 = .ok (.if_icmp .ge 34, 3) := by decide +kernel
theorem dX1_priceOf_14 : decode cX1_priceOf 14 = .ok (.iload_n 2, 1) := by decide +kernel
theorem dX1_priceOf_15 : decode cX1_priceOf 15 = .ok (.iload 4, 2) := by decide +kernel
theorem dX1_priceOf_17 : decode cX1_priceOf 17 = .ok (.ishr, 1) := by decide +kernel
theorem dX1_priceOf_18 : decode cX1_priceOf 18 = .ok (.iconst 1, 1) := by decide +kernel
theorem dX1_priceOf_19 : decode cX1_priceOf 19 = .ok (.iand, 1) := by decide +kernel
theorem dX1_priceOf_20 : decode cX1_priceOf 20 = .ok (.iconst 1, 1) := by decide +kernel
theorem dX1_priceOf_21 : decode cX1_priceOf 21 = .ok (.if_icmp .ne 18, 3) := by decide +kernel
theorem dX1_priceOf_24 : decode cX1_priceOf 24 = .ok (.iload_n 3, 1) := by decide +kernel
theorem dX1_priceOf_25 : decode cX1_priceOf 25 = .ok (.aload_n 1, 1) := by decide +kernel
theorem dX1_priceOf_26 : decode cX1_priceOf 26 = .ok (.getfield 57, 3) := by decide +kernel
theorem dX1_priceOf_29 : decode cX1_priceOf 29 = .ok (.aload_n 1, 1) := by decide +kernel
theorem dX1_priceOf_30 : decode cX1_priceOf 30 = .ok (.getfield 40, 3) := by decide +kernel
theorem dX1_priceOf_33 : decode cX1_priceOf 33 = .ok (.iload 4, 2) := by decide +kernel
theorem dX1_priceOf_35 : decode cX1_priceOf 35 = .ok (.iaload, 1) := by decide +kernel
theorem dX1_priceOf_36 : decode cX1_priceOf 36 = .ok (.iaload, 1) := by decide +kernel
theorem dX1_priceOf_37 : decode cX1_priceOf 37 = .ok (.iadd, 1) := by decide +kernel
theorem dX1_priceOf_38 : decode cX1_priceOf 38 = .ok (.istore_n 3, 1) := by decide +kernel
theorem dX1_priceOf_39 : decode cX1_priceOf 39 = .ok (.iinc 4 1, 3) := by decide +kernel
theorem dX1_priceOf_42 : decode cX1_priceOf 42 = .ok (.goto (-37), 3) := by decide +kernel
theorem dX1_priceOf_45 : decode cX1_priceOf 45 = .ok (.iload_n 3, 1) := by decide +kernel
theorem dX1_priceOf_46 : decode cX1_priceOf 46 = .ok (.ireturn, 1) := by decide +kernel
theorem dX2_init_0 : decode cX2_init 0 = .ok (.aload_n 0, 1) := by decide +kernel
theorem dX2_init_1 : decode cX2_init 1 = .ok (.invokespecial 3, 3) := by decide +kernel
theorem dX2_init_4 : decode cX2_init 4 = .ok (.aload_n 0, 1) := by decide +kernel
theorem dX2_init_5 : decode cX2_init 5 = .ok (.bipush 24, 2) := by decide +kernel
theorem dX2_init_7 : decode cX2_init 7 = .ok (.newarray .int, 2) := by decide +kernel
theorem dX2_init_9 : decode cX2_init 9 = .ok (.putfield 9, 3) := by decide +kernel
theorem dX2_init_12 : decode cX2_init 12 = .ok (.aload_n 0, 1) := by decide +kernel
theorem dX2_init_13 : decode cX2_init 13 = .ok (.bipush 24, 2) := by decide +kernel
theorem dX2_init_15 : decode cX2_init 15 = .ok (.newarray .int, 2) := by decide +kernel
theorem dX2_init_17 : decode cX2_init 17 = .ok (.putfield 15, 3) := by decide +kernel
theorem dX2_init_20 : decode cX2_init 20 = .ok (.aload_n 0, 1) := by decide +kernel
theorem dX2_init_21 : decode cX2_init 21 = .ok (.bipush 24, 2) := by decide +kernel
theorem dX2_init_23 : decode cX2_init 23 = .ok (.newarray .int, 2) := by decide +kernel
theorem dX2_init_25 : decode cX2_init 25 = .ok (.putfield 18, 3) := by decide +kernel
theorem dX2_init_28 : decode cX2_init 28 = .ok (.aload_n 0, 1) := by decide +kernel
theorem dX2_init_29 : decode cX2_init 29 = .ok (.bipush 24, 2) := by decide +kernel
theorem dX2_init_31 : decode cX2_init 31 = .ok (.newarray .int, 2) := by decide +kernel
theorem dX2_init_33 : decode cX2_init 33 = .ok (.putfield 21, 3) := by decide +kernel
theorem dX2_init_36 : decode cX2_init 36 = .ok (.aload_n 0, 1) := by decide +kernel
theorem dX2_init_37 : decode cX2_init 37 = .ok (.bipush 24, 2) := by decide +kernel
theorem dX2_init_39 : decode cX2_init 39 = .ok (.newarray .int, 2) := by decide +kernel
theorem dX2_init_41 : decode cX2_init 41 = .ok (.putfield 24, 3) := by decide +kernel
theorem dX2_init_44 : decode cX2_init 44 = .ok (.aload_n 0, 1) := by decide +kernel
theorem dX2_init_45 : decode cX2_init 45 = .ok (.bipush 24, 2) := by decide +kernel
theorem dX2_init_47 : decode cX2_init 47 = .ok (.newarray .boolean, 2) := by decide +kernel
theorem dX2_init_49 : decode cX2_init 49 = .ok (.putfield 27, 3) := by decide +kernel
theorem dX2_init_52 : decode cX2_init 52 = .ok (.aload_n 0, 1) := by decide +kernel
theorem dX2_init_53 : decode cX2_init 53 = .ok (.bipush 24, 2) := by decide +kernel
theorem dX2_init_55 : decode cX2_init 55 = .ok (.newarray .boolean, 2) := by decide +kernel
theorem dX2_init_57 : decode cX2_init 57 = .ok (.putfield 31, 3) := by decide +kernel
theorem dX2_init_60 : decode cX2_init 60 = .ok (.aload_n 0, 1) := by decide +kernel
theorem dX2_init_61 : decode cX2_init 61 = .ok (.bipush 24, 2) := by decide +kernel
theorem dX2_init_63 : decode cX2_init 63 = .ok (.newarray .boolean, 2) := by decide +kernel
theorem dX2_init_65 : decode cX2_init 65 = .ok (.putfield 34, 3) := by decide +kernel
theorem dX2_init_68 : decode cX2_init 68 = .ok (.aload_n 0, 1) := by decide +kernel
theorem dX2_init_69 : decode cX2_init 69 = .ok (.bipush 24, 2) := by decide +kernel
theorem dX2_init_71 : decode cX2_init 71 = .ok (.newarray .int, 2) := by decide +kernel
theorem dX2_init_73 : decode cX2_init 73 = .ok (.putfield 37, 3) := by decide +kernel
theorem dX2_init_76 : decode cX2_init 76 = .ok (.aload_n 0, 1) := by decide +kernel
theorem dX2_init_77 : decode cX2_init 77 = .ok (.bipush 24, 2) := by decide +kernel
theorem dX2_init_79 : decode cX2_init 79 = .ok (.newarray .int, 2) := by decide +kernel
theorem dX2_init_81 : decode cX2_init 81 = .ok (.putfield 40, 3) := by decide +kernel
theorem dX2_init_84 : decode cX2_init 84 = .ok (.return_, 1) := by decide +kernel
theorem dX2_isNode_0 : decode cX2_isNode 0 = .ok (.iload_n 1, 1) := by decide +kernel
theorem dX2_isNode_1 : decode cX2_isNode 1 = .ok (.ifCond .lt 15, 3) := by decide +kernel
theorem dX2_isNode_4 : decode cX2_isNode 4 = .ok (.iload_n 1, 1) := by decide +kernel
theorem dX2_isNode_5 : decode cX2_isNode 5 = .ok (.aload_n 0, 1) := by decide +kernel
theorem dX2_isNode_6 : decode cX2_isNode 6 = .ok (.getfield 43, 3) := by decide +kernel
theorem dX2_isNode_9 : decode cX2_isNode 9 = .ok (.if_icmp .ge 7, 3) := by decide +kernel
theorem dX2_isNode_12 : decode cX2_isNode 12 = .ok (.iconst 1, 1) := by decide +kernel
theorem dX2_isNode_13 : decode cX2_isNode 13 = .ok (.goto 4, 3) := by decide +kernel
theorem dX2_isNode_16 : decode cX2_isNode 16 = .ok (.iconst 0, 1) := by decide +kernel
theorem dX2_isNode_17 : decode cX2_isNode 17 = .ok (.ireturn, 1) := by decide +kernel
set_option maxRecDepth 20000 in
theorem ggX2_isStore_X2_isNode : GoodIn wsX2_isStore wsX2_isNode := goodIn_r _ [6, 7, 8, 9, 10, 11, 12, 13, 14, 15, 16, 17, 18, 19, 20] (by decide +kernel) (by decide +kernel)
set_option maxRecDepth 20000 in
theorem gX2_isStore_X2_isNode : GoodIn wsX2_isStore (wsV RX2 47 RX2 yX2_isNode wsX2_isNode) := goodIn_app (goodIn_of _ (by decide +kernel)) ggX2_isStore_X2_isNode
theorem dX2_isStore_0 : decode cX2_isStore 0 = .ok (.aload_n 0, 1) := by decide +kernel
theorem dX2_isStore_1 : decode cX2_isStore 1 = .ok (.iload_n 1, 1) := by decide +kernel
theorem dX2_isStore_2 : decode cX2_isStore 2 = .ok (.invokevirtual 47, 3) := by decide +kernel
theorem dX2_isStore_5 : decode cX2_isStore 5 = .ok (.ifCond .eq 17, 3) := by decide +kernel
theorem dX2_isStore_8 : decode cX2_isStore 8 = .ok (.aload_n 0, 1) := by decide +kernel
theorem dX2_isStore_9 : decode cX2_isStore 9 = .ok (.getfield 9, 3) := by decide +kernel
theorem dX2_isStore_12 : decode cX2_isStore 12 = .ok (.iload_n 1, 1) := by decide +kernel
theorem dX2_isStore_13 : decode cX2_isStore 13 = .ok (.iaload, 1) := by decide +kernel
theorem dX2_isStore_14 : decode cX2_isStore 14 = .ok (.iconst 5, 1) := by decide +kernel
theorem dX2_isStore_15 : decode cX2_isStore 15 = .ok (.if_icmp .ne 7, 3) := by decide +kernel
theorem dX2_isStore_18 : decode cX2_isStore 18 = .ok (.iconst 1, 1) := by decide +kernel
theorem dX2_isStore_19 : decode cX2_isStore 19 = .ok (.goto 4, 3) := by decide +kernel
theorem dX2_isStore_22 : decode cX2_isStore 22 = .ok (.iconst 0, 1) := by decide +kernel
theorem dX2_isStore_23 : decode cX2_isStore 23 = .ok (.ireturn, 1) := by decide +kernel
theorem dX2_isStoreNumber_0 : decode cX2_isStoreNumber 0 = .ok (.iload_n 1, 1) := by decide +kernel
theorem dX2_isStoreNumber_1 : decode cX2_isStoreNumber 1 = .ok (.ifCond .lt 15, 3) := by decide +kernel
theorem dX2_isStoreNumber_4 : decode cX2_isStoreNumber 4 = .ok (.iload_n 1, 1) := by decide +kernel
theorem dX2_isStoreNumber_5 : decode cX2_isStoreNumber 5 = .ok (.aload_n 0, 1) := by decide +kernel
theorem dX2_isStoreNumber_6 : decode cX2_isStoreNumber 6 = .ok (.getfield 51, 3) := by decide +kernel
theorem dX2_isStoreNumber_9 : decode cX2_isStoreNumber 9 = .ok (.if_icmp .ge 7, 3) := by decide +kernel
theorem dX2_isStoreNumber_12 : decode cX2_isStoreNumber 12 = .ok (.iconst 1, 1) := by decide +kernel
theorem dX2_isStoreNumber_13 : decode cX2_isStoreNumber 13 = .ok (.goto 4, 3) := by decide +kernel
theorem dX2_isStoreNumber_16 : decode cX2_isStoreNumber 16 = .ok (.iconst 0, 1) := by decide +kernel
theorem dX2_isStoreNumber_17 : decode cX2_isStoreNumber 17 = .ok (.ireturn, 1) := by decide +kernel
set_option maxRecDepth 20000 in
theorem ggX2_isCopy_X2_isNode : GoodIn wsX2_isCopy wsX2_isNode := goodIn_r _ [5, 6, 12, 13, 14, 15, 16, 17, 18, 19, 20, 21, 22, 23, 24] (by decide +kernel) (by decide +kernel)
set_option maxRecDepth 20000 in
theorem gX2_isCopy_X2_isNode : GoodIn wsX2_isCopy (wsV RX2 47 RX2 yX2_isNode wsX2_isNode) := goodIn_app (goodIn_of _ (by decide +kernel)) ggX2_isCopy_X2_isNode
set_option maxRecDepth 20000 in
theorem ggX2_isCopy_X2_copies : GoodIn wsX2_isCopy wsX2_copies := goodIn_r _ [10, 11, 12, 13, 14, 15, 16, 17, 18, 19, 20, 21, 22, 23, 24] (by decide +kernel) (by decide +kernel)
set_option maxRecDepth 20000 in
theorem gX2_isCopy_X2_copies : GoodIn wsX2_isCopy (wsV RX2 54 RX2 yX2_copies wsX2_copies) := goodIn_app (goodIn_of _ (by decide +kernel)) ggX2_isCopy_X2_copies
theorem dX2_isCopy_0 : decode cX2_isCopy 0 = .ok (.aload_n 0, 1) := by decide +kernel
theorem dX2_isCopy_1 : decode cX2_isCopy 1 = .ok (.iload_n 1, 1) := by decide +kernel
theorem dX2_isCopy_2 : decode cX2_isCopy 2 = .ok (.invokevirtual 47, 3) := by decide +kernel
theorem dX2_isCopy_5 : decode cX2_isCopy 5 = .ok (.ifCond .eq 20, 3) := by decide +kernel
theorem dX2_isCopy_8 : decode cX2_isCopy 8 = .ok (.iload_n 2, 1) := by decide +kernel
theorem dX2_isCopy_9 : decode cX2_isCopy 9 = .ok (.ifCond .lt 16, 3) := by decide +kernel
theorem dX2_isCopy_12 : decode cX2_isCopy 12 = .ok (.iload_n 2, 1) := by decide +kernel
theorem dX2_isCopy_13 : decode cX2_isCopy 13 = .ok (.aload_n 0, 1) := by decide +kernel
theorem dX2_isCopy_14 : decode cX2_isCopy 14 = .ok (.iload_n 1, 1) := by decide +kernel
theorem dX2_isCopy_15 : decode cX2_isCopy 15 = .ok (.invokevirtual 54, 3) := by decide +kernel
theorem dX2_isCopy_18 : decode cX2_isCopy 18 = .ok (.if_icmp .ge 7, 3) := by decide +kernel
theorem dX2_isCopy_21 : decode cX2_isCopy 21 = .ok (.iconst 1, 1) := by decide +kernel
theorem dX2_isCopy_22 : decode cX2_isCopy 22 = .ok (.goto 4, 3) := by decide +kernel
theorem dX2_isCopy_25 : decode cX2_isCopy 25 = .ok (.iconst 0, 1) := by decide +kernel
theorem dX2_isCopy_26 : decode cX2_isCopy 26 = .ok (.ireturn, 1) := by decide +kernel
theorem dX2_copies_0 : decode cX2_copies 0 = .ok (.aload_n 0, 1) := by decide +kernel
theorem dX2_copies_1 : decode cX2_copies 1 = .ok (.getfield 31, 3) := by decide +kernel
theorem dX2_copies_4 : decode cX2_copies 4 = .ok (.iload_n 1, 1) := by decide +kernel
theorem dX2_copies_5 : decode cX2_copies 5 = .ok (.baload, 1) := by decide +kernel
theorem dX2_copies_6 : decode cX2_copies 6 = .ok (.ifCond .eq 7, 3) := by decide +kernel
theorem dX2_copies_9 : decode cX2_copies 9 = .ok (.iconst 3, 1) := by decide +kernel
theorem dX2_copies_10 : decode cX2_copies 10 = .ok (.goto 4, 3) := by decide +kernel
theorem dX2_copies_13 : decode cX2_copies 13 = .ok (.iconst 1, 1) := by decide +kernel
theorem dX2_copies_14 : decode cX2_copies 14 = .ok (.ireturn, 1) := by decide +kernel
set_option maxRecDepth 20000 in
theorem ggX2_fits_X2_isNode : GoodIn wsX2_fits wsX2_isNode := goodIn_r _ [5, 6, 7, 8, 9, 10, 11, 12, 13, 14, 15, 16, 17, 18, 19] (by decide +kernel) (by decide +kernel)
set_option maxRecDepth 20000 in
theorem gX2_fits_X2_isNode : GoodIn wsX2_fits (wsV RX2 47 RX2 yX2_isNode wsX2_isNode) := goodIn_app (goodIn_of _ (by decide +kernel)) ggX2_fits_X2_isNode
theorem dX2_fits_0 : decode cX2_fits 0 = .ok (.iload_n 1, 1) := by decide +kernel
theorem dX2_fits_1 : decode cX2_fits 1 = .ok (.ifCond .lt 9, 3) := by decide +kernel
theorem dX2_fits_4 : decode cX2_fits 4 = .ok (.iload_n 1, 1) := by decide +kernel
theorem dX2_fits_5 : decode cX2_fits 5 = .ok (.bipush 6, 2) := by decide +kernel
theorem dX2_fits_7 : decode cX2_fits 7 = .ok (.if_icmp .lt 5, 3) := by decide +kernel
theorem dX2_fits_10 : decode cX2_fits 10 = .ok (.iconst 0, 1) := by decide +kernel
theorem dX2_fits_11 : decode cX2_fits 11 = .ok (.ireturn, 1) := by decide +kernel
theorem dX2_fits_12 : decode cX2_fits 12 = .ok (.iload_n 1, 1) := by decide +kernel
theorem dX2_fits_13 : decode cX2_fits 13 = .ok (.ifCond .eq 8, 3) := by decide +kernel
theorem dX2_fits_16 : decode cX2_fits 16 = .ok (.iload_n 1, 1) := by decide +kernel
theorem dX2_fits_17 : decode cX2_fits 17 = .ok (.iconst 5, 1) := by decide +kernel
theorem dX2_fits_18 : decode cX2_fits 18 = .ok (.if_icmp .ne 19, 3) := by decide +kernel
theorem dX2_fits_21 : decode cX2_fits 21 = .ok (.iload_n 2, 1) := by decide +kernel
theorem dX2_fits_22 : decode cX2_fits 22 = .ok (.iconst (-1), 1) := by decide +kernel
theorem dX2_fits_23 : decode cX2_fits 23 = .ok (.if_icmp .ne 12, 3) := by decide +kernel
theorem dX2_fits_26 : decode cX2_fits 26 = .ok (.iload_n 3, 1) := by decide +kernel
theorem dX2_fits_27 : decode cX2_fits 27 = .ok (.iconst (-1), 1) := by decide +kernel
theorem dX2_fits_28 : decode cX2_fits 28 = .ok (.if_icmp .ne 7, 3) := by decide +kernel
theorem dX2_fits_31 : decode cX2_fits 31 = .ok (.iconst 1, 1) := by decide +kernel
theorem dX2_fits_32 : decode cX2_fits 32 = .ok (.goto 4, 3) := by decide +kernel
theorem dX2_fits_35 : decode cX2_fits 35 = .ok (.iconst 0, 1) := by decide +kernel
theorem dX2_fits_36 : decode cX2_fits 36 = .ok (.ireturn, 1) := by decide +kernel
theorem dX2_fits_37 : decode cX2_fits 37 = .ok (.aload_n 0, 1) := by decide +kernel
theorem dX2_fits_38 : decode cX2_fits 38 = .ok (.iload_n 2, 1) := by decide +kernel
theorem dX2_fits_39 : decode cX2_fits 39 = .ok (.invokevirtual 47, 3) := by decide +kernel
theorem dX2_fits_42 : decode cX2_fits 42 = .ok (.ifCond .eq 28, 3) := by decide +kernel
theorem dX2_fits_45 : decode cX2_fits 45 = .ok (.iload_n 1, 1) := by decide +kernel
theorem dX2_fits_46 : decode cX2_fits 46 = .ok (.iconst 1, 1) := by decide +kernel
theorem dX2_fits_47 : decode cX2_fits 47 = .ok (.if_icmp .ne 11, 3) := by decide +kernel
theorem dX2_fits_50 : decode cX2_fits 50 = .ok (.iload_n 3, 1) := by decide +kernel
theorem dX2_fits_51 : decode cX2_fits 51 = .ok (.iconst (-1), 1) := by decide +kernel
theorem dX2_fits_52 : decode cX2_fits 52 = .ok (.if_icmp .ne 18, 3) := by decide +kernel
theorem dX2_fits_55 : decode cX2_fits 55 = .ok (.goto 11, 3) := by decide +kernel
theorem dX2_fits_58 : decode cX2_fits 58 = .ok (.aload_n 0, 1) := by decide +kernel
theorem dX2_fits_59 : decode cX2_fits 59 = .ok (.iload_n 3, 1) := by decide +kernel
theorem dX2_fits_60 : decode cX2_fits 60 = .ok (.invokevirtual 47, 3) := by decide +kernel
theorem dX2_fits_63 : decode cX2_fits 63 = .ok (.ifCond .eq 7, 3) := by decide +kernel
theorem dX2_fits_66 : decode cX2_fits 66 = .ok (.iconst 1, 1) := by decide +kernel
theorem dX2_fits_67 : decode cX2_fits 67 = .ok (.goto 4, 3) := by decide +kernel
theorem dX2_fits_70 : decode cX2_fits 70 = .ok (.iconst 0, 1) := by decide +kernel
theorem dX2_fits_71 : decode cX2_fits 71 = .ok (.ireturn, 1) := by decide +kernel
theorem dX2_append_0 : decode cX2_append 0 = .ok (.aload_n 0, 1) := by decide +kernel
theorem dX2_append_1 : decode cX2_append 1 = .ok (.dup, 1) := by decide +kernel
theorem dX2_append_2 : decode cX2_append 2 = .ok (.getfield 43, 3) := by decide +kernel
theorem dX2_append_5 : decode cX2_append 5 = .ok (.dup_x1, 1) := by decide +kernel
theorem dX2_append_6 : decode cX2_append 6 = .ok (.iconst 1, 1) := by decide +kernel
theorem dX2_append_7 : decode cX2_append 7 = .ok (.iadd, 1) := by decide +kernel
theorem dX2_append_8 : decode cX2_append 8 = .ok (.putfield 43, 3) := by decide +kernel
theorem dX2_append_11 : decode cX2_append 11 = .ok (.istore 4, 2) := by decide +kernel
theorem dX2_append_13 : decode cX2_append 13 = .ok (.aload_n 0, 1) := by decide +kernel
theorem dX2_append_14 : decode cX2_append 14 = .ok (.getfield 9, 3) := by decide +kernel
theorem dX2_append_17 : decode cX2_append 17 = .ok (.iload 4, 2) := by decide +kernel
theorem dX2_append_19 : decode cX2_append 19 = .ok (.iload_n 1, 1) := by decide +kernel
theorem dX2_append_20 : decode cX2_append 20 = .ok (.iastore, 1) := by decide +kernel
theorem dX2_append_21 : decode cX2_append 21 = .ok (.aload_n 0, 1) := by decide +kernel
theorem dX2_append_22 : decode cX2_append 22 = .ok (.getfield 15, 3) := by decide +kernel
theorem dX2_append_25 : decode cX2_append 25 = .ok (.iload 4, 2) := by decide +kernel
theorem dX2_append_27 : decode cX2_append 27 = .ok (.iload_n 1, 1) := by decide +kernel
theorem dX2_append_28 : decode cX2_append 28 = .ok (.iconst 5, 1) := by decide +kernel
theorem dX2_append_29 : decode cX2_append 29 = .ok (.if_icmp .ne 8, 3) := by decide +kernel
theorem dX2_append_32 : decode cX2_append 32 = .ok (.iload 4, 2) := by decide +kernel
theorem dX2_append_34 : decode cX2_append 34 = .ok (.goto 4, 3) := by decide +kernel
theorem dX2_append_37 : decode cX2_append 37 = .ok (.iload_n 2, 1) := by decide +kernel
theorem dX2_append_38 : decode cX2_append 38 = .ok (.iastore, 1) := by decide +kernel
theorem dX2_append_39 : decode cX2_append 39 = .ok (.aload_n 0, 1) := by decide +kernel
theorem dX2_append_40 : decode cX2_append 40 = .ok (.getfield 18, 3) := by decide +kernel
theorem dX2_append_43 : decode cX2_append 43 = .ok (.iload 4, 2) := by decide +kernel
theorem dX2_append_45 : decode cX2_append 45 = .ok (.iload_n 3, 1) := by decide +kernel
theorem dX2_append_46 : decode cX2_append 46 = .ok (.iastore, 1) := by decide +kernel
theorem dX2_append_47 : decode cX2_append 47 = .ok (.aload_n 0, 1) := by decide +kernel
theorem dX2_append_48 : decode cX2_append 48 = .ok (.getfield 24, 3) := by decide +kernel
theorem dX2_append_51 : decode cX2_append 51 = .ok (.iload 4, 2) := by decide +kernel
theorem dX2_append_53 : decode cX2_append 53 = .ok (.iconst 1, 1) := by decide +kernel
theorem dX2_append_54 : decode cX2_append 54 = .ok (.iastore, 1) := by decide +kernel
theorem dX2_append_55 : decode cX2_append 55 = .ok (.aload_n 0, 1) := by decide +kernel
theorem dX2_append_56 : decode cX2_append 56 = .ok (.getfield 21, 3) := by decide +kernel
theorem dX2_append_59 : decode cX2_append 59 = .ok (.iload 4, 2) := by decide +kernel
theorem dX2_append_61 : decode cX2_append 61 = .ok (.iconst (-1), 1) := by decide +kernel
theorem dX2_append_62 : decode cX2_append 62 = .ok (.iastore, 1) := by decide +kernel
theorem dX2_append_63 : decode cX2_append 63 = .ok (.iload_n 1, 1) := by decide +kernel
theorem dX2_append_64 : decode cX2_append 64 = .ok (.ifCond .ne 24, 3) := by decide +kernel
theorem dX2_append_67 : decode cX2_append 67 = .ok (.aload_n 0, 1) := by decide +kernel
theorem dX2_append_68 : decode cX2_append 68 = .ok (.getfield 21, 3) := by decide +kernel
theorem dX2_append_71 : decode cX2_append 71 = .ok (.iload 4, 2) := by decide +kernel
theorem dX2_append_73 : decode cX2_append 73 = .ok (.aload_n 0, 1) := by decide +kernel
theorem dX2_append_74 : decode cX2_append 74 = .ok (.dup, 1) := by decide +kernel
theorem dX2_append_75 : decode cX2_append 75 = .ok (.getfield 58, 3) := by decide +kernel
theorem dX2_append_78 : decode cX2_append 78 = .ok (.dup_x1, 1) := by decide +kernel
theorem dX2_append_79 : decode cX2_append 79 = .ok (.iconst 1, 1) := by decide +kernel
theorem dX2_append_80 : decode cX2_append 80 = .ok (.iadd, 1) := by decide +kernel
theorem dX2_append_81 : decode cX2_append 81 = .ok (.putfield 58, 3) := by decide +kernel
theorem dX2_append_84 : decode cX2_append 84 = .ok (.iastore, 1) := by decide +kernel
theorem dX2_append_85 : decode cX2_append 85 = .ok (.goto 37, 3) := by decide +kernel
theorem dX2_append_88 : decode cX2_append 88 = .ok (.iload_n 1, 1) := by decide +kernel
theorem dX2_append_89 : decode cX2_append 89 = .ok (.iconst 5, 1) := by decide +kernel
theorem dX2_append_90 : decode cX2_append 90 = .ok (.if_icmp .ne 32, 3) := by decide +kernel
theorem dX2_append_93 : decode cX2_append 93 = .ok (.aload_n 0, 1) := by decide +kernel
theorem dX2_append_94 : decode cX2_append 94 = .ok (.getfield 37, 3) := by decide +kernel
theorem dX2_append_97 : decode cX2_append 97 = .ok (.aload_n 0, 1) := by decide +kernel
theorem dX2_append_98 : decode cX2_append 98 = .ok (.getfield 51, 3) := by decide +kernel
theorem dX2_append_101 : decode cX2_append 101 = .ok (.iload 4, 2) := by decide +kernel
theorem dX2_append_103 : decode cX2_append 103 = .ok (.iastore, 1) := by decide +kernel
theorem dX2_append_104 : decode cX2_append 104 = .ok (.aload_n 0, 1) := by decide +kernel
theorem dX2_append_105 : decode cX2_append 105 = .ok (.getfield 21, 3) := by decide +kernel
theorem dX2_append_108 : decode cX2_append 108 = .ok (.iload 4, 2) := by decide +kernel
theorem dX2_append_110 : decode cX2_append 110 = .ok (.aload_n 0, 1) := by decide +kernel
theorem dX2_append_111 : decode cX2_append 111 = .ok (.dup, 1) := by decide +kernel
theorem dX2_append_112 : decode cX2_append 112 = .ok (.getfield 51, 3) := by decide +kernel
theorem dX2_append_115 : decode cX2_append 115 = .ok (.dup_x1, 1) := by decide +kernel
theorem dX2_append_116 : decode cX2_append 116 = .ok (.iconst 1, 1) := by decide +kernel
theorem dX2_append_117 : decode cX2_append 117 = .ok (.iadd, 1) := by decide +kernel
theorem dX2_append_118 : decode cX2_append 118 = .ok (.putfield 51, 3) := by decide +kernel
theorem dX2_append_121 : decode cX2_append 121 = .ok (.iastore, 1) := by decide +kernel
theorem dX2_append_122 : decode cX2_append 122 = .ok (.iload 4, 2) := by decide +kernel
theorem dX2_append_124 : decode cX2_append 124 = .ok (.ireturn, 1) := by decide +kernel
theorem dX2_fact_0 : decode cX2_fact 0 = .ok (.iload_n 2, 1) := by decide +kernel
theorem dX2_fact_1 : decode cX2_fact 1 = .ok (.tableswitch 127 0 7 #[47, 54, 61, 68, 83, 98, 113, 120], 47) := by decide +kernel
theorem dX2_fact_48 : decode cX2_fact 48 = .ok (.aload_n 0, 1) := by decide +kernel
theorem dX2_fact_49 : decode cX2_fact 49 = .ok (.getfield 9, 3) := by decide +kernel
theorem dX2_fact_52 : decode cX2_fact 52 = .ok (.iload_n 1, 1) := by decide +kernel
theorem dX2_fact_53 : decode cX2_fact 53 = .ok (.iaload, 1) := by decide +kernel
theorem dX2_fact_54 : decode cX2_fact 54 = .ok (.ireturn, 1) := by decide +kernel
theorem dX2_fact_55 : decode cX2_fact 55 = .ok (.aload_n 0, 1) := by decide +kernel
theorem dX2_fact_56 : decode cX2_fact 56 = .ok (.getfield 15, 3) := by decide +kernel
theorem dX2_fact_59 : decode cX2_fact 59 = .ok (.iload_n 1, 1) := by decide +kernel
theorem dX2_fact_60 : decode cX2_fact 60 = .ok (.iaload, 1) := by decide +kernel
theorem dX2_fact_61 : decode cX2_fact 61 = .ok (.ireturn, 1) := by decide +kernel
theorem dX2_fact_62 : decode cX2_fact 62 = .ok (.aload_n 0, 1) := by decide +kernel
theorem dX2_fact_63 : decode cX2_fact 63 = .ok (.getfield 18, 3) := by decide +kernel
theorem dX2_fact_66 : decode cX2_fact 66 = .ok (.iload_n 1, 1) := by decide +kernel
theorem dX2_fact_67 : decode cX2_fact 67 = .ok (.iaload, 1) := by decide +kernel
theorem dX2_fact_68 : decode cX2_fact 68 = .ok (.ireturn, 1) := by decide +kernel
theorem dX2_fact_69 : decode cX2_fact 69 = .ok (.aload_n 0, 1) := by decide +kernel
theorem dX2_fact_70 : decode cX2_fact 70 = .ok (.getfield 27, 3) := by decide +kernel
theorem dX2_fact_73 : decode cX2_fact 73 = .ok (.iload_n 1, 1) := by decide +kernel
theorem dX2_fact_74 : decode cX2_fact 74 = .ok (.baload, 1) := by decide +kernel
theorem dX2_fact_75 : decode cX2_fact 75 = .ok (.ifCond .eq 7, 3) := by decide +kernel
theorem dX2_fact_78 : decode cX2_fact 78 = .ok (.iconst 1, 1) := by decide +kernel
theorem dX2_fact_79 : decode cX2_fact 79 = .ok (.goto 4, 3) := by decide +kernel
theorem dX2_fact_82 : decode cX2_fact 82 = .ok (.iconst 0, 1) := by decide +kernel
theorem dX2_fact_83 : decode cX2_fact 83 = .ok (.ireturn, 1) := by decide +kernel
theorem dX2_fact_84 : decode cX2_fact 84 = .ok (.aload_n 0, 1) := by decide +kernel
theorem dX2_fact_85 : decode cX2_fact 85 = .ok (.getfield 31, 3) := by decide +kernel
theorem dX2_fact_88 : decode cX2_fact 88 = .ok (.iload_n 1, 1) := by decide +kernel
theorem dX2_fact_89 : decode cX2_fact 89 = .ok (.baload, 1) := by decide +kernel
theorem dX2_fact_90 : decode cX2_fact 90 = .ok (.ifCond .eq 7, 3) := by decide +kernel
theorem dX2_fact_93 : decode cX2_fact 93 = .ok (.iconst 1, 1) := by decide +kernel
theorem dX2_fact_94 : decode cX2_fact 94 = .ok (.goto 4, 3) := by decide +kernel
theorem dX2_fact_97 : decode cX2_fact 97 = .ok (.iconst 0, 1) := by decide +kernel
theorem dX2_fact_98 : decode cX2_fact 98 = .ok (.ireturn, 1) := by decide +kernel
theorem dX2_fact_99 : decode cX2_fact 99 = .ok (.aload_n 0, 1) := by decide +kernel
theorem dX2_fact_100 : decode cX2_fact 100 = .ok (.getfield 34, 3) := by decide +kernel
theorem dX2_fact_103 : decode cX2_fact 103 = .ok (.iload_n 1, 1) := by decide +kernel
theorem dX2_fact_104 : decode cX2_fact 104 = .ok (.baload, 1) := by decide +kernel
theorem dX2_fact_105 : decode cX2_fact 105 = .ok (.ifCond .eq 7, 3) := by decide +kernel
theorem dX2_fact_108 : decode cX2_fact 108 = .ok (.iconst 1, 1) := by decide +kernel
theorem dX2_fact_109 : decode cX2_fact 109 = .ok (.goto 4, 3) := by decide +kernel
theorem dX2_fact_112 : decode cX2_fact 112 = .ok (.iconst 0, 1) := by decide +kernel
theorem dX2_fact_113 : decode cX2_fact 113 = .ok (.ireturn, 1) := by decide +kernel
theorem dX2_fact_114 : decode cX2_fact 114 = .ok (.aload_n 0, 1) := by decide +kernel
theorem dX2_fact_115 : decode cX2_fact 115 = .ok (.getfield 24, 3) := by decide +kernel
theorem dX2_fact_118 : decode cX2_fact 118 = .ok (.iload_n 1, 1) := by decide +kernel
theorem dX2_fact_119 : decode cX2_fact 119 = .ok (.iaload, 1) := by decide +kernel
theorem dX2_fact_120 : decode cX2_fact 120 = .ok (.ireturn, 1) := by decide +kernel
theorem dX2_fact_121 : decode cX2_fact 121 = .ok (.aload_n 0, 1) := by decide +kernel
theorem dX2_fact_122 : decode cX2_fact 122 = .ok (.getfield 21, 3) := by decide +kernel
theorem dX2_fact_125 : decode cX2_fact 125 = .ok (.iload_n 1, 1) := by decide +kernel
theorem dX2_fact_126 : decode cX2_fact 126 = .ok (.iaload, 1) := by decide +kernel
theorem dX2_fact_127 : decode cX2_fact 127 = .ok (.ireturn, 1) := by decide +kernel
theorem dX2_fact_128 : decode cX2_fact 128 = .ok (.bipush (-2), 2) := by decide +kernel
theorem dX2_fact_130 : decode cX2_fact 130 = .ok (.ireturn, 1) := by decide +kernel
theorem dX2_slowness_0 : decode cX2_slowness 0 = .ok (.iconst 0, 1) := by decide +kernel
theorem dX2_slowness_1 : decode cX2_slowness 1 = .ok (.istore_n 1, 1) := by decide +kernel
theorem dX2_slowness_2 : decode cX2_slowness 2 = .ok (.iconst 0, 1) := by decide +kernel
theorem dX2_slowness_3 : decode cX2_slowness 3 = .ok (.istore_n 2, 1) := by decide +kernel
theorem dX2_slowness_4 : decode cX2_slowness 4 = .ok (.iload_n 2, 1) := by decide +kernel
theorem dX2_slowness_5 : decode cX2_slowness 5 = .ok (.aload_n 0, 1) := by decide +kernel
theorem dX2_slowness_6 : decode cX2_slowness 6 = .ok (.getfield 43, 3) := by decide +kernel
theorem dX2_slowness_9 : decode cX2_slowness 9 = .ok (.if_icmp .ge 104, 3) := by decide +kernel
theorem dX2_slowness_12 : decode cX2_slowness 12 = .ok (.aload_n 0, 1) := by decide +kernel
theorem dX2_slowness_13 : decode cX2_slowness 13 = .ok (.getfield 40, 3) := by decide +kernel
theorem dX2_slowness_16 : decode cX2_slowness 16 = .ok (.iload_n 2, 1) := by decide +kernel
theorem dX2_slowness_17 : decode cX2_slowness 17 = .ok (.iconst 0, 1) := by decide +kernel
theorem dX2_slowness_18 : decode cX2_slowness 18 = .ok (.iastore, 1) := by decide +kernel
theorem dX2_slowness_19 : decode cX2_slowness 19 = .ok (.aload_n 0, 1) := by decide +kernel
theorem dX2_slowness_20 : decode cX2_slowness 20 = .ok (.getfield 9, 3) := by decide +kernel
theorem dX2_slowness_23 : decode cX2_slowness 23 = .ok (.iload_n 2, 1) := by decide +kernel
theorem dX2_slowness_24 : decode cX2_slowness 24 = .ok (.iaload, 1) := by decide +kernel
theorem dX2_slowness_25 : decode cX2_slowness 25 = .ok (.ifCond .eq 62, 3) := by decide +kernel
theorem dX2_slowness_28 : decode cX2_slowness 28 = .ok (.aload_n 0, 1) := by decide +kernel
theorem dX2_slowness_29 : decode cX2_slowness 29 = .ok (.getfield 9, 3) := by decide +kernel
theorem dX2_slowness_32 : decode cX2_slowness 32 = .ok (.iload_n 2, 1) := by decide +kernel
theorem dX2_slowness_33 : decode cX2_slowness 33 = .ok (.iaload, 1) := by decide +kernel
theorem dX2_slowness_34 : decode cX2_slowness 34 = .ok (.iconst 5, 1) := by decide +kernel
theorem dX2_slowness_35 : decode cX2_slowness 35 = .ok (.if_icmp .eq 52, 3) := by decide +kernel
theorem dX2_slowness_38 : decode cX2_slowness 38 = .ok (.aload_n 0, 1) := by decide +kernel
theorem dX2_slowness_39 : decode cX2_slowness 39 = .ok (.getfield 18, 3) := by decide +kernel
theorem dX2_slowness_42 : decode cX2_slowness 42 = .ok (.iload_n 2, 1) := by decide +kernel
theorem dX2_slowness_43 : decode cX2_slowness 43 = .ok (.iaload, 1) := by decide +kernel
theorem dX2_slowness_44 : decode cX2_slowness 44 = .ok (.iconst (-1), 1) := by decide +kernel
theorem dX2_slowness_45 : decode cX2_slowness 45 = .ok (.if_icmp .ne 7, 3) := by decide +kernel
theorem dX2_slowness_48 : decode cX2_slowness 48 = .ok (.iconst 0, 1) := by decide +kernel
theorem dX2_slowness_49 : decode cX2_slowness 49 = .ok (.goto 14, 3) := by decide +kernel
theorem dX2_slowness_52 : decode cX2_slowness 52 = .ok (.aload_n 0, 1) := by decide +kernel
theorem dX2_slowness_53 : decode cX2_slowness 53 = .ok (.getfield 40, 3) := by decide +kernel
theorem dX2_slowness_56 : decode cX2_slowness 56 = .ok (.aload_n 0, 1) := by decide +kernel
theorem dX2_slowness_57 : decode cX2_slowness 57 = .ok (.getfield 18, 3) := by decide +kernel
theorem dX2_slowness_60 : decode cX2_slowness 60 = .ok (.iload_n 2, 1) := by decide +kernel
theorem dX2_slowness_61 : decode cX2_slowness 61 = .ok (.iaload, 1) := by decide +kernel
theorem dX2_slowness_62 : decode cX2_slowness 62 = .ok (.iaload, 1) := by decide +kernel
theorem dX2_slowness_63 : decode cX2_slowness 63 = .ok (.istore_n 3, 1) := by decide +kernel
theorem dX2_slowness_64 : decode cX2_slowness 64 = .ok (.aload_n 0, 1) := by decide +kernel
theorem dX2_slowness_65 : decode cX2_slowness 65 = .ok (.getfield 40, 3) := by decide +kernel
theorem dX2_slowness_68 : decode cX2_slowness 68 = .ok (.iload_n 2, 1) := by decide +kernel
theorem dX2_slowness_69 : decode cX2_slowness 69 = .ok (.iconst 1, 1) := by decide +kernel
theorem dX2_slowness_70 : decode cX2_slowness 70 = .ok (.aload_n 0, 1) := by decide +kernel
theorem dX2_slowness_71 : decode cX2_slowness 71 = .ok (.getfield 40, 3) := by decide +kernel
theorem dX2_slowness_74 : decode cX2_slowness 74 = .ok (.aload_n 0, 1) := by decide +kernel
theorem dX2_slowness_75 : decode cX2_slowness 75 = .ok (.getfield 15, 3) := by decide +kernel
theorem dX2_slowness_78 : decode cX2_slowness 78 = .ok (.iload_n 2, 1) := by decide +kernel
theorem dX2_slowness_79 : decode cX2_slowness 79 = .ok (.iaload, 1) := by decide +kernel
theorem dX2_slowness_80 : decode cX2_slowness 80 = .ok (.iaload, 1) := by decide +kernel
theorem dX2_slowness_81 : decode cX2_slowness 81 = .ok (.iload_n 3, 1) := by decide +kernel
theorem dX2_slowness_82 : decode cX2_slowness 82 = .ok (.invokestatic 61, 3) := by decide +kernel
theorem dX2_slowness_85 : decode cX2_slowness 85 = .ok (.iadd, 1) := by decide +kernel
theorem dX2_slowness_86 : decode cX2_slowness 86 = .ok (.iastore, 1) := by decide +kernel
theorem dX2_slowness_87 : decode cX2_slowness 87 = .ok (.aload_n 0, 1) := by decide +kernel
theorem dX2_slowness_88 : decode cX2_slowness 88 = .ok (.getfield 27, 3) := by decide +kernel
theorem dX2_slowness_91 : decode cX2_slowness 91 = .ok (.iload_n 2, 1) := by decide +kernel
theorem dX2_slowness_92 : decode cX2_slowness 92 = .ok (.baload, 1) := by decide +kernel
theorem dX2_slowness_93 : decode cX2_slowness 93 = .ok (.ifCond .eq 14, 3) := by decide +kernel
theorem dX2_slowness_96 : decode cX2_slowness 96 = .ok (.iload_n 1, 1) := by decide +kernel
theorem dX2_slowness_97 : decode cX2_slowness 97 = .ok (.aload_n 0, 1) := by decide +kernel
theorem dX2_slowness_98 : decode cX2_slowness 98 = .ok (.getfield 40, 3) := by decide +kernel
theorem dX2_slowness_101 : decode cX2_slowness 101 = .ok (.iload_n 2, 1) := by decide +kernel
theorem dX2_slowness_102 : decode cX2_slowness 102 = .ok (.iaload, 1) := by decide +kernel
theorem dX2_slowness_103 : decode cX2_slowness 103 = .ok (.invokestatic 61, 3) := by decide +kernel
theorem dX2_slowness_106 : decode cX2_slowness 106 = .ok (.istore_n 1, 1) := by decide +kernel
theorem dX2_slowness_107 : decode cX2_slowness 107 = .ok (.iinc 2 1, 3) := by decide +kernel
theorem dX2_slowness_110 : decode cX2_slowness 110 = .ok (.goto (-106), 3) := by decide +kernel
theorem dX2_slowness_113 : decode cX2_slowness 113 = .ok (.iconst 0, 1) := by decide +kernel
theorem dX2_slowness_114 : decode cX2_slowness 114 = .ok (.istore_n 2, 1) := by decide +kernel
theorem dX2_slowness_115 : decode cX2_slowness 115 = .ok (.iload_n 2, 1) := by decide +kernel
theorem dX2_slowness_116 : decode cX2_slowness 116 = .ok (.aload_n 0, 1) := by decide +kernel
theorem dX2_slowness_117 : decode cX2_slowness 117 = .ok (.getfield 51, 3) := by decide +kernel
theorem dX2_slowness_120 : decode cX2_slowness 120 = .ok (.if_icmp .ge 47, 3) := by decide +kernel
theorem dX2_slowness_123 : decode cX2_slowness 123 = .ok (.aload_n 0, 1) := by decide +kernel
theorem dX2_slowness_124 : decode cX2_slowness 124 = .ok (.getfield 37, 3) := by decide +kernel
theorem dX2_slowness_127 : decode cX2_slowness 127 = .ok (.iload_n 2, 1) := by decide +kernel
theorem dX2_slowness_128 : decode cX2_slowness 128 = .ok (.iaload, 1) := by decide +kernel
theorem dX2_slowness_129 : decode cX2_slowness 129 = .ok (.istore_n 3, 1) := by decide +kernel
theorem dX2_slowness_130 : decode cX2_slowness 130 = .ok (.iload_n 1, 1) := by decide +kernel
theorem dX2_slowness_131 : decode cX2_slowness 131 = .ok (.aload_n 0, 1) := by decide +kernel
theorem dX2_slowness_132 : decode cX2_slowness 132 = .ok (.getfield 40, 3) := by decide +kernel
theorem dX2_slowness_135 : decode cX2_slowness 135 = .ok (.aload_n 0, 1) := by decide +kernel
theorem dX2_slowness_136 : decode cX2_slowness 136 = .ok (.getfield 15, 3) := by decide +kernel
theorem dX2_slowness_139 : decode cX2_slowness 139 = .ok (.iload_n 3, 1) := by decide +kernel
theorem dX2_slowness_140 : decode cX2_slowness 140 = .ok (.iaload, 1) := by decide +kernel
theorem dX2_slowness_141 : decode cX2_slowness 141 = .ok (.iaload, 1) := by decide +kernel
theorem dX2_slowness_142 : decode cX2_slowness 142 = .ok (.aload_n 0, 1) := by decide +kernel
theorem dX2_slowness_143 : decode cX2_slowness 143 = .ok (.getfield 34, 3) := by decide +kernel
theorem dX2_slowness_146 : decode cX2_slowness 146 = .ok (.iload_n 3, 1) := by decide +kernel
theorem dX2_slowness_147 : decode cX2_slowness 147 = .ok (.baload, 1) := by decide +kernel
theorem dX2_slowness_148 : decode cX2_slowness 148 = .ok (.ifCond .eq 7, 3) := by decide +kernel
theorem dX2_slowness_151 : decode cX2_slowness 151 = .ok (.iconst 1, 1) := by decide +kernel
theorem dX2_slowness_152 : decode cX2_slowness 152 = .ok (.goto 4, 3) := by decide +kernel
theorem dX2_slowness_155 : decode cX2_slowness 155 = .ok (.iconst 0, 1) := by decide +kernel
theorem dX2_slowness_156 : decode cX2_slowness 156 = .ok (.iadd, 1) := by decide +kernel
theorem dX2_slowness_157 : decode cX2_slowness 157 = .ok (.invokestatic 61, 3) := by decide +kernel
theorem dX2_slowness_160 : decode cX2_slowness 160 = .ok (.istore_n 1, 1) := by decide +kernel
theorem dX2_slowness_161 : decode cX2_slowness 161 = .ok (.iinc 2 1, 3) := by decide +kernel
theorem dX2_slowness_164 : decode cX2_slowness 164 = .ok (.goto (-49), 3) := by decide +kernel
theorem dX2_slowness_167 : decode cX2_slowness 167 = .ok (.iload_n 1, 1) := by decide +kernel
theorem dX2_slowness_168 : decode cX2_slowness 168 = .ok (.ireturn, 1) := by decide +kernel
theorem dX2_gate_0 : decode cX2_gate 0 = .ok (.iload_n 0, 1) := by decide +kernel
theorem dX2_gate_1 : decode cX2_gate 1 = .ok (.tableswitch 41 1 3 #[27, 33, 37], 27) := by decide +kernel
theorem dX2_gate_28 : decode cX2_gate 28 = .ok (.lload_n 1, 1) := by decide +kernel
theorem dX2_gate_29 : decode cX2_gate 29 = .ok (.ldc2_w 67, 3) := by decide +kernel
theorem dX2_gate_32 : decode cX2_gate 32 = .ok (.lxor, 1) := by decide +kernel
theorem dX2_gate_33 : decode cX2_gate 33 = .ok (.lreturn, 1) := by decide +kernel
theorem dX2_gate_34 : decode cX2_gate 34 = .ok (.lload_n 1, 1) := by decide +kernel
theorem dX2_gate_35 : decode cX2_gate 35 = .ok (.lload_n 3, 1) := by decide +kernel
theorem dX2_gate_36 : decode cX2_gate 36 = .ok (.land, 1) := by decide +kernel
theorem dX2_gate_37 : decode cX2_gate 37 = .ok (.lreturn, 1) := by decide +kernel
theorem dX2_gate_38 : decode cX2_gate 38 = .ok (.lload_n 1, 1) := by decide +kernel
theorem dX2_gate_39 : decode cX2_gate 39 = .ok (.lload_n 3, 1) := by decide +kernel
theorem dX2_gate_40 : decode cX2_gate 40 = .ok (.lor, 1) := by decide +kernel
theorem dX2_gate_41 : decode cX2_gate 41 = .ok (.lreturn, 1) := by decide +kernel
theorem dX2_gate_42 : decode cX2_gate 42 = .ok (.lload_n 1, 1) := by decide +kernel
theorem dX2_gate_43 : decode cX2_gate 43 = .ok (.lload_n 3, 1) := by decide +kernel
theorem dX2_gate_44 : decode cX2_gate 44 = .ok (.lxor, 1) := by decide +kernel
theorem dX2_gate_45 : decode cX2_gate 45 = .ok (.lreturn, 1) := by decide +kernel
theorem dX3_init_0 : decode cX3_init 0 = .ok (.aload_n 0, 1) := by decide +kernel
theorem dX3_init_1 : decode cX3_init 1 = .ok (.invokespecial 3, 3) := by decide +kernel
theorem dX3_init_4 : decode cX3_init 4 = .ok (.aload_n 0, 1) := by decide +kernel
theorem dX3_init_5 : decode cX3_init 5 = .ok (.bipush 17, 2) := by decide +kernel
theorem dX3_init_7 : decode cX3_init 7 = .ok (.newarray .int, 2) := by decide +kernel
theorem dX3_init_9 : decode cX3_init 9 = .ok (.putfield 9, 3) := by decide +kernel
theorem dX3_init_12 : decode cX3_init 12 = .ok (.return_, 1) := by decide +kernel
theorem dX3_bit_0 : decode cX3_bit 0 = .ok (.aload_n 0, 1) := by decide +kernel
theorem dX3_bit_1 : decode cX3_bit 1 = .ok (.getfield 9, 3) := by decide +kernel
theorem dX3_bit_4 : decode cX3_bit 4 = .ok (.iload_n 2, 1) := by decide +kernel
theorem dX3_bit_5 : decode cX3_bit 5 = .ok (.iaload, 1) := by decide +kernel
theorem dX3_bit_6 : decode cX3_bit 6 = .ok (.iload_n 1, 1) := by decide +kernel
theorem dX3_bit_7 : decode cX3_bit 7 = .ok (.ishr, 1) := by decide +kernel
theorem dX3_bit_8 : decode cX3_bit 8 = .ok (.iconst 1, 1) := by decide +kernel
theorem dX3_bit_9 : decode cX3_bit 9 = .ok (.iand, 1) := by decide +kernel
theorem dX3_bit_10 : decode cX3_bit 10 = .ok (.ireturn, 1) := by decide +kernel
theorem dX3_wide_0 : decode cX3_wide 0 = .ok (.aload_n 0, 1) := by decide +kernel
theorem dX3_wide_1 : decode cX3_wide 1 = .ok (.getfield 9, 3) := by decide +kernel
theorem dX3_wide_4 : decode cX3_wide 4 = .ok (.iload_n 2, 1) := by decide +kernel
theorem dX3_wide_5 : decode cX3_wide 5 = .ok (.iaload, 1) := by decide +kernel
theorem dX3_wide_6 : decode cX3_wide 6 = .ok (.iload_n 1, 1) := by decide +kernel
theorem dX3_wide_7 : decode cX3_wide 7 = .ok (.ishr, 1) := by decide +kernel
theorem dX3_wide_8 : decode cX3_wide 8 = .ok (.iconst 1, 1) := by decide +kernel
theorem dX3_wide_9 : decode cX3_wide 9 = .ok (.iand, 1) := by decide +kernel
theorem dX3_wide_10 : decode cX3_wide 10 = .ok (.i2l, 1) := by decide +kernel
theorem dX3_wide_11 : decode cX3_wide 11 = .ok (.lneg, 1) := by decide +kernel
theorem dX3_wide_12 : decode cX3_wide 12 = .ok (.lreturn, 1) := by decide +kernel
set_option maxRecDepth 20000 in
theorem ggX3_work_X4_inputsOf : GoodIn wsX3_work wsX4_inputsOf := goodIn_r _ [12, 13, 14, 15, 45, 46, 47, 48] (by decide +kernel) (by decide +kernel)
set_option maxRecDepth 20000 in
theorem gX3_work_X4_inputsOf : GoodIn wsX3_work (wsV RX3 15 RX4 yX4_inputsOf wsX4_inputsOf) := goodIn_app (goodIn_of _ (by decide +kernel)) ggX3_work_X4_inputsOf
set_option maxRecDepth 20000 in
theorem ggX3_work_X3_gateBit : GoodIn wsX3_work wsX3_gateBit := goodIn_r _ [20, 7, 21, 3, 22, 23, 24, 19, 25, 1, 26, 27, 28, 29, 30, 32, 33, 34, 35, 36, 37, 38, 39, 40, 41, 42, 43, 44, 31] (by decide +kernel) (by decide +kernel)
set_option maxRecDepth 20000 in
theorem gX3_work_X3_gateBit : GoodIn wsX3_work (wsV RX3 33 RX3 yX3_gateBit wsX3_gateBit) := goodIn_app (goodIn_of _ (by decide +kernel)) ggX3_work_X3_gateBit
set_option maxRecDepth 20000 in
theorem ggX3_work_X3_bit : GoodIn wsX3_work wsX3_bit := goodIn_r _ [25, 1, 31] (by decide +kernel) (by decide +kernel)
set_option maxRecDepth 20000 in
theorem gX3_work_X3_bit : GoodIn wsX3_work (wsV RX3 46 RX3 yX3_bit wsX3_bit) := goodIn_app (goodIn_of _ (by decide +kernel)) ggX3_work_X3_bit
theorem dX3_work_0 : decode cX3_work 0 = .ok (.iconst 0, 1) := by decide +kernel
theorem dX3_work_1 : decode cX3_work 1 = .ok (.istore_n 3, 1) := by decide +kernel
theorem dX3_work_2 : decode cX3_work 2 = .ok (.iconst 0, 1) := by decide +kernel
theorem dX3_work_3 : decode cX3_work 3 = .ok (.istore 4, 2) := by decide +kernel
theorem dX3_work_5 : decode cX3_work 5 = .ok (.iload 4, 2) := by decide +kernel
theorem dX3_work_7 : decode cX3_work 7 = .ok (.bipush 16, 2) := by decide +kernel
theorem dX3_work_9 : decode cX3_work 9 = .ok (.if_icmp .gt 162, 3) := by decide +kernel
theorem dX3_work_12 : decode cX3_work 12 = .ok (.aload_n 0, 1) := by decide +kernel
theorem dX3_work_13 : decode cX3_work 13 = .ok (.getfield 9, 3) := by decide +kernel
theorem dX3_work_16 : decode cX3_work 16 = .ok (.iload 4, 2) := by decide +kernel
theorem dX3_work_18 : decode cX3_work 18 = .ok (.iload_n 3, 1) := by decide +kernel
theorem dX3_work_19 : decode cX3_work 19 = .ok (.iastore, 1) := by decide +kernel
theorem dX3_work_20 : decode cX3_work 20 = .ok (.aload_n 2, 1) := by decide +kernel
theorem dX3_work_21 : decode cX3_work 21 = .ok (.iload 4, 2) := by decide +kernel
theorem dX3_work_23 : decode cX3_work 23 = .ok (.invokevirtual 15, 3) := by decide +kernel
theorem dX3_work_26 : decode cX3_work 26 = .ok (.istore 5, 2) := by decide +kernel
theorem dX3_work_28 : decode cX3_work 28 = .ok (.iconst 0, 1) := by decide +kernel
theorem dX3_work_29 : decode cX3_work 29 = .ok (.istore 6, 2) := by decide +kernel
theorem dX3_work_31 : decode cX3_work 31 = .ok (.iload 6, 2) := by decide +kernel
theorem dX3_work_33 : decode cX3_work 33 = .ok (.aload_n 1, 1) := by decide +kernel
theorem dX3_work_34 : decode cX3_work 34 = .ok (.getfield 21, 3) := by decide +kernel
theorem dX3_work_37 : decode cX3_work 37 = .ok (.if_icmp .ge 80, 3) := by decide +kernel
theorem dX3_work_40 : decode cX3_work 40 = .ok (.aload_n 1, 1) := by decide +kernel
theorem dX3_work_41 : decode cX3_work 41 = .ok (.getfield 27, 3) := by decide +kernel
theorem dX3_work_44 : decode cX3_work 44 = .ok (.iload 6, 2) := by decide +kernel
theorem dX3_work_46 : decode cX3_work 46 = .ok (.iaload, 1) := by decide +kernel
theorem dX3_work_47 : decode cX3_work 47 = .ok (.ifCond .ne 31, 3) := by decide +kernel
theorem dX3_work_50 : decode cX3_work 50 = .ok (.aload_n 0, 1) := by decide +kernel
theorem dX3_work_51 : decode cX3_work 51 = .ok (.getfield 9, 3) := by decide +kernel
theorem dX3_work_54 : decode cX3_work 54 = .ok (.iload 4, 2) := by decide +kernel
theorem dX3_work_56 : decode cX3_work 56 = .ok (.dup2, 1) := by decide +kernel
theorem dX3_work_57 : decode cX3_work 57 = .ok (.iaload, 1) := by decide +kernel
theorem dX3_work_58 : decode cX3_work 58 = .ok (.iload 5, 2) := by decide +kernel
theorem dX3_work_60 : decode cX3_work 60 = .ok (.aload_n 1, 1) := by decide +kernel
theorem dX3_work_61 : decode cX3_work 61 = .ok (.getfield 30, 3) := by decide +kernel
theorem dX3_work_64 : decode cX3_work 64 = .ok (.iload 6, 2) := by decide +kernel
theorem dX3_work_66 : decode cX3_work 66 = .ok (.iaload, 1) := by decide +kernel
theorem dX3_work_67 : decode cX3_work 67 = .ok (.ishr, 1) := by decide +kernel
theorem dX3_work_68 : decode cX3_work 68 = .ok (.iconst 1, 1) := by decide +kernel
theorem dX3_work_69 : decode cX3_work 69 = .ok (.iand, 1) := by decide +kernel
theorem dX3_work_70 : decode cX3_work 70 = .ok (.iload 6, 2) := by decide +kernel
theorem dX3_work_72 : decode cX3_work 72 = .ok (.ishl, 1) := by decide +kernel
theorem dX3_work_73 : decode cX3_work 73 = .ok (.ior, 1) := by decide +kernel
theorem dX3_work_74 : decode cX3_work 74 = .ok (.iastore, 1) := by decide +kernel
theorem dX3_work_75 : decode cX3_work 75 = .ok (.goto 36, 3) := by decide +kernel
theorem dX3_work_78 : decode cX3_work 78 = .ok (.aload_n 1, 1) := by decide +kernel
theorem dX3_work_79 : decode cX3_work 79 = .ok (.getfield 27, 3) := by decide +kernel
theorem dX3_work_82 : decode cX3_work 82 = .ok (.iload 6, 2) := by decide +kernel
theorem dX3_work_84 : decode cX3_work 84 = .ok (.iaload, 1) := by decide +kernel
theorem dX3_work_85 : decode cX3_work 85 = .ok (.iconst 5, 1) := by decide +kernel
theorem dX3_work_86 : decode cX3_work 86 = .ok (.if_icmp .eq 25, 3) := by decide +kernel
theorem dX3_work_89 : decode cX3_work 89 = .ok (.aload_n 0, 1) := by decide +kernel
theorem dX3_work_90 : decode cX3_work 90 = .ok (.getfield 9, 3) := by decide +kernel
theorem dX3_work_93 : decode cX3_work 93 = .ok (.iload 4, 2) := by decide +kernel
theorem dX3_work_95 : decode cX3_work 95 = .ok (.dup2, 1) := by decide +kernel
theorem dX3_work_96 : decode cX3_work 96 = .ok (.iaload, 1) := by decide +kernel
theorem dX3_work_97 : decode cX3_work 97 = .ok (.aload_n 0, 1) := by decide +kernel
theorem dX3_work_98 : decode cX3_work 98 = .ok (.aload_n 1, 1) := by decide +kernel
theorem dX3_work_99 : decode cX3_work 99 = .ok (.iload 6, 2) := by decide +kernel
theorem dX3_work_101 : decode cX3_work 101 = .ok (.iload 4, 2) := by decide +kernel
theorem dX3_work_103 : decode cX3_work 103 = .ok (.invokevirtual 33, 3) := by decide +kernel
theorem dX3_work_106 : decode cX3_work 106 = .ok (.iload 6, 2) := by decide +kernel
theorem dX3_work_108 : decode cX3_work 108 = .ok (.ishl, 1) := by decide +kernel
theorem dX3_work_109 : decode cX3_work 109 = .ok (.ior, 1) := by decide +kernel
theorem dX3_work_110 : decode cX3_work 110 = .ok (.iastore, 1) := by decide +kernel
theorem dX3_work_111 : decode cX3_work 111 = .ok (.iinc 6 1, 3) := by decide +kernel
theorem dX3_work_114 : decode cX3_work 114 = .ok (.goto (-83), 3) := by decide +kernel
theorem dX3_work_117 : decode cX3_work 117 = .ok (.iconst 0, 1) := by decide +kernel
theorem dX3_work_118 : decode cX3_work 118 = .ok (.istore_n 3, 1) := by decide +kernel
theorem dX3_work_119 : decode cX3_work 119 = .ok (.iconst 0, 1) := by decide +kernel
theorem dX3_work_120 : decode cX3_work 120 = .ok (.istore 6, 2) := by decide +kernel
theorem dX3_work_122 : decode cX3_work 122 = .ok (.iload 6, 2) := by decide +kernel
theorem dX3_work_124 : decode cX3_work 124 = .ok (.aload_n 1, 1) := by decide +kernel
theorem dX3_work_125 : decode cX3_work 125 = .ok (.getfield 37, 3) := by decide +kernel
theorem dX3_work_128 : decode cX3_work 128 = .ok (.if_icmp .ge 37, 3) := by decide +kernel
theorem dX3_work_131 : decode cX3_work 131 = .ok (.aload_n 1, 1) := by decide +kernel
theorem dX3_work_132 : decode cX3_work 132 = .ok (.getfield 40, 3) := by decide +kernel
theorem dX3_work_135 : decode cX3_work 135 = .ok (.iload 6, 2) := by decide +kernel
theorem dX3_work_137 : decode cX3_work 137 = .ok (.iaload, 1) := by decide +kernel
theorem dX3_work_138 : decode cX3_work 138 = .ok (.istore 7, 2) := by decide +kernel
theorem dX3_work_140 : decode cX3_work 140 = .ok (.iload_n 3, 1) := by decide +kernel
theorem dX3_work_141 : decode cX3_work 141 = .ok (.aload_n 0, 1) := by decide +kernel
theorem dX3_work_142 : decode cX3_work 142 = .ok (.aload_n 1, 1) := by decide +kernel
theorem dX3_work_143 : decode cX3_work 143 = .ok (.getfield 43, 3) := by decide +kernel
theorem dX3_work_146 : decode cX3_work 146 = .ok (.iload 7, 2) := by decide +kernel
theorem dX3_work_148 : decode cX3_work 148 = .ok (.iaload, 1) := by decide +kernel
theorem dX3_work_149 : decode cX3_work 149 = .ok (.iload 4, 2) := by decide +kernel
theorem dX3_work_151 : decode cX3_work 151 = .ok (.invokevirtual 46, 3) := by decide +kernel
theorem dX3_work_154 : decode cX3_work 154 = .ok (.iload 7, 2) := by decide +kernel
theorem dX3_work_156 : decode cX3_work 156 = .ok (.ishl, 1) := by decide +kernel
theorem dX3_work_157 : decode cX3_work 157 = .ok (.ior, 1) := by decide +kernel
theorem dX3_work_158 : decode cX3_work 158 = .ok (.istore_n 3, 1) := by decide +kernel
theorem dX3_work_159 : decode cX3_work 159 = .ok (.iinc 6 1, 3) := by decide +kernel
theorem dX3_work_162 : decode cX3_work 162 = .ok (.goto (-40), 3) := by decide +kernel
theorem dX3_work_165 : decode cX3_work 165 = .ok (.iinc 4 1, 3) := by decide +kernel
theorem dX3_work_168 : decode cX3_work 168 = .ok (.goto (-163), 3) := by decide +kernel
theorem dX3_work_171 : decode cX3_work 171 = .ok (.return_, 1) := by decide +kernel
set_option maxRecDepth 20000 in
theorem ggX3_gateBit_X3_bit : GoodIn wsX3_gateBit wsX3_bit := goodIn_r _ [8, 9, 28] (by decide +kernel) (by decide +kernel)
set_option maxRecDepth 20000 in
theorem gX3_gateBit_X3_bit : GoodIn wsX3_gateBit (wsV RX3 46 RX3 yX3_bit wsX3_bit) := goodIn_app (goodIn_of _ (by decide +kernel)) ggX3_gateBit_X3_bit
set_option maxRecDepth 20000 in
theorem ggX3_gateBit_X2_gate : GoodIn wsX3_gateBit wsX2_gate := goodIn_r _ [13, 14] (by decide +kernel) (by decide +kernel)
set_option maxRecDepth 20000 in
theorem gX3_gateBit_X2_gate : GoodIn wsX3_gateBit (va_wsS RX3 53 yX2_gate wsX2_gate) := goodIn_app (goodIn_of _ (by decide +kernel)) ggX3_gateBit_X2_gate
theorem dX3_gateBit_0 : decode cX3_gateBit 0 = .ok (.aload_n 0, 1) := by decide +kernel
theorem dX3_gateBit_1 : decode cX3_gateBit 1 = .ok (.aload_n 1, 1) := by decide +kernel
theorem dX3_gateBit_2 : decode cX3_gateBit 2 = .ok (.getfield 43, 3) := by decide +kernel
theorem dX3_gateBit_5 : decode cX3_gateBit 5 = .ok (.iload_n 2, 1) := by decide +kernel
theorem dX3_gateBit_6 : decode cX3_gateBit 6 = .ok (.iaload, 1) := by decide +kernel
theorem dX3_gateBit_7 : decode cX3_gateBit 7 = .ok (.iload_n 3, 1) := by decide +kernel
theorem dX3_gateBit_8 : decode cX3_gateBit 8 = .ok (.invokevirtual 46, 3) := by decide +kernel
theorem dX3_gateBit_11 : decode cX3_gateBit 11 = .ok (.istore 4, 2) := by decide +kernel
theorem dX3_gateBit_13 : decode cX3_gateBit 13 = .ok (.aload_n 1, 1) := by decide +kernel
theorem dX3_gateBit_14 : decode cX3_gateBit 14 = .ok (.getfield 50, 3) := by decide +kernel
theorem dX3_gateBit_17 : decode cX3_gateBit 17 = .ok (.iload_n 2, 1) := by decide +kernel
theorem dX3_gateBit_18 : decode cX3_gateBit 18 = .ok (.iaload, 1) := by decide +kernel
theorem dX3_gateBit_19 : decode cX3_gateBit 19 = .ok (.iconst (-1), 1) := by decide +kernel
theorem dX3_gateBit_20 : decode cX3_gateBit 20 = .ok (.if_icmp .ne 7, 3) := by decide +kernel
theorem dX3_gateBit_23 : decode cX3_gateBit 23 = .ok (.iconst 0, 1) := by decide +kernel
theorem dX3_gateBit_24 : decode cX3_gateBit 24 = .ok (.goto 14, 3) := by decide +kernel
theorem dX3_gateBit_27 : decode cX3_gateBit 27 = .ok (.aload_n 0, 1) := by decide +kernel
theorem dX3_gateBit_28 : decode cX3_gateBit 28 = .ok (.aload_n 1, 1) := by decide +kernel
theorem dX3_gateBit_29 : decode cX3_gateBit 29 = .ok (.getfield 50, 3) := by decide +kernel
theorem dX3_gateBit_32 : decode cX3_gateBit 32 = .ok (.iload_n 2, 1) := by decide +kernel
theorem dX3_gateBit_33 : decode cX3_gateBit 33 = .ok (.iaload, 1) := by decide +kernel
theorem dX3_gateBit_34 : decode cX3_gateBit 34 = .ok (.iload_n 3, 1) := by decide +kernel
theorem dX3_gateBit_35 : decode cX3_gateBit 35 = .ok (.invokevirtual 46, 3) := by decide +kernel
theorem dX3_gateBit_38 : decode cX3_gateBit 38 = .ok (.istore 5, 2) := by decide +kernel
theorem dX3_gateBit_40 : decode cX3_gateBit 40 = .ok (.aload_n 1, 1) := by decide +kernel
theorem dX3_gateBit_41 : decode cX3_gateBit 41 = .ok (.getfield 27, 3) := by decide +kernel
theorem dX3_gateBit_44 : decode cX3_gateBit 44 = .ok (.iload_n 2, 1) := by decide +kernel
theorem dX3_gateBit_45 : decode cX3_gateBit 45 = .ok (.iaload, 1) := by decide +kernel
theorem dX3_gateBit_46 : decode cX3_gateBit 46 = .ok (.iload 4, 2) := by decide +kernel
theorem dX3_gateBit_48 : decode cX3_gateBit 48 = .ok (.i2l, 1) := by decide +kernel
theorem dX3_gateBit_49 : decode cX3_gateBit 49 = .ok (.iload 5, 2) := by decide +kernel
theorem dX3_gateBit_51 : decode cX3_gateBit 51 = .ok (.i2l, 1) := by decide +kernel
theorem dX3_gateBit_52 : decode cX3_gateBit 52 = .ok (.invokestatic 53, 3) := by decide +kernel
theorem dX3_gateBit_55 : decode cX3_gateBit 55 = .ok (.l2i, 1) := by decide +kernel
theorem dX3_gateBit_56 : decode cX3_gateBit 56 = .ok (.iconst 1, 1) := by decide +kernel
theorem dX3_gateBit_57 : decode cX3_gateBit 57 = .ok (.iand, 1) := by decide +kernel
theorem dX3_gateBit_58 : decode cX3_gateBit 58 = .ok (.ireturn, 1) := by decide +kernel
set_option maxRecDepth 20000 in
theorem ggX4_init_J7_fill_53178 : GoodIn wsX4_init wsJ7_fill_53178 := goodIn_r _ [12] (by decide +kernel) (by decide +kernel)
set_option maxRecDepth 20000 in
theorem gX4_init_J7_fill_53178 : GoodIn wsX4_init (va_wsS RX4 23 yJ7_fill_53178 wsJ7_fill_53178) := goodIn_app (goodIn_of _ (by decide +kernel)) ggX4_init_J7_fill_53178
theorem dX4_init_0 : decode cX4_init 0 = .ok (.aload_n 0, 1) := by decide +kernel
theorem dX4_init_1 : decode cX4_init 1 = .ok (.invokespecial 3, 3) := by decide +kernel
theorem dX4_init_4 : decode cX4_init 4 = .ok (.aload_n 0, 1) := by decide +kernel
theorem dX4_init_5 : decode cX4_init 5 = .ok (.iconst 4, 1) := by decide +kernel
theorem dX4_init_6 : decode cX4_init 6 = .ok (.newarray .int, 2) := by decide +kernel
theorem dX4_init_8 : decode cX4_init 8 = .ok (.putfield 9, 3) := by decide +kernel
theorem dX4_init_11 : decode cX4_init 11 = .ok (.aload_n 0, 1) := by decide +kernel
theorem dX4_init_12 : decode cX4_init 12 = .ok (.iconst 4, 1) := by decide +kernel
theorem dX4_init_13 : decode cX4_init 13 = .ok (.newarray .int, 2) := by decide +kernel
theorem dX4_init_15 : decode cX4_init 15 = .ok (.putfield 15, 3) := by decide +kernel
theorem dX4_init_18 : decode cX4_init 18 = .ok (.aload_n 0, 1) := by decide +kernel
theorem dX4_init_19 : decode cX4_init 19 = .ok (.iconst 4, 1) := by decide +kernel
theorem dX4_init_20 : decode cX4_init 20 = .ok (.bipush 60, 2) := by decide +kernel
theorem dX4_init_22 : decode cX4_init 22 = .ok (.multianewarray 18 2, 4) := by decide +kernel
theorem dX4_init_26 : decode cX4_init 26 = .ok (.putfield 20, 3) := by decide +kernel
theorem dX4_init_29 : decode cX4_init 29 = .ok (.aload_n 0, 1) := by decide +kernel
theorem dX4_init_30 : decode cX4_init 30 = .ok (.getfield 9, 3) := by decide +kernel
theorem dX4_init_33 : decode cX4_init 33 = .ok (.iconst (-1), 1) := by decide +kernel
theorem dX4_init_34 : decode cX4_init 34 = .ok (.invokestatic 23, 3) := by decide +kernel
theorem dX4_init_37 : decode cX4_init 37 = .ok (.return_, 1) := by decide +kernel
set_option maxRecDepth 20000 in
theorem ggX4_renew_J7_fill_53178 : GoodIn wsX4_renew wsJ7_fill_53178 := goodIn_r _ [7] (by decide +kernel) (by decide +kernel)
set_option maxRecDepth 20000 in
theorem gX4_renew_J7_fill_53178 : GoodIn wsX4_renew (va_wsS RX4 23 yJ7_fill_53178 wsJ7_fill_53178) := goodIn_app (goodIn_of _ (by decide +kernel)) ggX4_renew_J7_fill_53178
theorem dX4_renew_0 : decode cX4_renew 0 = .ok (.aload_n 0, 1) := by decide +kernel
theorem dX4_renew_1 : decode cX4_renew 1 = .ok (.getfield 9, 3) := by decide +kernel
theorem dX4_renew_4 : decode cX4_renew 4 = .ok (.iload_n 1, 1) := by decide +kernel
theorem dX4_renew_5 : decode cX4_renew 5 = .ok (.iload_n 2, 1) := by decide +kernel
theorem dX4_renew_6 : decode cX4_renew 6 = .ok (.iastore, 1) := by decide +kernel
theorem dX4_renew_7 : decode cX4_renew 7 = .ok (.aload_n 0, 1) := by decide +kernel
theorem dX4_renew_8 : decode cX4_renew 8 = .ok (.getfield 15, 3) := by decide +kernel
theorem dX4_renew_11 : decode cX4_renew 11 = .ok (.iload_n 1, 1) := by decide +kernel
theorem dX4_renew_12 : decode cX4_renew 12 = .ok (.iload_n 3, 1) := by decide +kernel
theorem dX4_renew_13 : decode cX4_renew 13 = .ok (.iastore, 1) := by decide +kernel
theorem dX4_renew_14 : decode cX4_renew 14 = .ok (.aload_n 0, 1) := by decide +kernel
theorem dX4_renew_15 : decode cX4_renew 15 = .ok (.getfield 20, 3) := by decide +kernel
theorem dX4_renew_18 : decode cX4_renew 18 = .ok (.iload_n 1, 1) := by decide +kernel
theorem dX4_renew_19 : decode cX4_renew 19 = .ok (.aaload, 1) := by decide +kernel
theorem dX4_renew_20 : decode cX4_renew 20 = .ok (.iconst 0, 1) := by decide +kernel
theorem dX4_renew_21 : decode cX4_renew 21 = .ok (.invokestatic 23, 3) := by decide +kernel
