theorem dX4_renew_24 : decode cX4_renew 24 = .ok (.return_, 1) := by decide +kernel
theorem dX4_wrongOf_0 : decode cX4_wrongOf 0 = .ok (.aload_n 0, 1) := by decide +kernel
theorem dX4_wrongOf_1 : decode cX4_wrongOf 1 = .ok (.getfield 9, 3) := by decide +kernel
theorem dX4_wrongOf_4 : decode cX4_wrongOf 4 = .ok (.iload_n 1, 1) := by decide +kernel
theorem dX4_wrongOf_5 : decode cX4_wrongOf 5 = .ok (.iaload, 1) := by decide +kernel
theorem dX4_wrongOf_6 : decode cX4_wrongOf 6 = .ok (.iconst (-1), 1) := by decide +kernel
theorem dX4_wrongOf_7 : decode cX4_wrongOf 7 = .ok (.if_icmp .ne 5, 3) := by decide +kernel
theorem dX4_wrongOf_10 : decode cX4_wrongOf 10 = .ok (.iconst 1, 1) := by decide +kernel
theorem dX4_wrongOf_11 : decode cX4_wrongOf 11 = .ok (.ireturn, 1) := by decide +kernel
theorem dX4_wrongOf_12 : decode cX4_wrongOf 12 = .ok (.aload_n 0, 1) := by decide +kernel
theorem dX4_wrongOf_13 : decode cX4_wrongOf 13 = .ok (.getfield 9, 3) := by decide +kernel
theorem dX4_wrongOf_16 : decode cX4_wrongOf 16 = .ok (.iload_n 1, 1) := by decide +kernel
theorem dX4_wrongOf_17 : decode cX4_wrongOf 17 = .ok (.iaload, 1) := by decide +kernel
theorem dX4_wrongOf_18 : decode cX4_wrongOf 18 = .ok (.iload_n 2, 1) := by decide +kernel
theorem dX4_wrongOf_19 : decode cX4_wrongOf 19 = .ok (.if_icmp .eq 5, 3) := by decide +kernel
theorem dX4_wrongOf_22 : decode cX4_wrongOf 22 = .ok (.iconst 3, 1) := by decide +kernel
theorem dX4_wrongOf_23 : decode cX4_wrongOf 23 = .ok (.ireturn, 1) := by decide +kernel
theorem dX4_wrongOf_24 : decode cX4_wrongOf 24 = .ok (.iload_n 3, 1) := by decide +kernel
theorem dX4_wrongOf_25 : decode cX4_wrongOf 25 = .ok (.ifCond .lt 13, 3) := by decide +kernel
theorem dX4_wrongOf_28 : decode cX4_wrongOf 28 = .ok (.iload_n 3, 1) := by decide +kernel
theorem dX4_wrongOf_29 : decode cX4_wrongOf 29 = .ok (.aload_n 0, 1) := by decide +kernel
theorem dX4_wrongOf_30 : decode cX4_wrongOf 30 = .ok (.getfield 15, 3) := by decide +kernel
theorem dX4_wrongOf_33 : decode cX4_wrongOf 33 = .ok (.iload_n 1, 1) := by decide +kernel
theorem dX4_wrongOf_34 : decode cX4_wrongOf 34 = .ok (.iaload, 1) := by decide +kernel
theorem dX4_wrongOf_35 : decode cX4_wrongOf 35 = .ok (.if_icmp .lt 7, 3) := by decide +kernel
theorem dX4_wrongOf_38 : decode cX4_wrongOf 38 = .ok (.iconst 2, 1) := by decide +kernel
theorem dX4_wrongOf_39 : decode cX4_wrongOf 39 = .ok (.goto 4, 3) := by decide +kernel
theorem dX4_wrongOf_42 : decode cX4_wrongOf 42 = .ok (.iconst 0, 1) := by decide +kernel
theorem dX4_wrongOf_43 : decode cX4_wrongOf 43 = .ok (.ireturn, 1) := by decide +kernel
theorem dX4_hasItems_0 : decode cX4_hasItems 0 = .ok (.iload_n 2, 1) := by decide +kernel
theorem dX4_hasItems_1 : decode cX4_hasItems 1 = .ok (.ifCond .lt 33, 3) := by decide +kernel
theorem dX4_hasItems_4 : decode cX4_hasItems 4 = .ok (.iload_n 3, 1) := by decide +kernel
theorem dX4_hasItems_5 : decode cX4_hasItems 5 = .ok (.ifCond .lt 29, 3) := by decide +kernel
theorem dX4_hasItems_8 : decode cX4_hasItems 8 = .ok (.iload_n 2, 1) := by decide +kernel
theorem dX4_hasItems_9 : decode cX4_hasItems 9 = .ok (.aload_n 0, 1) := by decide +kernel
theorem dX4_hasItems_10 : decode cX4_hasItems 10 = .ok (.getfield 15, 3) := by decide +kernel
theorem dX4_hasItems_13 : decode cX4_hasItems 13 = .ok (.iload_n 1, 1) := by decide +kernel
theorem dX4_hasItems_14 : decode cX4_hasItems 14 = .ok (.iaload, 1) := by decide +kernel
theorem dX4_hasItems_15 : decode cX4_hasItems 15 = .ok (.if_icmp .gt 19, 3) := by decide +kernel
theorem dX4_hasItems_18 : decode cX4_hasItems 18 = .ok (.iload_n 3, 1) := by decide +kernel
theorem dX4_hasItems_19 : decode cX4_hasItems 19 = .ok (.aload_n 0, 1) := by decide +kernel
theorem dX4_hasItems_20 : decode cX4_hasItems 20 = .ok (.getfield 15, 3) := by decide +kernel
theorem dX4_hasItems_23 : decode cX4_hasItems 23 = .ok (.iload_n 1, 1) := by decide +kernel
theorem dX4_hasItems_24 : decode cX4_hasItems 24 = .ok (.iaload, 1) := by decide +kernel
theorem dX4_hasItems_25 : decode cX4_hasItems 25 = .ok (.iload_n 2, 1) := by decide +kernel
theorem dX4_hasItems_26 : decode cX4_hasItems 26 = .ok (.isub, 1) := by decide +kernel
theorem dX4_hasItems_27 : decode cX4_hasItems 27 = .ok (.if_icmp .gt 7, 3) := by decide +kernel
theorem dX4_hasItems_30 : decode cX4_hasItems 30 = .ok (.iconst 1, 1) := by decide +kernel
theorem dX4_hasItems_31 : decode cX4_hasItems 31 = .ok (.goto 4, 3) := by decide +kernel
theorem dX4_hasItems_34 : decode cX4_hasItems 34 = .ok (.iconst 0, 1) := by decide +kernel
theorem dX4_hasItems_35 : decode cX4_hasItems 35 = .ok (.ireturn, 1) := by decide +kernel
theorem dX4_inputsOf_0 : decode cX4_inputsOf 0 = .ok (.aload_n 0, 1) := by decide +kernel
theorem dX4_inputsOf_1 : decode cX4_inputsOf 1 = .ok (.getfield 9, 3) := by decide +kernel
theorem dX4_inputsOf_4 : decode cX4_inputsOf 4 = .ok (.iconst 0, 1) := by decide +kernel
theorem dX4_inputsOf_5 : decode cX4_inputsOf 5 = .ok (.iaload, 1) := by decide +kernel
theorem dX4_inputsOf_6 : decode cX4_inputsOf 6 = .ok (.iconst (-1), 1) := by decide +kernel
theorem dX4_inputsOf_7 : decode cX4_inputsOf 7 = .ok (.if_icmp .eq 13, 3) := by decide +kernel
theorem dX4_inputsOf_10 : decode cX4_inputsOf 10 = .ok (.iload_n 1, 1) := by decide +kernel
theorem dX4_inputsOf_11 : decode cX4_inputsOf 11 = .ok (.aload_n 0, 1) := by decide +kernel
theorem dX4_inputsOf_12 : decode cX4_inputsOf 12 = .ok (.getfield 15, 3) := by decide +kernel
theorem dX4_inputsOf_15 : decode cX4_inputsOf 15 = .ok (.iconst 0, 1) := by decide +kernel
theorem dX4_inputsOf_16 : decode cX4_inputsOf 16 = .ok (.iaload, 1) := by decide +kernel
theorem dX4_inputsOf_17 : decode cX4_inputsOf 17 = .ok (.if_icmp .lt 7, 3) := by decide +kernel
theorem dX4_inputsOf_20 : decode cX4_inputsOf 20 = .ok (.iconst 0, 1) := by decide +kernel
theorem dX4_inputsOf_21 : decode cX4_inputsOf 21 = .ok (.goto 11, 3) := by decide +kernel
theorem dX4_inputsOf_24 : decode cX4_inputsOf 24 = .ok (.aload_n 0, 1) := by decide +kernel
theorem dX4_inputsOf_25 : decode cX4_inputsOf 25 = .ok (.getfield 20, 3) := by decide +kernel
theorem dX4_inputsOf_28 : decode cX4_inputsOf 28 = .ok (.iconst 0, 1) := by decide +kernel
theorem dX4_inputsOf_29 : decode cX4_inputsOf 29 = .ok (.aaload, 1) := by decide +kernel
theorem dX4_inputsOf_30 : decode cX4_inputsOf 30 = .ok (.iload_n 1, 1) := by decide +kernel
theorem dX4_inputsOf_31 : decode cX4_inputsOf 31 = .ok (.iaload, 1) := by decide +kernel
theorem dX4_inputsOf_32 : decode cX4_inputsOf 32 = .ok (.ireturn, 1) := by decide +kernel
theorem dX4_narrowed_0 : decode cX4_narrowed 0 = .ok (.iload_n 0, 1) := by decide +kernel
theorem dX4_narrowed_1 : decode cX4_narrowed 1 = .ok (.ifCond .ne 6, 3) := by decide +kernel
theorem dX4_narrowed_4 : decode cX4_narrowed 4 = .ok (.iload_n 1, 1) := by decide +kernel
theorem dX4_narrowed_5 : decode cX4_narrowed 5 = .ok (.i2b, 1) := by decide +kernel
theorem dX4_narrowed_6 : decode cX4_narrowed 6 = .ok (.ireturn, 1) := by decide +kernel
theorem dX4_narrowed_7 : decode cX4_narrowed 7 = .ok (.iload_n 0, 1) := by decide +kernel
theorem dX4_narrowed_8 : decode cX4_narrowed 8 = .ok (.iconst 1, 1) := by decide +kernel
theorem dX4_narrowed_9 : decode cX4_narrowed 9 = .ok (.if_icmp .ne 8, 3) := by decide +kernel
theorem dX4_narrowed_12 : decode cX4_narrowed 12 = .ok (.iload_n 1, 1) := by decide +kernel
theorem dX4_narrowed_13 : decode cX4_narrowed 13 = .ok (.i2s, 1) := by decide +kernel
theorem dX4_narrowed_14 : decode cX4_narrowed 14 = .ok (.goto 4, 3) := by decide +kernel
theorem dX4_narrowed_17 : decode cX4_narrowed 17 = .ok (.iload_n 1, 1) := by decide +kernel
theorem dX4_narrowed_18 : decode cX4_narrowed 18 = .ok (.ireturn, 1) := by decide +kernel
set_option maxRecDepth 20000 in
theorem ggX5_init_X2_init : GoodIn wsX5_init wsX2_init := goodIn_r _ [27, 28, 2, 3, 29, 30, 31, 32, 33, 34, 35, 36, 37, 38, 39, 40, 71, 72, 73, 74, 75, 76, 77, 78, 79, 80, 81, 82, 83] (by decide +kernel) (by decide +kernel)
set_option maxRecDepth 20000 in
theorem gX5_init_X2_init_n9 : GoodIn wsX5_init (wsX2_init) := ggX5_init_X2_init
set_option maxRecDepth 20000 in
theorem ggX5_init_X4_init : GoodIn wsX5_init wsX4_init := goodIn_r _ [43, 44, 2, 3, 29, 45, 46, 47, 48, 49, 50, 51, 52, 91, 92, 93, 94] (by decide +kernel) (by decide +kernel)
set_option maxRecDepth 20000 in
theorem gX5_init_X4_init : GoodIn wsX5_init (wsX4_init) := ggX5_init_X4_init
set_option maxRecDepth 20000 in
theorem ggX5_init_X3_init : GoodIn wsX5_init wsX3_init := goodIn_r _ [54, 55, 2, 3, 29, 56, 95] (by decide +kernel) (by decide +kernel)
set_option maxRecDepth 20000 in
theorem gX5_init_X3_init_n25 : GoodIn wsX5_init (wsX3_init) := ggX5_init_X3_init
set_option maxRecDepth 20000 in
theorem ggX5_init_X0_init : GoodIn wsX5_init wsX0_init := goodIn_r _ [58, 59, 2, 3, 60, 61, 62, 63, 29, 64, 65, 96, 97, 98, 99, 100, 101, 102, 103, 104] (by decide +kernel) (by decide +kernel)
set_option maxRecDepth 20000 in
theorem gX5_init_X0_init_n32 : GoodIn wsX5_init (wsX0_init) := ggX5_init_X0_init
set_option maxRecDepth 20000 in
theorem ggX5_init_X1_init : GoodIn wsX5_init wsX1_init := goodIn_r _ [67, 68, 2, 3, 29, 69, 70, 105, 106, 107] (by decide +kernel) (by decide +kernel)
set_option maxRecDepth 20000 in
theorem gX5_init_X1_init_n39 : GoodIn wsX5_init (wsX1_init) := ggX5_init_X1_init
theorem dX5_init_0 : decode cX5_init 0 = .ok (.aload_n 0, 1) := by decide +kernel
theorem dX5_init_1 : decode cX5_init 1 = .ok (.invokespecial 1, 3) := by decide +kernel
theorem dX5_init_4 : decode cX5_init 4 = .ok (.aload_n 0, 1) := by decide +kernel
theorem dX5_init_5 : decode cX5_init 5 = .ok (.new 7, 3) := by decide +kernel
theorem dX5_init_8 : decode cX5_init 8 = .ok (.dup, 1) := by decide +kernel
theorem dX5_init_9 : decode cX5_init 9 = .ok (.invokespecial 9, 3) := by decide +kernel
theorem dX5_init_12 : decode cX5_init 12 = .ok (.putfield 10, 3) := by decide +kernel
theorem dX5_init_15 : decode cX5_init 15 = .ok (.aload_n 0, 1) := by decide +kernel
theorem dX5_init_16 : decode cX5_init 16 = .ok (.new 16, 3) := by decide +kernel
theorem dX5_init_19 : decode cX5_init 19 = .ok (.dup, 1) := by decide +kernel
theorem dX5_init_20 : decode cX5_init 20 = .ok (.invokespecial 18, 3) := by decide +kernel
theorem dX5_init_23 : decode cX5_init 23 = .ok (.putfield 19, 3) := by decide +kernel
theorem dX5_init_26 : decode cX5_init 26 = .ok (.aload_n 0, 1) := by decide +kernel
theorem dX5_init_27 : decode cX5_init 27 = .ok (.new 23, 3) := by decide +kernel
theorem dX5_init_30 : decode cX5_init 30 = .ok (.dup, 1) := by decide +kernel
theorem dX5_init_31 : decode cX5_init 31 = .ok (.invokespecial 25, 3) := by decide +kernel
theorem dX5_init_34 : decode cX5_init 34 = .ok (.putfield 26, 3) := by decide +kernel
theorem dX5_init_37 : decode cX5_init 37 = .ok (.aload_n 0, 1) := by decide +kernel
theorem dX5_init_38 : decode cX5_init 38 = .ok (.new 30, 3) := by decide +kernel
theorem dX5_init_41 : decode cX5_init 41 = .ok (.dup, 1) := by decide +kernel
theorem dX5_init_42 : decode cX5_init 42 = .ok (.invokespecial 32, 3) := by decide +kernel
theorem dX5_init_45 : decode cX5_init 45 = .ok (.putfield 33, 3) := by decide +kernel
theorem dX5_init_48 : decode cX5_init 48 = .ok (.aload_n 0, 1) := by decide +kernel
theorem dX5_init_49 : decode cX5_init 49 = .ok (.new 37, 3) := by decide +kernel
theorem dX5_init_52 : decode cX5_init 52 = .ok (.dup, 1) := by decide +kernel
theorem dX5_init_53 : decode cX5_init 53 = .ok (.invokespecial 39, 3) := by decide +kernel
theorem dX5_init_56 : decode cX5_init 56 = .ok (.putfield 40, 3) := by decide +kernel
theorem dX5_init_59 : decode cX5_init 59 = .ok (.aload_n 0, 1) := by decide +kernel
theorem dX5_init_60 : decode cX5_init 60 = .ok (.bipush 8, 2) := by decide +kernel
theorem dX5_init_62 : decode cX5_init 62 = .ok (.putfield 44, 3) := by decide +kernel
theorem dX5_init_65 : decode cX5_init 65 = .ok (.aload_n 0, 1) := by decide +kernel
theorem dX5_init_66 : decode cX5_init 66 = .ok (.iconst 1, 1) := by decide +kernel
theorem dX5_init_67 : decode cX5_init 67 = .ok (.putfield 48, 3) := by decide +kernel
theorem dX5_init_70 : decode cX5_init 70 = .ok (.return_, 1) := by decide +kernel
set_option maxRecDepth 20000 in
theorem ggX5_node_X2_fits : GoodIn wsX5_node wsX2_fits := goodIn_r _ [7, 8, 9, 10, 6, 11, 12, 32, 33, 34, 35, 36, 37, 38, 39, 40, 41, 42, 43, 44] (by decide +kernel) (by decide +kernel)
set_option maxRecDepth 20000 in
theorem gX5_node_X2_fits : GoodIn wsX5_node (wsV RX5 51 RX2 yX2_fits wsX2_fits) := goodIn_app (goodIn_of _ (by decide +kernel)) ggX5_node_X2_fits
set_option maxRecDepth 20000 in
theorem ggX5_node_X2_append : GoodIn wsX5_node wsX2_append := goodIn_r _ [16, 12, 17, 18, 19, 20, 21, 22, 23, 24, 32, 33, 34, 35, 36, 37, 38, 39, 40, 41, 42, 43, 44] (by decide +kernel) (by decide +kernel)
set_option maxRecDepth 20000 in
theorem gX5_node_X2_append : GoodIn wsX5_node (wsV RX5 58 RX2 yX2_append wsX2_append) := goodIn_app (goodIn_of _ (by decide +kernel)) ggX5_node_X2_append
theorem dX5_node_0 : decode cX5_node 0 = .ok (.aload_n 0, 1) := by decide +kernel
theorem dX5_node_1 : decode cX5_node 1 = .ok (.getfield 10, 3) := by decide +kernel
theorem dX5_node_4 : decode cX5_node 4 = .ok (.iload_n 1, 1) := by decide +kernel
theorem dX5_node_5 : decode cX5_node 5 = .ok (.iload_n 2, 1) := by decide +kernel
theorem dX5_node_6 : decode cX5_node 6 = .ok (.iload_n 3, 1) := by decide +kernel
theorem dX5_node_7 : decode cX5_node 7 = .ok (.invokevirtual 51, 3) := by decide +kernel
theorem dX5_node_10 : decode cX5_node 10 = .ok (.ifCond .ne 6, 3) := by decide +kernel
theorem dX5_node_13 : decode cX5_node 13 = .ok (.bipush (-2), 2) := by decide +kernel
theorem dX5_node_15 : decode cX5_node 15 = .ok (.ireturn, 1) := by decide +kernel
theorem dX5_node_16 : decode cX5_node 16 = .ok (.aload_n 0, 1) := by decide +kernel
theorem dX5_node_17 : decode cX5_node 17 = .ok (.getfield 10, 3) := by decide +kernel
theorem dX5_node_20 : decode cX5_node 20 = .ok (.getfield 55, 3) := by decide +kernel
theorem dX5_node_23 : decode cX5_node 23 = .ok (.bipush 24, 2) := by decide +kernel
theorem dX5_node_25 : decode cX5_node 25 = .ok (.if_icmp .lt 6, 3) := by decide +kernel
theorem dX5_node_28 : decode cX5_node 28 = .ok (.bipush (-4), 2) := by decide +kernel
theorem dX5_node_30 : decode cX5_node 30 = .ok (.ireturn, 1) := by decide +kernel
theorem dX5_node_31 : decode cX5_node 31 = .ok (.aload_n 0, 1) := by decide +kernel
theorem dX5_node_32 : decode cX5_node 32 = .ok (.getfield 10, 3) := by decide +kernel
theorem dX5_node_35 : decode cX5_node 35 = .ok (.iload_n 1, 1) := by decide +kernel
theorem dX5_node_36 : decode cX5_node 36 = .ok (.iload_n 2, 1) := by decide +kernel
theorem dX5_node_37 : decode cX5_node 37 = .ok (.iload_n 3, 1) := by decide +kernel
theorem dX5_node_38 : decode cX5_node 38 = .ok (.invokevirtual 58, 3) := by decide +kernel
theorem dX5_node_41 : decode cX5_node 41 = .ok (.ireturn, 1) := by decide +kernel
set_option maxRecDepth 20000 in
theorem ggX5_feed_X2_isStore : GoodIn wsX5_feed wsX2_isStore := goodIn_r _ [7, 8, 9, 10, 11, 6, 12, 13, 22, 23, 24, 25, 26, 27, 28, 29, 30, 31, 32, 33, 34] (by decide +kernel) (by decide +kernel)
set_option maxRecDepth 20000 in
theorem gX5_feed_X2_isStore : GoodIn wsX5_feed (wsV RX5 62 RX2 yX2_isStore wsX2_isStore) := goodIn_app (goodIn_of _ (by decide +kernel)) ggX5_feed_X2_isStore
set_option maxRecDepth 20000 in
theorem ggX5_feed_X2_isNode : GoodIn wsX5_feed wsX2_isNode := goodIn_r _ [12, 13, 22, 23, 24, 25, 26, 27, 28, 29, 30, 31, 32, 33, 34] (by decide +kernel) (by decide +kernel)
set_option maxRecDepth 20000 in
theorem gX5_feed_X2_isNode : GoodIn wsX5_feed (wsV RX5 66 RX2 yX2_isNode wsX2_isNode) := goodIn_app (goodIn_of _ (by decide +kernel)) ggX5_feed_X2_isNode
theorem dX5_feed_0 : decode cX5_feed 0 = .ok (.aload_n 0, 1) := by decide +kernel
theorem dX5_feed_1 : decode cX5_feed 1 = .ok (.getfield 10, 3) := by decide +kernel
theorem dX5_feed_4 : decode cX5_feed 4 = .ok (.iload_n 1, 1) := by decide +kernel
theorem dX5_feed_5 : decode cX5_feed 5 = .ok (.invokevirtual 62, 3) := by decide +kernel
theorem dX5_feed_8 : decode cX5_feed 8 = .ok (.ifCond .eq 14, 3) := by decide +kernel
theorem dX5_feed_11 : decode cX5_feed 11 = .ok (.aload_n 0, 1) := by decide +kernel
theorem dX5_feed_12 : decode cX5_feed 12 = .ok (.getfield 10, 3) := by decide +kernel
theorem dX5_feed_15 : decode cX5_feed 15 = .ok (.iload_n 2, 1) := by decide +kernel
theorem dX5_feed_16 : decode cX5_feed 16 = .ok (.invokevirtual 66, 3) := by decide +kernel
theorem dX5_feed_19 : decode cX5_feed 19 = .ok (.ifCond .ne 6, 3) := by decide +kernel
theorem dX5_feed_22 : decode cX5_feed 22 = .ok (.bipush (-2), 2) := by decide +kernel
theorem dX5_feed_24 : decode cX5_feed 24 = .ok (.ireturn, 1) := by decide +kernel
theorem dX5_feed_25 : decode cX5_feed 25 = .ok (.aload_n 0, 1) := by decide +kernel
theorem dX5_feed_26 : decode cX5_feed 26 = .ok (.getfield 10, 3) := by decide +kernel
theorem dX5_feed_29 : decode cX5_feed 29 = .ok (.getfield 69, 3) := by decide +kernel
theorem dX5_feed_32 : decode cX5_feed 32 = .ok (.iload_n 1, 1) := by decide +kernel
theorem dX5_feed_33 : decode cX5_feed 33 = .ok (.iaload, 1) := by decide +kernel
theorem dX5_feed_34 : decode cX5_feed 34 = .ok (.istore_n 3, 1) := by decide +kernel
theorem dX5_feed_35 : decode cX5_feed 35 = .ok (.aload_n 0, 1) := by decide +kernel
theorem dX5_feed_36 : decode cX5_feed 36 = .ok (.getfield 10, 3) := by decide +kernel
theorem dX5_feed_39 : decode cX5_feed 39 = .ok (.getfield 69, 3) := by decide +kernel
theorem dX5_feed_42 : decode cX5_feed 42 = .ok (.iload_n 1, 1) := by decide +kernel
theorem dX5_feed_43 : decode cX5_feed 43 = .ok (.iload_n 2, 1) := by decide +kernel
theorem dX5_feed_44 : decode cX5_feed 44 = .ok (.iastore, 1) := by decide +kernel
theorem dX5_feed_45 : decode cX5_feed 45 = .ok (.iload_n 3, 1) := by decide +kernel
theorem dX5_feed_46 : decode cX5_feed 46 = .ok (.ireturn, 1) := by decide +kernel
set_option maxRecDepth 20000 in
theorem ggX5_output_X2_isNode : GoodIn wsX5_output wsX2_isNode := goodIn_r _ [7, 8, 16, 17, 18, 19, 20, 21, 22, 23, 24, 25, 26, 27, 28] (by decide +kernel) (by decide +kernel)
set_option maxRecDepth 20000 in
theorem gX5_output_X2_isNode : GoodIn wsX5_output (wsV RX5 66 RX2 yX2_isNode wsX2_isNode) := goodIn_app (goodIn_of _ (by decide +kernel)) ggX5_output_X2_isNode
theorem dX5_output_0 : decode cX5_output 0 = .ok (.aload_n 0, 1) := by decide +kernel
theorem dX5_output_1 : decode cX5_output 1 = .ok (.getfield 10, 3) := by decide +kernel
theorem dX5_output_4 : decode cX5_output 4 = .ok (.iload_n 1, 1) := by decide +kernel
theorem dX5_output_5 : decode cX5_output 5 = .ok (.invokevirtual 66, 3) := by decide +kernel
theorem dX5_output_8 : decode cX5_output 8 = .ok (.ifCond .ne 6, 3) := by decide +kernel
theorem dX5_output_11 : decode cX5_output 11 = .ok (.bipush (-2), 2) := by decide +kernel
theorem dX5_output_13 : decode cX5_output 13 = .ok (.ireturn, 1) := by decide +kernel
theorem dX5_output_14 : decode cX5_output 14 = .ok (.aload_n 0, 1) := by decide +kernel
theorem dX5_output_15 : decode cX5_output 15 = .ok (.getfield 10, 3) := by decide +kernel
theorem dX5_output_18 : decode cX5_output 18 = .ok (.getfield 73, 3) := by decide +kernel
theorem dX5_output_21 : decode cX5_output 21 = .ok (.iload_n 1, 1) := by decide +kernel
theorem dX5_output_22 : decode cX5_output 22 = .ok (.iload_n 2, 1) := by decide +kernel
theorem dX5_output_23 : decode cX5_output 23 = .ok (.bastore, 1) := by decide +kernel
theorem dX5_output_24 : decode cX5_output 24 = .ok (.iconst 1, 1) := by decide +kernel
theorem dX5_output_25 : decode cX5_output 25 = .ok (.ireturn, 1) := by decide +kernel
set_option maxRecDepth 20000 in
theorem ggX5_price_X2_isNode : GoodIn wsX5_price wsX2_isNode := goodIn_r _ [7, 8, 20, 21, 22, 23, 24, 25, 26, 27, 28, 29, 30, 31, 32] (by decide +kernel) (by decide +kernel)
set_option maxRecDepth 20000 in
theorem gX5_price_X2_isNode : GoodIn wsX5_price (wsV RX5 66 RX2 yX2_isNode wsX2_isNode) := goodIn_app (goodIn_of _ (by decide +kernel)) ggX5_price_X2_isNode
set_option maxRecDepth 20000 in
theorem ggX5_price_X5_isPrice : GoodIn wsX5_price wsX5_isPrice := goodIn_r _ [12] (by decide +kernel) (by decide +kernel)
set_option maxRecDepth 20000 in
theorem gX5_price_X5_isPrice : GoodIn wsX5_price (va_wsS RX5 77 yX5_isPrice wsX5_isPrice) := goodIn_app (goodIn_of _ (by decide +kernel)) ggX5_price_X5_isPrice
theorem dX5_price_0 : decode cX5_price 0 = .ok (.aload_n 0, 1) := by decide +kernel
theorem dX5_price_1 : decode cX5_price 1 = .ok (.getfield 10, 3) := by decide +kernel
theorem dX5_price_4 : decode cX5_price 4 = .ok (.iload_n 1, 1) := by decide +kernel
theorem dX5_price_5 : decode cX5_price 5 = .ok (.invokevirtual 66, 3) := by decide +kernel
theorem dX5_price_8 : decode cX5_price 8 = .ok (.ifCond .eq 10, 3) := by decide +kernel
theorem dX5_price_11 : decode cX5_price 11 = .ok (.iload_n 2, 1) := by decide +kernel
theorem dX5_price_12 : decode cX5_price 12 = .ok (.invokestatic 77, 3) := by decide +kernel
theorem dX5_price_15 : decode cX5_price 15 = .ok (.ifCond .ne 6, 3) := by decide +kernel
theorem dX5_price_18 : decode cX5_price 18 = .ok (.bipush (-2), 2) := by decide +kernel
theorem dX5_price_20 : decode cX5_price 20 = .ok (.ireturn, 1) := by decide +kernel
theorem dX5_price_21 : decode cX5_price 21 = .ok (.aload_n 0, 1) := by decide +kernel
theorem dX5_price_22 : decode cX5_price 22 = .ok (.getfield 10, 3) := by decide +kernel
theorem dX5_price_25 : decode cX5_price 25 = .ok (.getfield 80, 3) := by decide +kernel
theorem dX5_price_28 : decode cX5_price 28 = .ok (.iload_n 1, 1) := by decide +kernel
theorem dX5_price_29 : decode cX5_price 29 = .ok (.iaload, 1) := by decide +kernel
theorem dX5_price_30 : decode cX5_price 30 = .ok (.istore_n 3, 1) := by decide +kernel
theorem dX5_price_31 : decode cX5_price 31 = .ok (.aload_n 0, 1) := by decide +kernel
theorem dX5_price_32 : decode cX5_price 32 = .ok (.getfield 10, 3) := by decide +kernel
theorem dX5_price_35 : decode cX5_price 35 = .ok (.getfield 80, 3) := by decide +kernel
theorem dX5_price_38 : decode cX5_price 38 = .ok (.iload_n 1, 1) := by decide +kernel
theorem dX5_price_39 : decode cX5_price 39 = .ok (.iload_n 2, 1) := by decide +kernel
theorem dX5_price_40 : decode cX5_price 40 = .ok (.iastore, 1) := by decide +kernel
theorem dX5_price_41 : decode cX5_price 41 = .ok (.iload_n 3, 1) := by decide +kernel
theorem dX5_price_42 : decode cX5_price 42 = .ok (.ireturn, 1) := by decide +kernel
set_option maxRecDepth 20000 in
theorem ggX5_about_X2_isNode : GoodIn wsX5_about wsX2_isNode := goodIn_r _ [6, 7, 27, 28, 29, 30, 31, 32, 33, 34, 35, 36, 37, 38, 39] (by decide +kernel) (by decide +kernel)
set_option maxRecDepth 20000 in
theorem gX5_about_X2_isNode : GoodIn wsX5_about (wsV RX5 66 RX2 yX2_isNode wsX2_isNode) := goodIn_app (goodIn_of _ (by decide +kernel)) ggX5_about_X2_isNode
set_option maxRecDepth 20000 in
theorem ggX5_about_X2_fact : GoodIn wsX5_about wsX2_fact := goodIn_r _ [11, 12, 13, 14, 15, 16, 17, 18, 19, 27, 28, 29, 30, 31, 32, 33, 34, 35, 36, 37, 38, 39] (by decide +kernel) (by decide +kernel)
set_option maxRecDepth 20000 in
theorem gX5_about_X2_fact : GoodIn wsX5_about (wsV RX5 83 RX2 yX2_fact wsX2_fact) := goodIn_app (goodIn_of _ (by decide +kernel)) ggX5_about_X2_fact
theorem dX5_about_0 : decode cX5_about 0 = .ok (.aload_n 0, 1) := by decide +kernel
theorem dX5_about_1 : decode cX5_about 1 = .ok (.getfield 10, 3) := by decide +kernel
theorem dX5_about_4 : decode cX5_about 4 = .ok (.iload_n 1, 1) := by decide +kernel
theorem dX5_about_5 : decode cX5_about 5 = .ok (.invokevirtual 66, 3) := by decide +kernel
theorem dX5_about_8 : decode cX5_about 8 = .ok (.ifCond .ne 6, 3) := by decide +kernel
theorem dX5_about_11 : decode cX5_about 11 = .ok (.bipush (-2), 2) := by decide +kernel
theorem dX5_about_13 : decode cX5_about 13 = .ok (.ireturn, 1) := by decide +kernel
theorem dX5_about_14 : decode cX5_about 14 = .ok (.aload_n 0, 1) := by decide +kernel
theorem dX5_about_15 : decode cX5_about 15 = .ok (.getfield 10, 3) := by decide +kernel
theorem dX5_about_18 : decode cX5_about 18 = .ok (.iload_n 1, 1) := by decide +kernel
theorem dX5_about_19 : decode cX5_about 19 = .ok (.iload_n 2, 1) := by decide +kernel
theorem dX5_about_20 : decode cX5_about 20 = .ok (.invokevirtual 83, 3) := by decide +kernel
theorem dX5_about_23 : decode cX5_about 23 = .ok (.ireturn, 1) := by decide +kernel
set_option maxRecDepth 20000 in
theorem ggX5_thrice_X2_isNode : GoodIn wsX5_thrice wsX2_isNode := goodIn_r _ [8, 9, 17, 18, 19, 20, 21, 22, 23, 24, 25, 26, 27, 28, 29] (by decide +kernel) (by decide +kernel)
set_option maxRecDepth 20000 in
theorem gX5_thrice_X2_isNode : GoodIn wsX5_thrice (wsV RX5 66 RX2 yX2_isNode wsX2_isNode) := goodIn_app (goodIn_of _ (by decide +kernel)) ggX5_thrice_X2_isNode
theorem dX5_thrice_0 : decode cX5_thrice 0 = .ok (.aload_n 0, 1) := by decide +kernel
theorem dX5_thrice_1 : decode cX5_thrice 1 = .ok (.getfield 10, 3) := by decide +kernel
theorem dX5_thrice_4 : decode cX5_thrice 4 = .ok (.iload_n 1, 1) := by decide +kernel
theorem dX5_thrice_5 : decode cX5_thrice 5 = .ok (.invokevirtual 66, 3) := by decide +kernel
theorem dX5_thrice_8 : decode cX5_thrice 8 = .ok (.ifCond .ne 6, 3) := by decide +kernel
theorem dX5_thrice_11 : decode cX5_thrice 11 = .ok (.bipush (-2), 2) := by decide +kernel
theorem dX5_thrice_13 : decode cX5_thrice 13 = .ok (.ireturn, 1) := by decide +kernel
theorem dX5_thrice_14 : decode cX5_thrice 14 = .ok (.aload_n 0, 1) := by decide +kernel
theorem dX5_thrice_15 : decode cX5_thrice 15 = .ok (.getfield 10, 3) := by decide +kernel
theorem dX5_thrice_18 : decode cX5_thrice 18 = .ok (.getfield 87, 3) := by decide +kernel
theorem dX5_thrice_21 : decode cX5_thrice 21 = .ok (.iload_n 1, 1) := by decide +kernel
theorem dX5_thrice_22 : decode cX5_thrice 22 = .ok (.baload, 1) := by decide +kernel
theorem dX5_thrice_23 : decode cX5_thrice 23 = .ok (.iload_n 2, 1) := by decide +kernel
theorem dX5_thrice_24 : decode cX5_thrice 24 = .ok (.if_icmp .ne 5, 3) := by decide +kernel
theorem dX5_thrice_27 : decode cX5_thrice 27 = .ok (.iconst 0, 1) := by decide +kernel
theorem dX5_thrice_28 : decode cX5_thrice 28 = .ok (.ireturn, 1) := by decide +kernel
theorem dX5_thrice_29 : decode cX5_thrice 29 = .ok (.aload_n 0, 1) := by decide +kernel
theorem dX5_thrice_30 : decode cX5_thrice 30 = .ok (.getfield 10, 3) := by decide +kernel
theorem dX5_thrice_33 : decode cX5_thrice 33 = .ok (.getfield 87, 3) := by decide +kernel
theorem dX5_thrice_36 : decode cX5_thrice 36 = .ok (.iload_n 1, 1) := by decide +kernel
theorem dX5_thrice_37 : decode cX5_thrice 37 = .ok (.iload_n 2, 1) := by decide +kernel
theorem dX5_thrice_38 : decode cX5_thrice 38 = .ok (.bastore, 1) := by decide +kernel
theorem dX5_thrice_39 : decode cX5_thrice 39 = .ok (.aload_n 0, 1) := by decide +kernel
theorem dX5_thrice_40 : decode cX5_thrice 40 = .ok (.getfield 10, 3) := by decide +kernel
theorem dX5_thrice_43 : decode cX5_thrice 43 = .ok (.getfield 90, 3) := by decide +kernel
theorem dX5_thrice_46 : decode cX5_thrice 46 = .ok (.iload_n 1, 1) := by decide +kernel
theorem dX5_thrice_47 : decode cX5_thrice 47 = .ok (.iconst 0, 1) := by decide +kernel
theorem dX5_thrice_48 : decode cX5_thrice 48 = .ok (.bastore, 1) := by decide +kernel
theorem dX5_thrice_49 : decode cX5_thrice 49 = .ok (.iconst 1, 1) := by decide +kernel
theorem dX5_thrice_50 : decode cX5_thrice 50 = .ok (.ireturn, 1) := by decide +kernel
set_option maxRecDepth 20000 in
theorem ggX5_vote_X2_isStore : GoodIn wsX5_vote wsX2_isStore := goodIn_r _ [8, 9, 10, 11, 12, 7, 13, 14, 22, 23, 24, 25, 26, 27, 28, 29, 30, 31, 32, 33, 34] (by decide +kernel) (by decide +kernel)
set_option maxRecDepth 20000 in
theorem gX5_vote_X2_isStore : GoodIn wsX5_vote (wsV RX5 62 RX2 yX2_isStore wsX2_isStore) := goodIn_app (goodIn_of _ (by decide +kernel)) ggX5_vote_X2_isStore
theorem dX5_vote_0 : decode cX5_vote 0 = .ok (.aload_n 0, 1) := by decide +kernel
theorem dX5_vote_1 : decode cX5_vote 1 = .ok (.getfield 10, 3) := by decide +kernel
theorem dX5_vote_4 : decode cX5_vote 4 = .ok (.iload_n 1, 1) := by decide +kernel
theorem dX5_vote_5 : decode cX5_vote 5 = .ok (.invokevirtual 62, 3) := by decide +kernel
theorem dX5_vote_8 : decode cX5_vote 8 = .ok (.ifCond .ne 6, 3) := by decide +kernel
theorem dX5_vote_11 : decode cX5_vote 11 = .ok (.bipush (-2), 2) := by decide +kernel
theorem dX5_vote_13 : decode cX5_vote 13 = .ok (.ireturn, 1) := by decide +kernel
theorem dX5_vote_14 : decode cX5_vote 14 = .ok (.aload_n 0, 1) := by decide +kernel
theorem dX5_vote_15 : decode cX5_vote 15 = .ok (.getfield 10, 3) := by decide +kernel
theorem dX5_vote_18 : decode cX5_vote 18 = .ok (.getfield 87, 3) := by decide +kernel
theorem dX5_vote_21 : decode cX5_vote 21 = .ok (.iload_n 1, 1) := by decide +kernel
theorem dX5_vote_22 : decode cX5_vote 22 = .ok (.baload, 1) := by decide +kernel
theorem dX5_vote_23 : decode cX5_vote 23 = .ok (.ifCond .ne 6, 3) := by decide +kernel
theorem dX5_vote_26 : decode cX5_vote 26 = .ok (.bipush (-3), 2) := by decide +kernel
theorem dX5_vote_28 : decode cX5_vote 28 = .ok (.ireturn, 1) := by decide +kernel
theorem dX5_vote_29 : decode cX5_vote 29 = .ok (.aload_n 0, 1) := by decide +kernel
theorem dX5_vote_30 : decode cX5_vote 30 = .ok (.getfield 10, 3) := by decide +kernel
theorem dX5_vote_33 : decode cX5_vote 33 = .ok (.getfield 90, 3) := by decide +kernel
theorem dX5_vote_36 : decode cX5_vote 36 = .ok (.iload_n 1, 1) := by decide +kernel
theorem dX5_vote_37 : decode cX5_vote 37 = .ok (.baload, 1) := by decide +kernel
theorem dX5_vote_38 : decode cX5_vote 38 = .ok (.iload_n 2, 1) := by decide +kernel
theorem dX5_vote_39 : decode cX5_vote 39 = .ok (.if_icmp .ne 5, 3) := by decide +kernel
theorem dX5_vote_42 : decode cX5_vote 42 = .ok (.iconst 0, 1) := by decide +kernel
theorem dX5_vote_43 : decode cX5_vote 43 = .ok (.ireturn, 1) := by decide +kernel
theorem dX5_vote_44 : decode cX5_vote 44 = .ok (.aload_n 0, 1) := by decide +kernel
theorem dX5_vote_45 : decode cX5_vote 45 = .ok (.getfield 10, 3) := by decide +kernel
theorem dX5_vote_48 : decode cX5_vote 48 = .ok (.getfield 90, 3) := by decide +kernel
theorem dX5_vote_51 : decode cX5_vote 51 = .ok (.iload_n 1, 1) := by decide +kernel
theorem dX5_vote_52 : decode cX5_vote 52 = .ok (.iload_n 2, 1) := by decide +kernel
theorem dX5_vote_53 : decode cX5_vote 53 = .ok (.bastore, 1) := by decide +kernel
theorem dX5_vote_54 : decode cX5_vote 54 = .ok (.iconst 1, 1) := by decide +kernel
theorem dX5_vote_55 : decode cX5_vote 55 = .ok (.ireturn, 1) := by decide +kernel
theorem dX5_ticks_0 : decode cX5_ticks 0 = .ok (.iload_n 1, 1) := by decide +kernel
theorem dX5_ticks_1 : decode cX5_ticks 1 = .ok (.iconst 1, 1) := by decide +kernel
theorem dX5_ticks_2 : decode cX5_ticks 2 = .ok (.if_icmp .lt 9, 3) := by decide +kernel
theorem dX5_ticks_5 : decode cX5_ticks 5 = .ok (.iload_n 1, 1) := by decide +kernel
theorem dX5_ticks_6 : decode cX5_ticks 6 = .ok (.bipush 16, 2) := by decide +kernel
theorem dX5_ticks_8 : decode cX5_ticks 8 = .ok (.if_icmp .le 6, 3) := by decide +kernel
theorem dX5_ticks_11 : decode cX5_ticks 11 = .ok (.bipush (-2), 2) := by decide +kernel
theorem dX5_ticks_13 : decode cX5_ticks 13 = .ok (.ireturn, 1) := by decide +kernel
theorem dX5_ticks_14 : decode cX5_ticks 14 = .ok (.aload_n 0, 1) := by decide +kernel
theorem dX5_ticks_15 : decode cX5_ticks 15 = .ok (.getfield 44, 3) := by decide +kernel
theorem dX5_ticks_18 : decode cX5_ticks 18 = .ok (.istore_n 2, 1) := by decide +kernel
theorem dX5_ticks_19 : decode cX5_ticks 19 = .ok (.aload_n 0, 1) := by decide +kernel
theorem dX5_ticks_20 : decode cX5_ticks 20 = .ok (.iload_n 1, 1) := by decide +kernel
theorem dX5_ticks_21 : decode cX5_ticks 21 = .ok (.putfield 44, 3) := by decide +kernel
theorem dX5_ticks_24 : decode cX5_ticks 24 = .ok (.iload_n 2, 1) := by decide +kernel
theorem dX5_ticks_25 : decode cX5_ticks 25 = .ok (.ireturn, 1) := by decide +kernel
set_option maxRecDepth 20000 in
theorem ggX5_plain_X2_isNode : GoodIn wsX5_plain wsX2_isNode := goodIn_r _ [8, 9, 51, 52, 53, 54, 55, 56, 57, 58, 59, 60, 61, 62, 63] (by decide +kernel) (by decide +kernel)
set_option maxRecDepth 20000 in
theorem gX5_plain_X2_isNode : GoodIn wsX5_plain (wsV RX5 66 RX2 yX2_isNode wsX2_isNode) := goodIn_app (goodIn_of _ (by decide +kernel)) ggX5_plain_X2_isNode
set_option maxRecDepth 20000 in
theorem ggX5_plain_X3_work : GoodIn wsX5_plain wsX3_work := goodIn_r _ [14, 15, 16, 17, 18, 19, 20, 21, 22, 23, 24, 25, 26, 27, 28, 29, 30, 31, 32, 13, 33, 34, 35, 36, 37, 38, 39, 40, 7, 41, 42, 64, 51, 52, 53, 54, 55, 56, 57, 58, 59, 60, 61, 62, 63, 65, 66, 67, 68] (by decide +kernel) (by decide +kernel)
set_option maxRecDepth 20000 in
theorem gX5_plain_X3_work : GoodIn wsX5_plain (wsV RX5 93 RX3 yX3_work wsX3_work) := goodIn_app (goodIn_of _ (by decide +kernel)) ggX5_plain_X3_work
set_option maxRecDepth 20000 in
theorem ggX5_plain_X3_bit : GoodIn wsX5_plain wsX3_bit := goodIn_r _ [38, 15, 64] (by decide +kernel) (by decide +kernel)
set_option maxRecDepth 20000 in
theorem gX5_plain_X3_bit : GoodIn wsX5_plain (wsV RX5 97 RX3 yX3_bit wsX3_bit) := goodIn_app (goodIn_of _ (by decide +kernel)) ggX5_plain_X3_bit
theorem dX5_plain_0 : decode cX5_plain 0 = .ok (.aload_n 0, 1) := by decide +kernel
theorem dX5_plain_1 : decode cX5_plain 1 = .ok (.getfield 10, 3) := by decide +kernel
theorem dX5_plain_4 : decode cX5_plain 4 = .ok (.iload_n 1, 1) := by decide +kernel
theorem dX5_plain_5 : decode cX5_plain 5 = .ok (.invokevirtual 66, 3) := by decide +kernel
theorem dX5_plain_8 : decode cX5_plain 8 = .ok (.ifCond .eq 13, 3) := by decide +kernel
theorem dX5_plain_11 : decode cX5_plain 11 = .ok (.iload_n 2, 1) := by decide +kernel
theorem dX5_plain_12 : decode cX5_plain 12 = .ok (.ifCond .lt 9, 3) := by decide +kernel
theorem dX5_plain_15 : decode cX5_plain 15 = .ok (.iload_n 2, 1) := by decide +kernel
theorem dX5_plain_16 : decode cX5_plain 16 = .ok (.bipush 16, 2) := by decide +kernel
theorem dX5_plain_18 : decode cX5_plain 18 = .ok (.if_icmp .lt 6, 3) := by decide +kernel
theorem dX5_plain_21 : decode cX5_plain 21 = .ok (.bipush (-2), 2) := by decide +kernel
theorem dX5_plain_23 : decode cX5_plain 23 = .ok (.ireturn, 1) := by decide +kernel
theorem dX5_plain_24 : decode cX5_plain 24 = .ok (.aload_n 0, 1) := by decide +kernel
theorem dX5_plain_25 : decode cX5_plain 25 = .ok (.getfield 26, 3) := by decide +kernel
theorem dX5_plain_28 : decode cX5_plain 28 = .ok (.aload_n 0, 1) := by decide +kernel
theorem dX5_plain_29 : decode cX5_plain 29 = .ok (.getfield 10, 3) := by decide +kernel
theorem dX5_plain_32 : decode cX5_plain 32 = .ok (.aload_n 0, 1) := by decide +kernel
theorem dX5_plain_33 : decode cX5_plain 33 = .ok (.getfield 19, 3) := by decide +kernel
theorem dX5_plain_36 : decode cX5_plain 36 = .ok (.invokevirtual 93, 3) := by decide +kernel
theorem dX5_plain_39 : decode cX5_plain 39 = .ok (.aload_n 0, 1) := by decide +kernel
theorem dX5_plain_40 : decode cX5_plain 40 = .ok (.getfield 26, 3) := by decide +kernel
theorem dX5_plain_43 : decode cX5_plain 43 = .ok (.iload_n 1, 1) := by decide +kernel
theorem dX5_plain_44 : decode cX5_plain 44 = .ok (.iload_n 2, 1) := by decide +kernel
theorem dX5_plain_45 : decode cX5_plain 45 = .ok (.invokevirtual 97, 3) := by decide +kernel
theorem dX5_plain_48 : decode cX5_plain 48 = .ok (.ireturn, 1) := by decide +kernel
set_option maxRecDepth 20000 in
theorem ggX5_copy_X2_isCopy : GoodIn wsX5_copy wsX2_isCopy := goodIn_r _ [6, 7, 8, 9, 5, 10, 11, 12, 13, 14, 15, 16, 66, 67, 68, 69, 70, 71, 72, 73, 74, 75, 76, 77, 78] (by decide +kernel) (by decide +kernel)
set_option maxRecDepth 20000 in
theorem gX5_copy_X2_isCopy : GoodIn wsX5_copy (wsV RX5 100 RX2 yX2_isCopy wsX2_isCopy) := goodIn_app (goodIn_of _ (by decide +kernel)) ggX5_copy_X2_isCopy
set_option maxRecDepth 20000 in
theorem ggX5_copy_X5_plain : GoodIn wsX5_copy wsX5_plain := goodIn_r _ [21, 1, 22, 23, 24, 8, 9, 5, 10, 11, 25, 26, 27, 28, 29, 30, 31, 32, 33, 34, 35, 36, 37, 38, 39, 40, 41, 42, 43, 44, 45, 46, 47, 48, 49, 50, 51, 52, 53, 54, 55, 56, 57, 58, 59, 60, 61, 62, 63, 64, 65, 66, 67, 68, 69, 70, 71, 72, 73, 74, 75, 76, 77, 78, 79, 80, 81, 82, 83] (by decide +kernel) (by decide +kernel)
set_option maxRecDepth 20000 in
theorem gX5_copy_X5_plain : GoodIn wsX5_copy (wsV RX5 104 RX5 yX5_plain wsX5_plain) := goodIn_app (goodIn_of _ (by decide +kernel)) ggX5_copy_X5_plain
theorem dX5_copy_0 : decode cX5_copy 0 = .ok (.aload_n 0, 1) := by decide +kernel
theorem dX5_copy_1 : decode cX5_copy 1 = .ok (.getfield 10, 3) := by decide +kernel
theorem dX5_copy_4 : decode cX5_copy 4 = .ok (.iload_n 1, 1) := by decide +kernel
theorem dX5_copy_5 : decode cX5_copy 5 = .ok (.iload_n 2, 1) := by decide +kernel
theorem dX5_copy_6 : decode cX5_copy 6 = .ok (.invokevirtual 100, 3) := by decide +kernel
theorem dX5_copy_9 : decode cX5_copy 9 = .ok (.ifCond .ne 6, 3) := by decide +kernel
theorem dX5_copy_12 : decode cX5_copy 12 = .ok (.bipush (-2), 2) := by decide +kernel
theorem dX5_copy_14 : decode cX5_copy 14 = .ok (.ireturn, 1) := by decide +kernel
theorem dX5_copy_15 : decode cX5_copy 15 = .ok (.aload_n 0, 1) := by decide +kernel
theorem dX5_copy_16 : decode cX5_copy 16 = .ok (.iload_n 1, 1) := by decide +kernel
theorem dX5_copy_17 : decode cX5_copy 17 = .ok (.iload_n 3, 1) := by decide +kernel
theorem dX5_copy_18 : decode cX5_copy 18 = .ok (.invokevirtual 104, 3) := by decide +kernel
theorem dX5_copy_21 : decode cX5_copy 21 = .ok (.ireturn, 1) := by decide +kernel
set_option maxRecDepth 20000 in
theorem ggX5_flip_X5_isFlip : GoodIn wsX5_flip wsX5_isFlip := goodIn_r _ [9, 2, 10, 11, 12, 8, 13, 4, 14, 15, 16, 17, 18, 19, 20, 21, 22, 23, 24, 25, 26, 27, 28, 142, 143, 144, 145, 146, 147, 148, 149, 150, 151, 152, 153, 154, 155, 156, 157, 158, 159, 160, 161] (by decide +kernel) (by decide +kernel)
set_option maxRecDepth 20000 in
theorem gX5_flip_X5_isFlip : GoodIn wsX5_flip (wsV RX5 107 RX5 yX5_isFlip wsX5_isFlip) := goodIn_app (goodIn_of _ (by decide +kernel)) ggX5_flip_X5_isFlip
set_option maxRecDepth 20000 in
theorem ggX5_flip_X5_startRuns : GoodIn wsX5_flip wsX5_startRuns := goodIn_r _ [32, 3, 2, 33, 1, 34, 35, 36, 37, 38, 39, 40, 41, 42, 43, 44, 45, 46, 47, 48, 49, 50, 51, 52, 53, 54, 55, 56, 57, 58, 59, 60, 61, 62, 63, 64, 17, 65, 66, 67, 68, 69, 70, 71, 72, 73, 74, 75, 76, 77, 78, 79, 80, 81, 82, 142, 143, 144, 145, 146, 147, 148, 162, 149, 150, 151, 152, 153, 154, 155, 156, 157, 158, 159, 160, 161, 163, 164, 165, 166, 167, 168, 169, 170, 171, 172, 173, 174, 175] (by decide +kernel) (by decide +kernel)
set_option maxRecDepth 20000 in
theorem gX5_flip_X5_startRuns : GoodIn wsX5_flip (wsV RX5 110 RX5 yX5_startRuns wsX5_startRuns) := goodIn_app (goodIn_of _ (by decide +kernel)) ggX5_flip_X5_startRuns
set_option maxRecDepth 20000 in
theorem ggX5_flip_X0_mark : GoodIn wsX5_flip wsX0_mark := goodIn_r _ [86, 87, 72, 74, 88, 149, 150, 151, 152, 153, 154, 155, 156, 157, 158, 159, 160, 161, 167, 168, 169, 170, 171, 172, 173, 174, 175] (by decide +kernel) (by decide +kernel)
set_option maxRecDepth 20000 in
theorem gX5_flip_X0_mark : GoodIn wsX5_flip (wsV RX5 113 RX0 yX0_mark wsX0_mark) := goodIn_app (goodIn_of _ (by decide +kernel)) ggX5_flip_X0_mark
set_option maxRecDepth 20000 in
theorem ggX5_flip_X0_runOne : GoodIn wsX5_flip wsX0_runOne := goodIn_r _ [92, 93, 94, 95, 70, 96, 97, 98, 99, 100, 101, 102, 103, 76, 77, 78, 79, 104, 105, 106, 107, 72, 108, 109, 110, 111, 87, 112, 113, 114, 115, 116, 37, 117, 39, 118, 64, 17, 65, 66, 119, 120, 121, 122, 123, 124, 125, 126, 127, 128, 129, 130, 131, 132, 133, 134, 135, 136, 137, 138, 139, 140, 141, 167, 168, 169, 170, 171, 172, 173, 174, 175, 149, 150, 151, 152, 153, 154, 155, 156, 157, 158, 159, 160, 161, 162] (by decide +kernel) (by decide +kernel)
set_option maxRecDepth 20000 in
theorem gX5_flip_X0_runOne : GoodIn wsX5_flip (wsV RX5 117 RX0 yX0_runOne wsX0_runOne) := goodIn_app (goodIn_of _ (by decide +kernel)) ggX5_flip_X0_runOne
theorem dX5_flip_0 : decode cX5_flip 0 = .ok (.aload_n 0, 1) := by decide +kernel
theorem dX5_flip_1 : decode cX5_flip 1 = .ok (.iload_n 1, 1) := by decide +kernel
theorem dX5_flip_2 : decode cX5_flip 2 = .ok (.iload_n 2, 1) := by decide +kernel
theorem dX5_flip_3 : decode cX5_flip 3 = .ok (.iload_n 3, 1) := by decide +kernel
theorem dX5_flip_4 : decode cX5_flip 4 = .ok (.invokevirtual 107, 3) := by decide +kernel
theorem dX5_flip_7 : decode cX5_flip 7 = .ok (.ifCond .ne 6, 3) := by decide +kernel
theorem dX5_flip_10 : decode cX5_flip 10 = .ok (.bipush (-2), 2) := by decide +kernel
theorem dX5_flip_12 : decode cX5_flip 12 = .ok (.ireturn, 1) := by decide +kernel
theorem dX5_flip_13 : decode cX5_flip 13 = .ok (.aload_n 0, 1) := by decide +kernel
theorem dX5_flip_14 : decode cX5_flip 14 = .ok (.invokevirtual 110, 3) := by decide +kernel
theorem dX5_flip_17 : decode cX5_flip 17 = .ok (.aload_n 0, 1) := by decide +kernel
theorem dX5_flip_18 : decode cX5_flip 18 = .ok (.getfield 33, 3) := by decide +kernel
theorem dX5_flip_21 : decode cX5_flip 21 = .ok (.aload_n 0, 1) := by decide +kernel
theorem dX5_flip_22 : decode cX5_flip 22 = .ok (.getfield 10, 3) := by decide +kernel
theorem dX5_flip_25 : decode cX5_flip 25 = .ok (.iload_n 1, 1) := by decide +kernel
theorem dX5_flip_26 : decode cX5_flip 26 = .ok (.iload_n 2, 1) := by decide +kernel
theorem dX5_flip_27 : decode cX5_flip 27 = .ok (.iload_n 3, 1) := by decide +kernel
theorem dX5_flip_28 : decode cX5_flip 28 = .ok (.invokevirtual 113, 3) := by decide +kernel
theorem dX5_flip_31 : decode cX5_flip 31 = .ok (.aload_n 0, 1) := by decide +kernel
theorem dX5_flip_32 : decode cX5_flip 32 = .ok (.getfield 33, 3) := by decide +kernel
theorem dX5_flip_35 : decode cX5_flip 35 = .ok (.aload_n 0, 1) := by decide +kernel
theorem dX5_flip_36 : decode cX5_flip 36 = .ok (.getfield 10, 3) := by decide +kernel
theorem dX5_flip_39 : decode cX5_flip 39 = .ok (.aload_n 0, 1) := by decide +kernel
theorem dX5_flip_40 : decode cX5_flip 40 = .ok (.getfield 26, 3) := by decide +kernel
theorem dX5_flip_43 : decode cX5_flip 43 = .ok (.aload_n 0, 1) := by decide +kernel
theorem dX5_flip_44 : decode cX5_flip 44 = .ok (.getfield 44, 3) := by decide +kernel
theorem dX5_flip_47 : decode cX5_flip 47 = .ok (.invokevirtual 117, 3) := by decide +kernel
theorem dX5_flip_50 : decode cX5_flip 50 = .ok (.ireturn, 1) := by decide +kernel
set_option maxRecDepth 20000 in
theorem ggX5_flips_X5_isFlip : GoodIn wsX5_flips wsX5_isFlip := goodIn_r _ [9, 2, 10, 11, 12, 8, 13, 4, 14, 15, 16, 17, 18, 19, 20, 21, 22, 23, 24, 25, 26, 27, 28, 142, 143, 144, 145, 146, 147, 148, 149, 150, 151, 152, 153, 154, 155, 156, 157, 158, 159, 160, 161] (by decide +kernel) (by decide +kernel)
set_option maxRecDepth 20000 in
theorem gX5_flips_X5_isFlip : GoodIn wsX5_flips (wsV RX5 107 RX5 yX5_isFlip wsX5_isFlip) := goodIn_app (goodIn_of _ (by decide +kernel)) ggX5_flips_X5_isFlip
set_option maxRecDepth 20000 in
theorem ggX5_flips_X5_startRuns : GoodIn wsX5_flips wsX5_startRuns := goodIn_r _ [32, 3, 2, 33, 1, 34, 35, 36, 37, 38, 39, 40, 41, 42, 43, 44, 45, 46, 47, 48, 49, 50, 51, 52, 53, 54, 55, 56, 57, 58, 59, 60, 61, 62, 63, 64, 17, 65, 66, 67, 68, 69, 70, 71, 72, 73, 74, 75, 76, 77, 78, 79, 80, 81, 82, 142, 143, 144, 145, 146, 147, 148, 162, 149, 150, 151, 152, 153, 154, 155, 156, 157, 158, 159, 160, 161, 163, 164, 165, 166, 167, 168, 169, 170, 171, 172, 173, 174, 175] (by decide +kernel) (by decide +kernel)
set_option maxRecDepth 20000 in
theorem gX5_flips_X5_startRuns : GoodIn wsX5_flips (wsV RX5 110 RX5 yX5_startRuns wsX5_startRuns) := goodIn_app (goodIn_of _ (by decide +kernel)) ggX5_flips_X5_startRuns
set_option maxRecDepth 20000 in
theorem ggX5_flips_X0_mark : GoodIn wsX5_flips wsX0_mark := goodIn_r _ [86, 87, 72, 74, 88, 149, 150, 151, 152, 153, 154, 155, 156, 157, 158, 159, 160, 161, 167, 168, 169, 170, 171, 172, 173, 174, 175] (by decide +kernel) (by decide +kernel)
set_option maxRecDepth 20000 in
theorem gX5_flips_X0_mark : GoodIn wsX5_flips (wsV RX5 113 RX0 yX0_mark wsX0_mark) := goodIn_app (goodIn_of _ (by decide +kernel)) ggX5_flips_X0_mark
set_option maxRecDepth 20000 in
theorem ggX5_flips_X0_runOne : GoodIn wsX5_flips wsX0_runOne := goodIn_r _ [92, 93, 94, 95, 70, 96, 97, 98, 99, 100, 101, 102, 103, 76, 77, 78, 79, 104, 105, 106, 107, 72, 108, 109, 110, 111, 87, 112, 113, 114, 115, 116, 37, 117, 39, 118, 64, 17, 65, 66, 119, 120, 121, 122, 123, 124, 125, 126, 127, 128, 129, 130, 131, 132, 133, 134, 135, 136, 137, 138, 139, 140, 141, 167, 168, 169, 170, 171, 172, 173, 174, 175, 149, 150, 151, 152, 153, 154, 155, 156, 157, 158, 159, 160, 161, 162] (by decide +kernel) (by decide +kernel)
set_option maxRecDepth 20000 in
theorem gX5_flips_X0_runOne : GoodIn wsX5_flips (wsV RX5 117 RX0 yX0_runOne wsX0_runOne) := goodIn_app (goodIn_of _ (by decide +kernel)) ggX5_flips_X0_runOne
theorem dX5_flips_0 : decode cX5_flips 0 = .ok (.aload_n 0, 1) := by decide +kernel
theorem dX5_flips_1 : decode cX5_flips 1 = .ok (.iload_n 1, 1) := by decide +kernel
theorem dX5_flips_2 : decode cX5_flips 2 = .ok (.iload_n 2, 1) := by decide +kernel
theorem dX5_flips_3 : decode cX5_flips 3 = .ok (.iload_n 3, 1) := by decide +kernel
theorem dX5_flips_4 : decode cX5_flips 4 = .ok (.invokevirtual 107, 3) := by decide +kernel
theorem dX5_flips_7 : decode cX5_flips 7 = .ok (.ifCond .eq 16, 3) := by decide +kernel
theorem dX5_flips_10 : decode cX5_flips 10 = .ok (.aload_n 0, 1) := by decide +kernel
theorem dX5_flips_11 : decode cX5_flips 11 = .ok (.iload 4, 2) := by decide +kernel
theorem dX5_flips_13 : decode cX5_flips 13 = .ok (.iload 5, 2) := by decide +kernel
theorem dX5_flips_15 : decode cX5_flips 15 = .ok (.iload 6, 2) := by decide +kernel
theorem dX5_flips_17 : decode cX5_flips 17 = .ok (.invokevirtual 107, 3) := by decide +kernel
theorem dX5_flips_20 : decode cX5_flips 20 = .ok (.ifCond .ne 6, 3) := by decide +kernel
theorem dX5_flips_23 : decode cX5_flips 23 = .ok (.bipush (-2), 2) := by decide +kernel
theorem dX5_flips_25 : decode cX5_flips 25 = .ok (.ireturn, 1) := by decide +kernel
theorem dX5_flips_26 : decode cX5_flips 26 = .ok (.iload_n 1, 1) := by decide +kernel
theorem dX5_flips_27 : decode cX5_flips 27 = .ok (.iload 4, 2) := by decide +kernel
theorem dX5_flips_29 : decode cX5_flips 29 = .ok (.if_icmp .ne 18, 3) := by decide +kernel
theorem dX5_flips_32 : decode cX5_flips 32 = .ok (.iload_n 2, 1) := by decide +kernel
theorem dX5_flips_33 : decode cX5_flips 33 = .ok (.iload 5, 2) := by decide +kernel
theorem dX5_flips_35 : decode cX5_flips 35 = .ok (.if_icmp .ne 12, 3) := by decide +kernel
theorem dX5_flips_38 : decode cX5_flips 38 = .ok (.iload_n 3, 1) := by decide +kernel
theorem dX5_flips_39 : decode cX5_flips 39 = .ok (.iload 6, 2) := by decide +kernel
theorem dX5_flips_41 : decode cX5_flips 41 = .ok (.if_icmp .ne 6, 3) := by decide +kernel
theorem dX5_flips_44 : decode cX5_flips 44 = .ok (.bipush (-2), 2) := by decide +kernel
theorem dX5_flips_46 : decode cX5_flips 46 = .ok (.ireturn, 1) := by decide +kernel
theorem dX5_flips_47 : decode cX5_flips 47 = .ok (.aload_n 0, 1) := by decide +kernel
theorem dX5_flips_48 : decode cX5_flips 48 = .ok (.invokevirtual 110, 3) := by decide +kernel
theorem dX5_flips_51 : decode cX5_flips 51 = .ok (.aload_n 0, 1) := by decide +kernel
theorem dX5_flips_52 : decode cX5_flips 52 = .ok (.getfield 33, 3) := by decide +kernel
theorem dX5_flips_55 : decode cX5_flips 55 = .ok (.aload_n 0, 1) := by decide +kernel
theorem dX5_flips_56 : decode cX5_flips 56 = .ok (.getfield 10, 3) := by decide +kernel
theorem dX5_flips_59 : decode cX5_flips 59 = .ok (.iload_n 1, 1) := by decide +kernel
theorem dX5_flips_60 : decode cX5_flips 60 = .ok (.iload_n 2, 1) := by decide +kernel
theorem dX5_flips_61 : decode cX5_flips 61 = .ok (.iload_n 3, 1) := by decide +kernel
theorem dX5_flips_62 : decode cX5_flips 62 = .ok (.invokevirtual 113, 3) := by decide +kernel
theorem dX5_flips_65 : decode cX5_flips 65 = .ok (.aload_n 0, 1) := by decide +kernel
theorem dX5_flips_66 : decode cX5_flips 66 = .ok (.getfield 33, 3) := by decide +kernel
theorem dX5_flips_69 : decode cX5_flips 69 = .ok (.aload_n 0, 1) := by decide +kernel
theorem dX5_flips_70 : decode cX5_flips 70 = .ok (.getfield 10, 3) := by decide +kernel
theorem dX5_flips_73 : decode cX5_flips 73 = .ok (.iload 4, 2) := by decide +kernel
theorem dX5_flips_75 : decode cX5_flips 75 = .ok (.iload 5, 2) := by decide +kernel
theorem dX5_flips_77 : decode cX5_flips 77 = .ok (.iload 6, 2) := by decide +kernel
theorem dX5_flips_79 : decode cX5_flips 79 = .ok (.invokevirtual 113, 3) := by decide +kernel
theorem dX5_flips_82 : decode cX5_flips 82 = .ok (.aload_n 0, 1) := by decide +kernel
theorem dX5_flips_83 : decode cX5_flips 83 = .ok (.getfield 33, 3) := by decide +kernel
theorem dX5_flips_86 : decode cX5_flips 86 = .ok (.aload_n 0, 1) := by decide +kernel
theorem dX5_flips_87 : decode cX5_flips 87 = .ok (.getfield 10, 3) := by decide +kernel
theorem dX5_flips_90 : decode cX5_flips 90 = .ok (.aload_n 0, 1) := by decide +kernel
theorem dX5_flips_91 : decode cX5_flips 91 = .ok (.getfield 26, 3) := by decide +kernel
theorem dX5_flips_94 : decode cX5_flips 94 = .ok (.aload_n 0, 1) := by decide +kernel
theorem dX5_flips_95 : decode cX5_flips 95 = .ok (.getfield 44, 3) := by decide +kernel
theorem dX5_flips_98 : decode cX5_flips 98 = .ok (.invokevirtual 117, 3) := by decide +kernel
theorem dX5_flips_101 : decode cX5_flips 101 = .ok (.ireturn, 1) := by decide +kernel
set_option maxRecDepth 20000 in
theorem ggX5_many_X5_runEachFlip : GoodIn wsX5_many wsX5_runEachFlip := goodIn_r _ [9, 10, 1, 3, 11, 12, 13, 14, 8, 15, 16, 17, 18, 19, 20, 21, 22, 23, 24, 25, 26, 27, 28, 29, 30, 31, 32, 33, 34, 35, 36, 37, 38, 39, 40, 41, 42, 43, 44, 45, 46, 47, 48, 49, 50, 51, 52, 53, 54, 55, 56, 57, 58, 59, 60, 61, 62, 63, 64, 65, 66, 67, 68, 69, 70, 71, 72, 73, 74, 75, 76, 77, 78, 79, 80, 81, 82, 83, 84, 85, 86, 87, 88, 89, 90, 91, 92, 93, 94, 95, 96, 97, 98, 99, 100, 101, 102, 103, 104, 105, 106, 107, 108, 109, 110, 111, 112, 113, 114, 115, 116, 117, 118, 119, 120, 121, 122, 123, 124, 125, 126, 127, 128, 129, 130, 131, 132, 133, 134, 135, 136, 137, 138, 139, 140, 141, 142, 165, 143, 144, 145, 146, 147, 148, 149, 150, 151, 152, 153, 154, 155, 166, 167, 168, 169, 156, 157, 158, 159, 160, 161, 162, 163, 164] (by decide +kernel) (by decide +kernel)
set_option maxRecDepth 20000 in
theorem gX5_many_X5_runEachFlip : GoodIn wsX5_many (wsV RX5 121 RX5 yX5_runEachFlip wsX5_runEachFlip) := goodIn_app (goodIn_of _ (by decide +kernel)) ggX5_many_X5_runEachFlip
theorem dX5_many_0 : decode cX5_many 0 = .ok (.iload_n 1, 1) := by decide +kernel
theorem dX5_many_1 : decode cX5_many 1 = .ok (.ifCond .lt 8, 3) := by decide +kernel
theorem dX5_many_4 : decode cX5_many 4 = .ok (.iload_n 1, 1) := by decide +kernel
theorem dX5_many_5 : decode cX5_many 5 = .ok (.iconst 4, 1) := by decide +kernel
theorem dX5_many_6 : decode cX5_many 6 = .ok (.if_icmp .lt 6, 3) := by decide +kernel
theorem dX5_many_9 : decode cX5_many 9 = .ok (.bipush (-2), 2) := by decide +kernel
theorem dX5_many_11 : decode cX5_many 11 = .ok (.ireturn, 1) := by decide +kernel
theorem dX5_many_12 : decode cX5_many 12 = .ok (.aload_n 0, 1) := by decide +kernel
theorem dX5_many_13 : decode cX5_many 13 = .ok (.iconst 0, 1) := by decide +kernel
theorem dX5_many_14 : decode cX5_many 14 = .ok (.aload_n 0, 1) := by decide +kernel
theorem dX5_many_15 : decode cX5_many 15 = .ok (.getfield 10, 3) := by decide +kernel
theorem dX5_many_18 : decode cX5_many 18 = .ok (.getfield 55, 3) := by decide +kernel
theorem dX5_many_21 : decode cX5_many 21 = .ok (.invokevirtual 121, 3) := by decide +kernel
theorem dX5_many_24 : decode cX5_many 24 = .ok (.aload_n 0, 1) := by decide +kernel
theorem dX5_many_25 : decode cX5_many 25 = .ok (.getfield 33, 3) := by decide +kernel
theorem dX5_many_28 : decode cX5_many 28 = .ok (.getfield 125, 3) := by decide +kernel
theorem dX5_many_31 : decode cX5_many 31 = .ok (.iload_n 1, 1) := by decide +kernel
theorem dX5_many_32 : decode cX5_many 32 = .ok (.iaload, 1) := by decide +kernel
theorem dX5_many_33 : decode cX5_many 33 = .ok (.ireturn, 1) := by decide +kernel
set_option maxRecDepth 20000 in
theorem ggX5_first_X5_runEachFlip : GoodIn wsX5_first wsX5_runEachFlip := goodIn_r _ [9, 10, 1, 3, 11, 12, 13, 14, 8, 15, 16, 17, 18, 19, 20, 21, 22, 23, 24, 25, 26, 27, 28, 29, 30, 31, 32, 33, 34, 35, 36, 37, 38, 39, 40, 41, 42, 43, 44, 45, 46, 47, 48, 49, 50, 51, 52, 53, 54, 55, 56, 57, 58, 59, 60, 61, 62, 63, 64, 65, 66, 67, 68, 69, 70, 71, 72, 73, 74, 75, 76, 77, 78, 79, 80, 81, 82, 83, 84, 85, 86, 87, 88, 89, 90, 91, 92, 93, 94, 95, 96, 97, 98, 99, 100, 101, 102, 103, 104, 105, 106, 107, 108, 109, 110, 111, 112, 113, 114, 115, 116, 117, 118, 119, 120, 121, 122, 123, 124, 125, 126, 127, 128, 129, 130, 131, 132, 133, 134, 135, 136, 137, 138, 139, 140, 141, 142, 165, 143, 144, 145, 146, 147, 148, 149, 150, 151, 152, 153, 154, 155, 166, 167, 168, 169, 156, 157, 158, 159, 160, 161, 162, 163, 164] (by decide +kernel) (by decide +kernel)
set_option maxRecDepth 20000 in
theorem gX5_first_X5_runEachFlip : GoodIn wsX5_first (wsV RX5 121 RX5 yX5_runEachFlip wsX5_runEachFlip) := goodIn_app (goodIn_of _ (by decide +kernel)) ggX5_first_X5_runEachFlip
theorem dX5_first_0 : decode cX5_first 0 = .ok (.aload_n 0, 1) := by decide +kernel
theorem dX5_first_1 : decode cX5_first 1 = .ok (.iconst 0, 1) := by decide +kernel
theorem dX5_first_2 : decode cX5_first 2 = .ok (.aload_n 0, 1) := by decide +kernel
theorem dX5_first_3 : decode cX5_first 3 = .ok (.getfield 10, 3) := by decide +kernel
theorem dX5_first_6 : decode cX5_first 6 = .ok (.getfield 55, 3) := by decide +kernel
theorem dX5_first_9 : decode cX5_first 9 = .ok (.invokevirtual 121, 3) := by decide +kernel
theorem dX5_first_12 : decode cX5_first 12 = .ok (.aload_n 0, 1) := by decide +kernel
theorem dX5_first_13 : decode cX5_first 13 = .ok (.getfield 33, 3) := by decide +kernel
theorem dX5_first_16 : decode cX5_first 16 = .ok (.getfield 128, 3) := by decide +kernel
theorem dX5_first_19 : decode cX5_first 19 = .ok (.ireturn, 1) := by decide +kernel
set_option maxRecDepth 20000 in
theorem ggX5_masked_X2_isNode : GoodIn wsX5_masked wsX2_isNode := goodIn_r _ [7, 8, 150, 151, 152, 153, 154, 155, 156, 157, 158, 159, 160, 161, 162] (by decide +kernel) (by decide +kernel)
set_option maxRecDepth 20000 in
theorem gX5_masked_X2_isNode : GoodIn wsX5_masked (wsV RX5 66 RX2 yX2_isNode wsX2_isNode) := goodIn_app (goodIn_of _ (by decide +kernel)) ggX5_masked_X2_isNode
set_option maxRecDepth 20000 in
theorem ggX5_masked_X5_runEachFlip : GoodIn wsX5_masked wsX5_runEachFlip := goodIn_r _ [13, 14, 1, 2, 15, 16, 17, 18, 12, 19, 20, 21, 22, 23, 24, 25, 26, 27, 28, 29, 30, 31, 32, 33, 34, 35, 36, 37, 38, 39, 40, 41, 42, 43, 44, 45, 46, 47, 48, 49, 50, 51, 6, 52, 53, 54, 55, 56, 57, 58, 59, 60, 61, 62, 63, 64, 65, 66, 67, 68, 69, 70, 71, 72, 73, 74, 75, 76, 77, 78, 79, 80, 81, 82, 83, 84, 85, 86, 87, 88, 89, 90, 91, 92, 93, 94, 95, 96, 97, 98, 99, 100, 101, 102, 103, 104, 105, 106, 107, 108, 109, 110, 111, 112, 113, 114, 115, 116, 117, 118, 119, 120, 121, 122, 123, 124, 125, 126, 127, 128, 129, 130, 131, 132, 133, 134, 135, 136, 137, 138, 143, 144, 145, 146, 147, 148, 149, 163, 150, 151, 152, 153, 154, 155, 156, 157, 158, 159, 160, 161, 162, 164, 165, 166, 167, 168, 169, 170, 171, 172, 173, 174, 175, 176] (by decide +kernel) (by decide +kernel)
set_option maxRecDepth 20000 in
theorem gX5_masked_X5_runEachFlip : GoodIn wsX5_masked (wsV RX5 121 RX5 yX5_runEachFlip wsX5_runEachFlip) := goodIn_app (goodIn_of _ (by decide +kernel)) ggX5_masked_X5_runEachFlip
set_option maxRecDepth 20000 in
theorem ggX5_masked_X0_allSeen : GoodIn wsX5_masked wsX0_allSeen := goodIn_r _ [142, 60, 168, 169, 170, 171, 172, 173, 174, 175, 176] (by decide +kernel) (by decide +kernel)
set_option maxRecDepth 20000 in
theorem gX5_masked_X0_allSeen : GoodIn wsX5_masked (wsV RX5 131 RX0 yX0_allSeen wsX0_allSeen) := goodIn_app (goodIn_of _ (by decide +kernel)) ggX5_masked_X0_allSeen
theorem dX5_masked_0 : decode cX5_masked 0 = .ok (.aload_n 0, 1) := by decide +kernel
theorem dX5_masked_1 : decode cX5_masked 1 = .ok (.getfield 10, 3) := by decide +kernel
theorem dX5_masked_4 : decode cX5_masked 4 = .ok (.iload_n 1, 1) := by decide +kernel
theorem dX5_masked_5 : decode cX5_masked 5 = .ok (.invokevirtual 66, 3) := by decide +kernel
theorem dX5_masked_8 : decode cX5_masked 8 = .ok (.ifCond .ne 6, 3) := by decide +kernel
theorem dX5_masked_11 : decode cX5_masked 11 = .ok (.bipush (-2), 2) := by decide +kernel
theorem dX5_masked_13 : decode cX5_masked 13 = .ok (.ireturn, 1) := by decide +kernel
theorem dX5_masked_14 : decode cX5_masked 14 = .ok (.aload_n 0, 1) := by decide +kernel
theorem dX5_masked_15 : decode cX5_masked 15 = .ok (.iload_n 1, 1) := by decide +kernel
theorem dX5_masked_16 : decode cX5_masked 16 = .ok (.iload_n 1, 1) := by decide +kernel
theorem dX5_masked_17 : decode cX5_masked 17 = .ok (.iconst 1, 1) := by decide +kernel
theorem dX5_masked_18 : decode cX5_masked 18 = .ok (.iadd, 1) := by decide +kernel
theorem dX5_masked_19 : decode cX5_masked 19 = .ok (.invokevirtual 121, 3) := by decide +kernel
theorem dX5_masked_22 : decode cX5_masked 22 = .ok (.aload_n 0, 1) := by decide +kernel
theorem dX5_masked_23 : decode cX5_masked 23 = .ok (.getfield 33, 3) := by decide +kernel
theorem dX5_masked_26 : decode cX5_masked 26 = .ok (.invokevirtual 131, 3) := by decide +kernel
theorem dX5_masked_29 : decode cX5_masked 29 = .ok (.ifCond .ne 7, 3) := by decide +kernel
theorem dX5_masked_32 : decode cX5_masked 32 = .ok (.iconst 1, 1) := by decide +kernel
theorem dX5_masked_33 : decode cX5_masked 33 = .ok (.goto 4, 3) := by decide +kernel
theorem dX5_masked_36 : decode cX5_masked 36 = .ok (.iconst 0, 1) := by decide +kernel
theorem dX5_masked_37 : decode cX5_masked 37 = .ok (.ireturn, 1) := by decide +kernel
set_option maxRecDepth 20000 in
theorem ggX5_pairs_X5_isRunTick : GoodIn wsX5_pairs wsX5_isRunTick := goodIn_r _ [10, 5, 152, 153, 154, 155, 156, 157, 158] (by decide +kernel) (by decide +kernel)
set_option maxRecDepth 20000 in
theorem gX5_pairs_X5_isRunTick : GoodIn wsX5_pairs (wsV RX5 135 RX5 yX5_isRunTick wsX5_isRunTick) := goodIn_app (goodIn_of _ (by decide +kernel)) ggX5_pairs_X5_isRunTick
set_option maxRecDepth 20000 in
theorem ggX5_pairs_X5_startRuns : GoodIn wsX5_pairs wsX5_startRuns := goodIn_r _ [14, 4, 1, 15, 3, 16, 17, 18, 19, 20, 21, 22, 23, 24, 25, 26, 27, 28, 29, 30, 31, 32, 33, 34, 35, 36, 37, 38, 39, 40, 41, 42, 43, 44, 45, 46, 47, 48, 49, 50, 51, 52, 53, 54, 55, 56, 57, 58, 59, 60, 61, 62, 63, 64, 65, 152, 153, 154, 155, 156, 157, 158, 172, 159, 160, 161, 162, 163, 164, 165, 166, 167, 168, 169, 170, 171, 173, 174, 175, 176, 177, 178, 179, 180, 181, 182, 183, 184, 185] (by decide +kernel) (by decide +kernel)
set_option maxRecDepth 20000 in
theorem gX5_pairs_X5_startRuns : GoodIn wsX5_pairs (wsV RX5 110 RX5 yX5_startRuns wsX5_startRuns) := goodIn_app (goodIn_of _ (by decide +kernel)) ggX5_pairs_X5_startRuns
set_option maxRecDepth 20000 in
theorem ggX5_pairs_X2_isCopy : GoodIn wsX5_pairs wsX2_isCopy := goodIn_r _ [69, 70, 71, 72, 47, 73, 74, 75, 76, 77, 78, 79, 159, 160, 161, 162, 163, 164, 165, 166, 167, 168, 169, 170, 171] (by decide +kernel) (by decide +kernel)
set_option maxRecDepth 20000 in
theorem gX5_pairs_X2_isCopy : GoodIn wsX5_pairs (wsV RX5 100 RX2 yX2_isCopy wsX2_isCopy) := goodIn_app (goodIn_of _ (by decide +kernel)) ggX5_pairs_X2_isCopy
set_option maxRecDepth 20000 in
theorem ggX5_pairs_X5_runEachPair : GoodIn wsX5_pairs wsX5_runEachPair := goodIn_r _ [83, 1, 2, 3, 4, 5, 66, 67, 68, 47, 69, 70, 71, 72, 73, 74, 75, 76, 77, 78, 79, 84, 85, 86, 53, 87, 88, 55, 57, 89, 90, 91, 92, 93, 94, 95, 96, 97, 56, 58, 98, 99, 100, 101, 102, 103, 104, 105, 106, 107, 108, 59, 60, 61, 62, 109, 110, 111, 112, 113, 114, 115, 116, 117, 118, 119, 120, 121, 19, 122, 21, 123, 46, 48, 49, 124, 125, 126, 127, 128, 129, 130, 131, 132, 133, 134, 135, 136, 137, 138, 139, 140, 141, 142, 143, 144, 145, 146, 152, 153, 154, 155, 156, 157, 158, 159, 160, 161, 162, 163, 164, 165, 166, 167, 168, 169, 170, 171, 177, 178, 179, 180, 181, 182, 183, 184, 185, 172] (by decide +kernel) (by decide +kernel)
set_option maxRecDepth 20000 in
theorem gX5_pairs_X5_runEachPair : GoodIn wsX5_pairs (wsV RX5 138 RX5 yX5_runEachPair wsX5_runEachPair) := goodIn_app (goodIn_of _ (by decide +kernel)) ggX5_pairs_X5_runEachPair
set_option maxRecDepth 20000 in
theorem ggX5_pairs_X0_runAll : GoodIn wsX5_pairs wsX0_runAll := goodIn_r _ [97, 57, 56, 58, 89, 55, 98, 99, 100, 53, 101, 102, 103, 104, 105, 106, 107, 108, 59, 60, 61, 62, 109, 110, 111, 112, 113, 114, 115, 116, 88, 117, 118, 119, 120, 121, 19, 122, 21, 123, 46, 47, 48, 49, 124, 125, 126, 127, 128, 129, 130, 131, 132, 133, 134, 135, 136, 137, 138, 139, 140, 141, 142, 143, 144, 145, 146, 177, 178, 179, 180, 181, 182, 183, 184, 185, 159, 160, 161, 162, 163, 164, 165, 166, 167, 168, 169, 170, 171, 172] (by decide +kernel) (by decide +kernel)
set_option maxRecDepth 20000 in
theorem gX5_pairs_X0_runAll : GoodIn wsX5_pairs (wsV RX5 141 RX0 yX0_runAll wsX0_runAll) := goodIn_app (goodIn_of _ (by decide +kernel)) ggX5_pairs_X0_runAll
set_option maxRecDepth 20000 in
theorem ggX5_pairs_X0_allSeen : GoodIn wsX5_pairs wsX0_allSeen := goodIn_r _ [151, 56, 177, 178, 179, 180, 181, 182, 183, 184, 185] (by decide +kernel) (by decide +kernel)
set_option maxRecDepth 20000 in
theorem gX5_pairs_X0_allSeen : GoodIn wsX5_pairs (wsV RX5 131 RX0 yX0_allSeen wsX0_allSeen) := goodIn_app (goodIn_of _ (by decide +kernel)) ggX5_pairs_X0_allSeen
theorem dX5_pairs_0 : decode cX5_pairs 0 = .ok (.aload_n 0, 1) := by decide +kernel
theorem dX5_pairs_1 : decode cX5_pairs 1 = .ok (.iload_n 1, 1) := by decide +kernel
theorem dX5_pairs_2 : decode cX5_pairs 2 = .ok (.invokevirtual 135, 3) := by decide +kernel
theorem dX5_pairs_5 : decode cX5_pairs 5 = .ok (.ifCond .ne 6, 3) := by decide +kernel
theorem dX5_pairs_8 : decode cX5_pairs 8 = .ok (.bipush (-2), 2) := by decide +kernel
theorem dX5_pairs_10 : decode cX5_pairs 10 = .ok (.ireturn, 1) := by decide +kernel
theorem dX5_pairs_11 : decode cX5_pairs 11 = .ok (.aload_n 0, 1) := by decide +kernel
theorem dX5_pairs_12 : decode cX5_pairs 12 = .ok (.invokevirtual 110, 3) := by decide +kernel
theorem dX5_pairs_15 : decode cX5_pairs 15 = .ok (.iconst 0, 1) := by decide +kernel
theorem dX5_pairs_16 : decode cX5_pairs 16 = .ok (.istore_n 2, 1) := by decide +kernel
theorem dX5_pairs_17 : decode cX5_pairs 17 = .ok (.iload_n 2, 1) := by decide +kernel
theorem dX5_pairs_18 : decode cX5_pairs 18 = .ok (.aload_n 0, 1) := by decide +kernel
theorem dX5_pairs_19 : decode cX5_pairs 19 = .ok (.getfield 10, 3) := by decide +kernel
theorem dX5_pairs_22 : decode cX5_pairs 22 = .ok (.getfield 55, 3) := by decide +kernel
theorem dX5_pairs_25 : decode cX5_pairs 25 = .ok (.iconst 3, 1) := by decide +kernel
theorem dX5_pairs_26 : decode cX5_pairs 26 = .ok (.imul, 1) := by decide +kernel
theorem dX5_pairs_27 : decode cX5_pairs 27 = .ok (.if_icmp .ge 31, 3) := by decide +kernel
theorem dX5_pairs_30 : decode cX5_pairs 30 = .ok (.aload_n 0, 1) := by decide +kernel
theorem dX5_pairs_31 : decode cX5_pairs 31 = .ok (.getfield 10, 3) := by decide +kernel
theorem dX5_pairs_34 : decode cX5_pairs 34 = .ok (.iload_n 2, 1) := by decide +kernel
theorem dX5_pairs_35 : decode cX5_pairs 35 = .ok (.iconst 3, 1) := by decide +kernel
theorem dX5_pairs_36 : decode cX5_pairs 36 = .ok (.idiv, 1) := by decide +kernel
theorem dX5_pairs_37 : decode cX5_pairs 37 = .ok (.iload_n 2, 1) := by decide +kernel
theorem dX5_pairs_38 : decode cX5_pairs 38 = .ok (.iconst 3, 1) := by decide +kernel
theorem dX5_pairs_39 : decode cX5_pairs 39 = .ok (.irem, 1) := by decide +kernel
theorem dX5_pairs_40 : decode cX5_pairs 40 = .ok (.invokevirtual 100, 3) := by decide +kernel
theorem dX5_pairs_43 : decode cX5_pairs 43 = .ok (.ifCond .eq 9, 3) := by decide +kernel
theorem dX5_pairs_46 : decode cX5_pairs 46 = .ok (.aload_n 0, 1) := by decide +kernel
theorem dX5_pairs_47 : decode cX5_pairs 47 = .ok (.iload_n 1, 1) := by decide +kernel
theorem dX5_pairs_48 : decode cX5_pairs 48 = .ok (.iload_n 2, 1) := by decide +kernel
theorem dX5_pairs_49 : decode cX5_pairs 49 = .ok (.invokevirtual 138, 3) := by decide +kernel
theorem dX5_pairs_52 : decode cX5_pairs 52 = .ok (.iinc 2 1, 3) := by decide +kernel
theorem dX5_pairs_55 : decode cX5_pairs 55 = .ok (.goto (-38), 3) := by decide +kernel
theorem dX5_pairs_58 : decode cX5_pairs 58 = .ok (.aload_n 0, 1) := by decide +kernel
theorem dX5_pairs_59 : decode cX5_pairs 59 = .ok (.getfield 33, 3) := by decide +kernel
theorem dX5_pairs_62 : decode cX5_pairs 62 = .ok (.aload_n 0, 1) := by decide +kernel
theorem dX5_pairs_63 : decode cX5_pairs 63 = .ok (.getfield 10, 3) := by decide +kernel
theorem dX5_pairs_66 : decode cX5_pairs 66 = .ok (.aload_n 0, 1) := by decide +kernel
theorem dX5_pairs_67 : decode cX5_pairs 67 = .ok (.getfield 26, 3) := by decide +kernel
theorem dX5_pairs_70 : decode cX5_pairs 70 = .ok (.aload_n 0, 1) := by decide +kernel
theorem dX5_pairs_71 : decode cX5_pairs 71 = .ok (.getfield 44, 3) := by decide +kernel
theorem dX5_pairs_74 : decode cX5_pairs 74 = .ok (.invokevirtual 141, 3) := by decide +kernel
theorem dX5_pairs_77 : decode cX5_pairs 77 = .ok (.aload_n 0, 1) := by decide +kernel
theorem dX5_pairs_78 : decode cX5_pairs 78 = .ok (.getfield 33, 3) := by decide +kernel
theorem dX5_pairs_81 : decode cX5_pairs 81 = .ok (.invokevirtual 131, 3) := by decide +kernel
theorem dX5_pairs_84 : decode cX5_pairs 84 = .ok (.ireturn, 1) := by decide +kernel
set_option maxRecDepth 20000 in
theorem ggX5_leads_X2_isStoreNumber : GoodIn wsX5_leads wsX2_isStoreNumber := goodIn_r _ [8, 9, 35, 36, 37, 38, 39, 40, 41, 42, 43, 44, 45, 46, 47] (by decide +kernel) (by decide +kernel)
set_option maxRecDepth 20000 in
theorem gX5_leads_X2_isStoreNumber : GoodIn wsX5_leads (wsV RX5 145 RX2 yX2_isStoreNumber wsX2_isStoreNumber) := goodIn_app (goodIn_of _ (by decide +kernel)) ggX5_leads_X2_isStoreNumber
set_option maxRecDepth 20000 in
theorem ggX5_leads_X1_trace : GoodIn wsX5_leads wsX1_trace := goodIn_r _ [14, 15, 16, 17, 18, 19, 20, 21, 22, 23, 24, 35, 36, 37, 38, 39, 40, 41, 42, 43, 44, 45, 46, 47, 32, 33, 34] (by decide +kernel) (by decide +kernel)
set_option maxRecDepth 20000 in
theorem gX5_leads_X1_trace : GoodIn wsX5_leads (wsV RX5 148 RX1 yX1_trace wsX1_trace) := goodIn_app (goodIn_of _ (by decide +kernel)) ggX5_leads_X1_trace
theorem dX5_leads_0 : decode cX5_leads 0 = .ok (.aload_n 0, 1) := by decide +kernel
theorem dX5_leads_1 : decode cX5_leads 1 = .ok (.getfield 10, 3) := by decide +kernel
theorem dX5_leads_4 : decode cX5_leads 4 = .ok (.iload_n 1, 1) := by decide +kernel
theorem dX5_leads_5 : decode cX5_leads 5 = .ok (.invokevirtual 145, 3) := by decide +kernel
theorem dX5_leads_8 : decode cX5_leads 8 = .ok (.ifCond .eq 14, 3) := by decide +kernel
theorem dX5_leads_11 : decode cX5_leads 11 = .ok (.aload_n 0, 1) := by decide +kernel
theorem dX5_leads_12 : decode cX5_leads 12 = .ok (.getfield 10, 3) := by decide +kernel
theorem dX5_leads_15 : decode cX5_leads 15 = .ok (.iload_n 2, 1) := by decide +kernel
theorem dX5_leads_16 : decode cX5_leads 16 = .ok (.invokevirtual 145, 3) := by decide +kernel
theorem dX5_leads_19 : decode cX5_leads 19 = .ok (.ifCond .ne 6, 3) := by decide +kernel
theorem dX5_leads_22 : decode cX5_leads 22 = .ok (.bipush (-2), 2) := by decide +kernel
theorem dX5_leads_24 : decode cX5_leads 24 = .ok (.ireturn, 1) := by decide +kernel
theorem dX5_leads_25 : decode cX5_leads 25 = .ok (.aload_n 0, 1) := by decide +kernel
theorem dX5_leads_26 : decode cX5_leads 26 = .ok (.getfield 40, 3) := by decide +kernel
theorem dX5_leads_29 : decode cX5_leads 29 = .ok (.aload_n 0, 1) := by decide +kernel
theorem dX5_leads_30 : decode cX5_leads 30 = .ok (.getfield 10, 3) := by decide +kernel
theorem dX5_leads_33 : decode cX5_leads 33 = .ok (.invokevirtual 148, 3) := by decide +kernel
theorem dX5_leads_36 : decode cX5_leads 36 = .ok (.aload_n 0, 1) := by decide +kernel
theorem dX5_leads_37 : decode cX5_leads 37 = .ok (.getfield 40, 3) := by decide +kernel
theorem dX5_leads_40 : decode cX5_leads 40 = .ok (.getfield 152, 3) := by decide +kernel
theorem dX5_leads_43 : decode cX5_leads 43 = .ok (.iload_n 2, 1) := by decide +kernel
theorem dX5_leads_44 : decode cX5_leads 44 = .ok (.iaload, 1) := by decide +kernel
theorem dX5_leads_45 : decode cX5_leads 45 = .ok (.iload_n 1, 1) := by decide +kernel
theorem dX5_leads_46 : decode cX5_leads 46 = .ok (.ishr, 1) := by decide +kernel
theorem dX5_leads_47 : decode cX5_leads 47 = .ok (.iconst 1, 1) := by decide +kernel
theorem dX5_leads_48 : decode cX5_leads 48 = .ok (.iand, 1) := by decide +kernel
theorem dX5_leads_49 : decode cX5_leads 49 = .ok (.ireturn, 1) := by decide +kernel
set_option maxRecDepth 20000 in
theorem ggX5_breaks_X1_trace : GoodIn wsX5_breaks wsX1_trace := goodIn_r _ [8, 9, 10, 11, 12, 13, 14, 15, 16, 17, 18, 30, 31, 32, 33, 34, 35, 36, 37, 38, 39, 40, 41, 42, 43, 44, 45] (by decide +kernel) (by decide +kernel)
set_option maxRecDepth 20000 in
theorem gX5_breaks_X1_trace : GoodIn wsX5_breaks (wsV RX5 148 RX1 yX1_trace wsX1_trace) := goodIn_app (goodIn_of _ (by decide +kernel)) ggX5_breaks_X1_trace
set_option maxRecDepth 20000 in
theorem ggX5_breaks_X1_allBroken : GoodIn wsX5_breaks wsX1_allBroken := goodIn_r _ [22, 16, 17, 43, 44, 45] (by decide +kernel) (by decide +kernel)
set_option maxRecDepth 20000 in
theorem gX5_breaks_X1_allBroken : GoodIn wsX5_breaks (wsV RX5 158 RX1 yX1_allBroken wsX1_allBroken) := goodIn_app (goodIn_of _ (by decide +kernel)) ggX5_breaks_X1_allBroken
theorem dX5_breaks_0 : decode cX5_breaks 0 = .ok (.iload_n 1, 1) := by decide +kernel
theorem dX5_breaks_1 : decode cX5_breaks 1 = .ok (.aload_n 0, 1) := by decide +kernel
theorem dX5_breaks_2 : decode cX5_breaks 2 = .ok (.getfield 10, 3) := by decide +kernel
theorem dX5_breaks_5 : decode cX5_breaks 5 = .ok (.getfield 155, 3) := by decide +kernel
theorem dX5_breaks_8 : decode cX5_breaks 8 = .ok (.iushr, 1) := by decide +kernel
theorem dX5_breaks_9 : decode cX5_breaks 9 = .ok (.ifCond .eq 6, 3) := by decide +kernel
theorem dX5_breaks_12 : decode cX5_breaks 12 = .ok (.bipush (-2), 2) := by decide +kernel
theorem dX5_breaks_14 : decode cX5_breaks 14 = .ok (.ireturn, 1) := by decide +kernel
theorem dX5_breaks_15 : decode cX5_breaks 15 = .ok (.aload_n 0, 1) := by decide +kernel
theorem dX5_breaks_16 : decode cX5_breaks 16 = .ok (.getfield 10, 3) := by decide +kernel
theorem dX5_breaks_19 : decode cX5_breaks 19 = .ok (.getfield 155, 3) := by decide +kernel
theorem dX5_breaks_22 : decode cX5_breaks 22 = .ok (.bipush 12, 2) := by decide +kernel
theorem dX5_breaks_24 : decode cX5_breaks 24 = .ok (.if_icmp .le 6, 3) := by decide +kernel
theorem dX5_breaks_27 : decode cX5_breaks 27 = .ok (.bipush (-3), 2) := by decide +kernel
theorem dX5_breaks_29 : decode cX5_breaks 29 = .ok (.ireturn, 1) := by decide +kernel
theorem dX5_breaks_30 : decode cX5_breaks 30 = .ok (.aload_n 0, 1) := by decide +kernel
theorem dX5_breaks_31 : decode cX5_breaks 31 = .ok (.getfield 40, 3) := by decide +kernel
theorem dX5_breaks_34 : decode cX5_breaks 34 = .ok (.aload_n 0, 1) := by decide +kernel
theorem dX5_breaks_35 : decode cX5_breaks 35 = .ok (.getfield 10, 3) := by decide +kernel
theorem dX5_breaks_38 : decode cX5_breaks 38 = .ok (.invokevirtual 148, 3) := by decide +kernel
theorem dX5_breaks_41 : decode cX5_breaks 41 = .ok (.aload_n 0, 1) := by decide +kernel
theorem dX5_breaks_42 : decode cX5_breaks 42 = .ok (.getfield 40, 3) := by decide +kernel
theorem dX5_breaks_45 : decode cX5_breaks 45 = .ok (.iload_n 1, 1) := by decide +kernel
theorem dX5_breaks_46 : decode cX5_breaks 46 = .ok (.invokevirtual 158, 3) := by decide +kernel
theorem dX5_breaks_49 : decode cX5_breaks 49 = .ok (.ifCond .eq 7, 3) := by decide +kernel
theorem dX5_breaks_52 : decode cX5_breaks 52 = .ok (.iconst 1, 1) := by decide +kernel
theorem dX5_breaks_53 : decode cX5_breaks 53 = .ok (.goto 4, 3) := by decide +kernel
theorem dX5_breaks_56 : decode cX5_breaks 56 = .ok (.iconst 0, 1) := by decide +kernel
theorem dX5_breaks_57 : decode cX5_breaks 57 = .ok (.ireturn, 1) := by decide +kernel
set_option maxRecDepth 20000 in
theorem ggX5_best_X1_trace : GoodIn wsX5_best wsX1_trace := goodIn_r _ [8, 9, 10, 11, 12, 13, 14, 15, 16, 17, 18, 46, 47, 48, 49, 50, 51, 52, 53, 54, 55, 56, 57, 58, 59, 60, 61] (by decide +kernel) (by decide +kernel)
set_option maxRecDepth 20000 in
theorem gX5_best_X1_trace : GoodIn wsX5_best (wsV RX5 148 RX1 yX1_trace wsX1_trace) := goodIn_app (goodIn_of _ (by decide +kernel)) ggX5_best_X1_trace
set_option maxRecDepth 20000 in
theorem ggX5_best_X1_cheapest : GoodIn wsX5_best wsX1_cheapest := goodIn_r _ [22, 16, 23, 24, 25, 7, 26, 27, 18, 28, 29, 30, 31, 32, 33, 34, 35, 36, 37, 38, 17, 59, 60, 61, 46, 47, 48, 49, 50, 51, 52, 53, 54, 55, 56, 57, 58] (by decide +kernel) (by decide +kernel)
set_option maxRecDepth 20000 in
theorem gX5_best_X1_cheapest : GoodIn wsX5_best (wsV RX5 161 RX1 yX1_cheapest wsX1_cheapest) := goodIn_app (goodIn_of _ (by decide +kernel)) ggX5_best_X1_cheapest
theorem dX5_best_0 : decode cX5_best 0 = .ok (.aload_n 0, 1) := by decide +kernel
theorem dX5_best_1 : decode cX5_best 1 = .ok (.getfield 10, 3) := by decide +kernel
theorem dX5_best_4 : decode cX5_best 4 = .ok (.getfield 155, 3) := by decide +kernel
theorem dX5_best_7 : decode cX5_best 7 = .ok (.bipush 12, 2) := by decide +kernel
theorem dX5_best_9 : decode cX5_best 9 = .ok (.if_icmp .le 6, 3) := by decide +kernel
theorem dX5_best_12 : decode cX5_best 12 = .ok (.bipush (-3), 2) := by decide +kernel
theorem dX5_best_14 : decode cX5_best 14 = .ok (.ireturn, 1) := by decide +kernel
theorem dX5_best_15 : decode cX5_best 15 = .ok (.aload_n 0, 1) := by decide +kernel
theorem dX5_best_16 : decode cX5_best 16 = .ok (.getfield 40, 3) := by decide +kernel
theorem dX5_best_19 : decode cX5_best 19 = .ok (.aload_n 0, 1) := by decide +kernel
theorem dX5_best_20 : decode cX5_best 20 = .ok (.getfield 10, 3) := by decide +kernel
theorem dX5_best_23 : decode cX5_best 23 = .ok (.invokevirtual 148, 3) := by decide +kernel
theorem dX5_best_26 : decode cX5_best 26 = .ok (.aload_n 0, 1) := by decide +kernel
theorem dX5_best_27 : decode cX5_best 27 = .ok (.getfield 40, 3) := by decide +kernel
theorem dX5_best_30 : decode cX5_best 30 = .ok (.aload_n 0, 1) := by decide +kernel
theorem dX5_best_31 : decode cX5_best 31 = .ok (.getfield 10, 3) := by decide +kernel
theorem dX5_best_34 : decode cX5_best 34 = .ok (.invokevirtual 161, 3) := by decide +kernel
theorem dX5_best_37 : decode cX5_best 37 = .ok (.ireturn, 1) := by decide +kernel
set_option maxRecDepth 20000 in
theorem ggX5_harden_X5_best : GoodIn wsX5_harden wsX5_best := goodIn_r _ [11, 1, 12, 13, 14, 15, 16, 17, 18, 19, 20, 21, 22, 23, 24, 25, 26, 27, 28, 29, 30, 31, 32, 33, 34, 35, 36, 37, 38, 39, 40, 41, 42, 43, 44, 45, 46, 47, 48, 50, 51, 52, 53, 54, 55, 56, 57, 58, 59, 60, 61, 62, 63, 64, 65, 66, 67, 68, 69, 70, 71, 72] (by decide +kernel) (by decide +kernel)
set_option maxRecDepth 20000 in
theorem gX5_harden_X5_best : GoodIn wsX5_harden (wsV RX5 165 RX5 yX5_best wsX5_best) := goodIn_app (goodIn_of _ (by decide +kernel)) ggX5_harden_X5_best
set_option maxRecDepth 20000 in
theorem ggX5_harden_J6_bitCount_0f7a4 : GoodIn wsX5_harden wsJ6_bitCount_0f7a4 := goodIn_r _ [41, 42, 43, 44] (by decide +kernel) (by decide +kernel)
set_option maxRecDepth 20000 in
theorem gX5_harden_J6_bitCount_0f7a4 : GoodIn wsX5_harden (va_wsS RX5 174 yJ6_bitCount_0f7a4 wsJ6_bitCount_0f7a4) := goodIn_app (goodIn_of _ (by decide +kernel)) ggX5_harden_J6_bitCount_0f7a4
theorem dX5_harden_0 : decode cX5_harden 0 = .ok (.aload_n 0, 1) := by decide +kernel
theorem dX5_harden_1 : decode cX5_harden 1 = .ok (.invokevirtual 165, 3) := by decide +kernel
theorem dX5_harden_4 : decode cX5_harden 4 = .ok (.istore_n 1, 1) := by decide +kernel
theorem dX5_harden_5 : decode cX5_harden 5 = .ok (.iload_n 1, 1) := by decide +kernel
theorem dX5_harden_6 : decode cX5_harden 6 = .ok (.ifCond .ge 5, 3) := by decide +kernel
theorem dX5_harden_9 : decode cX5_harden 9 = .ok (.iload_n 1, 1) := by decide +kernel
theorem dX5_harden_10 : decode cX5_harden 10 = .ok (.ireturn, 1) := by decide +kernel
theorem dX5_harden_11 : decode cX5_harden 11 = .ok (.iconst 0, 1) := by decide +kernel
theorem dX5_harden_12 : decode cX5_harden 12 = .ok (.istore_n 2, 1) := by decide +kernel
theorem dX5_harden_13 : decode cX5_harden 13 = .ok (.iload_n 2, 1) := by decide +kernel
theorem dX5_harden_14 : decode cX5_harden 14 = .ok (.aload_n 0, 1) := by decide +kernel
theorem dX5_harden_15 : decode cX5_harden 15 = .ok (.getfield 10, 3) := by decide +kernel
theorem dX5_harden_18 : decode cX5_harden 18 = .ok (.getfield 55, 3) := by decide +kernel
theorem dX5_harden_21 : decode cX5_harden 21 = .ok (.if_icmp .ge 63, 3) := by decide +kernel
theorem dX5_harden_24 : decode cX5_harden 24 = .ok (.aload_n 0, 1) := by decide +kernel
theorem dX5_harden_25 : decode cX5_harden 25 = .ok (.getfield 10, 3) := by decide +kernel
theorem dX5_harden_28 : decode cX5_harden 28 = .ok (.getfield 87, 3) := by decide +kernel
theorem dX5_harden_31 : decode cX5_harden 31 = .ok (.iload_n 2, 1) := by decide +kernel
theorem dX5_harden_32 : decode cX5_harden 32 = .ok (.iconst 1, 1) := by decide +kernel
theorem dX5_harden_33 : decode cX5_harden 33 = .ok (.bastore, 1) := by decide +kernel
theorem dX5_harden_34 : decode cX5_harden 34 = .ok (.aload_n 0, 1) := by decide +kernel
theorem dX5_harden_35 : decode cX5_harden 35 = .ok (.getfield 10, 3) := by decide +kernel
theorem dX5_harden_38 : decode cX5_harden 38 = .ok (.getfield 90, 3) := by decide +kernel
theorem dX5_harden_41 : decode cX5_harden 41 = .ok (.iload_n 2, 1) := by decide +kernel
theorem dX5_harden_42 : decode cX5_harden 42 = .ok (.aload_n 0, 1) := by decide +kernel
theorem dX5_harden_43 : decode cX5_harden 43 = .ok (.getfield 10, 3) := by decide +kernel
theorem dX5_harden_46 : decode cX5_harden 46 = .ok (.getfield 168, 3) := by decide +kernel
theorem dX5_harden_49 : decode cX5_harden 49 = .ok (.iload_n 2, 1) := by decide +kernel
theorem dX5_harden_50 : decode cX5_harden 50 = .ok (.iaload, 1) := by decide +kernel
theorem dX5_harden_51 : decode cX5_harden 51 = .ok (.iconst 5, 1) := by decide +kernel
theorem dX5_harden_52 : decode cX5_harden 52 = .ok (.if_icmp .ne 24, 3) := by decide +kernel
theorem dX5_harden_55 : decode cX5_harden 55 = .ok (.iload_n 1, 1) := by decide +kernel
theorem dX5_harden_56 : decode cX5_harden 56 = .ok (.aload_n 0, 1) := by decide +kernel
theorem dX5_harden_57 : decode cX5_harden 57 = .ok (.getfield 10, 3) := by decide +kernel
theorem dX5_harden_60 : decode cX5_harden 60 = .ok (.getfield 171, 3) := by decide +kernel
theorem dX5_harden_63 : decode cX5_harden 63 = .ok (.iload_n 2, 1) := by decide +kernel
theorem dX5_harden_64 : decode cX5_harden 64 = .ok (.iaload, 1) := by decide +kernel
theorem dX5_harden_65 : decode cX5_harden 65 = .ok (.ishr, 1) := by decide +kernel
theorem dX5_harden_66 : decode cX5_harden 66 = .ok (.iconst 1, 1) := by decide +kernel
theorem dX5_harden_67 : decode cX5_harden 67 = .ok (.iand, 1) := by decide +kernel
theorem dX5_harden_68 : decode cX5_harden 68 = .ok (.iconst 1, 1) := by decide +kernel
theorem dX5_harden_69 : decode cX5_harden 69 = .ok (.if_icmp .ne 7, 3) := by decide +kernel
theorem dX5_harden_72 : decode cX5_harden 72 = .ok (.iconst 1, 1) := by decide +kernel
theorem dX5_harden_73 : decode cX5_harden 73 = .ok (.goto 4, 3) := by decide +kernel
theorem dX5_harden_76 : decode cX5_harden 76 = .ok (.iconst 0, 1) := by decide +kernel
theorem dX5_harden_77 : decode cX5_harden 77 = .ok (.bastore, 1) := by decide +kernel
theorem dX5_harden_78 : decode cX5_harden 78 = .ok (.iinc 2 1, 3) := by decide +kernel
theorem dX5_harden_81 : decode cX5_harden 81 = .ok (.goto (-68), 3) := by decide +kernel
theorem dX5_harden_84 : decode cX5_harden 84 = .ok (.iload_n 1, 1) := by decide +kernel
theorem dX5_harden_85 : decode cX5_harden 85 = .ok (.invokestatic 174, 3) := by decide +kernel
theorem dX5_harden_88 : decode cX5_harden 88 = .ok (.ireturn, 1) := by decide +kernel
set_option maxRecDepth 20000 in
theorem ggX5_voter_X5_isPrice : GoodIn wsX5_voter wsX5_isPrice := goodIn_r _ [5] (by decide +kernel) (by decide +kernel)
set_option maxRecDepth 20000 in
theorem gX5_voter_X5_isPrice : GoodIn wsX5_voter (va_wsS RX5 77 yX5_isPrice wsX5_isPrice) := goodIn_app (goodIn_of _ (by decide +kernel)) ggX5_voter_X5_isPrice
theorem dX5_voter_0 : decode cX5_voter 0 = .ok (.iload_n 1, 1) := by decide +kernel
theorem dX5_voter_1 : decode cX5_voter 1 = .ok (.invokestatic 77, 3) := by decide +kernel
theorem dX5_voter_4 : decode cX5_voter 4 = .ok (.ifCond .ne 6, 3) := by decide +kernel
theorem dX5_voter_7 : decode cX5_voter 7 = .ok (.bipush (-2), 2) := by decide +kernel
theorem dX5_voter_9 : decode cX5_voter 9 = .ok (.ireturn, 1) := by decide +kernel
theorem dX5_voter_10 : decode cX5_voter 10 = .ok (.aload_n 0, 1) := by decide +kernel
theorem dX5_voter_11 : decode cX5_voter 11 = .ok (.getfield 48, 3) := by decide +kernel
theorem dX5_voter_14 : decode cX5_voter 14 = .ok (.istore_n 2, 1) := by decide +kernel
theorem dX5_voter_15 : decode cX5_voter 15 = .ok (.aload_n 0, 1) := by decide +kernel
theorem dX5_voter_16 : decode cX5_voter 16 = .ok (.iload_n 1, 1) := by decide +kernel
theorem dX5_voter_17 : decode cX5_voter 17 = .ok (.putfield 48, 3) := by decide +kernel
theorem dX5_voter_20 : decode cX5_voter 20 = .ok (.iload_n 2, 1) := by decide +kernel
theorem dX5_voter_21 : decode cX5_voter 21 = .ok (.ireturn, 1) := by decide +kernel
set_option maxRecDepth 20000 in
theorem ggX5_cost_X2_copies : GoodIn wsX5_cost wsX2_copies := goodIn_r _ [10, 11, 19, 20, 21, 22, 23, 24, 25, 26, 27, 28, 29, 30, 31] (by decide +kernel) (by decide +kernel)
set_option maxRecDepth 20000 in
theorem gX5_cost_X2_copies : GoodIn wsX5_cost (wsV RX5 180 RX2 yX2_copies wsX2_copies) := goodIn_app (goodIn_of _ (by decide +kernel)) ggX5_cost_X2_copies
theorem dX5_cost_0 : decode cX5_cost 0 = .ok (.iconst 0, 1) := by decide +kernel
theorem dX5_cost_1 : decode cX5_cost 1 = .ok (.istore_n 1, 1) := by decide +kernel
theorem dX5_cost_2 : decode cX5_cost 2 = .ok (.iconst 0, 1) := by decide +kernel
theorem dX5_cost_3 : decode cX5_cost 3 = .ok (.istore_n 2, 1) := by decide +kernel
theorem dX5_cost_4 : decode cX5_cost 4 = .ok (.iload_n 2, 1) := by decide +kernel
theorem dX5_cost_5 : decode cX5_cost 5 = .ok (.aload_n 0, 1) := by decide +kernel
theorem dX5_cost_6 : decode cX5_cost 6 = .ok (.getfield 10, 3) := by decide +kernel
theorem dX5_cost_9 : decode cX5_cost 9 = .ok (.getfield 55, 3) := by decide +kernel
theorem dX5_cost_12 : decode cX5_cost 12 = .ok (.if_icmp .ge 51, 3) := by decide +kernel
theorem dX5_cost_15 : decode cX5_cost 15 = .ok (.iload_n 1, 1) := by decide +kernel
theorem dX5_cost_16 : decode cX5_cost 16 = .ok (.aload_n 0, 1) := by decide +kernel
theorem dX5_cost_17 : decode cX5_cost 17 = .ok (.getfield 10, 3) := by decide +kernel
theorem dX5_cost_20 : decode cX5_cost 20 = .ok (.getfield 80, 3) := by decide +kernel
theorem dX5_cost_23 : decode cX5_cost 23 = .ok (.iload_n 2, 1) := by decide +kernel
theorem dX5_cost_24 : decode cX5_cost 24 = .ok (.iaload, 1) := by decide +kernel
theorem dX5_cost_25 : decode cX5_cost 25 = .ok (.aload_n 0, 1) := by decide +kernel
theorem dX5_cost_26 : decode cX5_cost 26 = .ok (.getfield 10, 3) := by decide +kernel
theorem dX5_cost_29 : decode cX5_cost 29 = .ok (.iload_n 2, 1) := by decide +kernel
theorem dX5_cost_30 : decode cX5_cost 30 = .ok (.invokevirtual 180, 3) := by decide +kernel
theorem dX5_cost_33 : decode cX5_cost 33 = .ok (.imul, 1) := by decide +kernel
theorem dX5_cost_34 : decode cX5_cost 34 = .ok (.iadd, 1) := by decide +kernel
theorem dX5_cost_35 : decode cX5_cost 35 = .ok (.istore_n 1, 1) := by decide +kernel
theorem dX5_cost_36 : decode cX5_cost 36 = .ok (.aload_n 0, 1) := by decide +kernel
theorem dX5_cost_37 : decode cX5_cost 37 = .ok (.getfield 10, 3) := by decide +kernel
theorem dX5_cost_40 : decode cX5_cost 40 = .ok (.getfield 90, 3) := by decide +kernel
theorem dX5_cost_43 : decode cX5_cost 43 = .ok (.iload_n 2, 1) := by decide +kernel
theorem dX5_cost_44 : decode cX5_cost 44 = .ok (.baload, 1) := by decide +kernel
theorem dX5_cost_45 : decode cX5_cost 45 = .ok (.ifCond .eq 12, 3) := by decide +kernel
theorem dX5_cost_48 : decode cX5_cost 48 = .ok (.iload_n 1, 1) := by decide +kernel
theorem dX5_cost_49 : decode cX5_cost 49 = .ok (.aload_n 0, 1) := by decide +kernel
theorem dX5_cost_50 : decode cX5_cost 50 = .ok (.getfield 48, 3) := by decide +kernel
theorem dX5_cost_53 : decode cX5_cost 53 = .ok (.iconst 3, 1) := by decide +kernel
theorem dX5_cost_54 : decode cX5_cost 54 = .ok (.imul, 1) := by decide +kernel
theorem dX5_cost_55 : decode cX5_cost 55 = .ok (.iadd, 1) := by decide +kernel
theorem dX5_cost_56 : decode cX5_cost 56 = .ok (.istore_n 1, 1) := by decide +kernel
theorem dX5_cost_57 : decode cX5_cost 57 = .ok (.iinc 2 1, 3) := by decide +kernel
theorem dX5_cost_60 : decode cX5_cost 60 = .ok (.goto (-56), 3) := by decide +kernel
theorem dX5_cost_63 : decode cX5_cost 63 = .ok (.iload_n 1, 1) := by decide +kernel
theorem dX5_cost_64 : decode cX5_cost 64 = .ok (.ireturn, 1) := by decide +kernel
set_option maxRecDepth 20000 in
theorem ggX5_slow_X2_slowness : GoodIn wsX5_slow wsX2_slowness := goodIn_r _ [6, 7, 8, 9, 10, 11, 12, 13, 14, 15, 16, 17, 18, 19, 27, 28, 29, 30, 31, 32, 33, 34, 35, 36, 37, 38, 39] (by decide +kernel) (by decide +kernel)
set_option maxRecDepth 20000 in
theorem gX5_slow_X2_slowness : GoodIn wsX5_slow (wsV RX5 183 RX2 yX2_slowness wsX2_slowness) := goodIn_app (goodIn_of _ (by decide +kernel)) ggX5_slow_X2_slowness
theorem dX5_slow_0 : decode cX5_slow 0 = .ok (.aload_n 0, 1) := by decide +kernel
theorem dX5_slow_1 : decode cX5_slow 1 = .ok (.getfield 10, 3) := by decide +kernel
theorem dX5_slow_4 : decode cX5_slow 4 = .ok (.invokevirtual 183, 3) := by decide +kernel
theorem dX5_slow_7 : decode cX5_slow 7 = .ok (.ireturn, 1) := by decide +kernel
set_option maxRecDepth 20000 in
theorem ggX5_sheet_X5_isSheet : GoodIn wsX5_sheet wsX5_isSheet := goodIn_r _ [5] (by decide +kernel) (by decide +kernel)
set_option maxRecDepth 20000 in
theorem gX5_sheet_X5_isSheet : GoodIn wsX5_sheet (va_wsS RX5 186 yX5_isSheet wsX5_isSheet) := goodIn_app (goodIn_of _ (by decide +kernel)) ggX5_sheet_X5_isSheet
set_option maxRecDepth 20000 in
theorem ggX5_sheet_X5_isForm : GoodIn wsX5_sheet wsX5_isForm := goodIn_r _ [8] (by decide +kernel) (by decide +kernel)
set_option maxRecDepth 20000 in
theorem gX5_sheet_X5_isForm : GoodIn wsX5_sheet (va_wsS RX5 189 yX5_isForm wsX5_isForm) := goodIn_app (goodIn_of _ (by decide +kernel)) ggX5_sheet_X5_isForm
set_option maxRecDepth 20000 in
theorem ggX5_sheet_X5_finding : GoodIn wsX5_sheet wsX5_finding := goodIn_r _ [12, 1, 13, 26, 27, 28, 29, 30, 31, 32, 33, 34, 35, 36] (by decide +kernel) (by decide +kernel)
set_option maxRecDepth 20000 in
theorem gX5_sheet_X5_finding : GoodIn wsX5_sheet (wsV RX5 192 RX5 yX5_finding wsX5_finding) := goodIn_app (goodIn_of _ (by decide +kernel)) ggX5_sheet_X5_finding
set_option maxRecDepth 20000 in
theorem ggX5_sheet_X4_renew : GoodIn wsX5_sheet wsX4_renew := goodIn_r _ [18, 19, 20, 21, 22, 23, 24, 25, 33, 34, 35, 36] (by decide +kernel) (by decide +kernel)
set_option maxRecDepth 20000 in
theorem gX5_sheet_X4_renew : GoodIn wsX5_sheet (wsV RX5 195 RX4 yX4_renew wsX4_renew) := goodIn_app (goodIn_of _ (by decide +kernel)) ggX5_sheet_X4_renew
theorem dX5_sheet_0 : decode cX5_sheet 0 = .ok (.iload_n 1, 1) := by decide +kernel
theorem dX5_sheet_1 : decode cX5_sheet 1 = .ok (.invokestatic 186, 3) := by decide +kernel
theorem dX5_sheet_4 : decode cX5_sheet 4 = .ok (.ifCond .eq 16, 3) := by decide +kernel
theorem dX5_sheet_7 : decode cX5_sheet 7 = .ok (.iload_n 2, 1) := by decide +kernel
theorem dX5_sheet_8 : decode cX5_sheet 8 = .ok (.invokestatic 189, 3) := by decide +kernel
theorem dX5_sheet_11 : decode cX5_sheet 11 = .ok (.ifCond .eq 9, 3) := by decide +kernel
theorem dX5_sheet_14 : decode cX5_sheet 14 = .ok (.iload_n 3, 1) := by decide +kernel
theorem dX5_sheet_15 : decode cX5_sheet 15 = .ok (.bipush 60, 2) := by decide +kernel
theorem dX5_sheet_17 : decode cX5_sheet 17 = .ok (.if_icmp .le 6, 3) := by decide +kernel
theorem dX5_sheet_20 : decode cX5_sheet 20 = .ok (.bipush (-2), 2) := by decide +kernel
theorem dX5_sheet_22 : decode cX5_sheet 22 = .ok (.ireturn, 1) := by decide +kernel
theorem dX5_sheet_23 : decode cX5_sheet 23 = .ok (.iload_n 3, 1) := by decide +kernel
theorem dX5_sheet_24 : decode cX5_sheet 24 = .ok (.ifCond .ge 9, 3) := by decide +kernel
theorem dX5_sheet_27 : decode cX5_sheet 27 = .ok (.aload_n 0, 1) := by decide +kernel
theorem dX5_sheet_28 : decode cX5_sheet 28 = .ok (.iconst 5, 1) := by decide +kernel
theorem dX5_sheet_29 : decode cX5_sheet 29 = .ok (.invokevirtual 192, 3) := by decide +kernel
theorem dX5_sheet_32 : decode cX5_sheet 32 = .ok (.ireturn, 1) := by decide +kernel
theorem dX5_sheet_33 : decode cX5_sheet 33 = .ok (.aload_n 0, 1) := by decide +kernel
theorem dX5_sheet_34 : decode cX5_sheet 34 = .ok (.getfield 19, 3) := by decide +kernel
theorem dX5_sheet_37 : decode cX5_sheet 37 = .ok (.iload_n 1, 1) := by decide +kernel
theorem dX5_sheet_38 : decode cX5_sheet 38 = .ok (.iload_n 2, 1) := by decide +kernel
theorem dX5_sheet_39 : decode cX5_sheet 39 = .ok (.iload_n 3, 1) := by decide +kernel
theorem dX5_sheet_40 : decode cX5_sheet 40 = .ok (.invokevirtual 195, 3) := by decide +kernel
theorem dX5_sheet_43 : decode cX5_sheet 43 = .ok (.iload_n 3, 1) := by decide +kernel
theorem dX5_sheet_44 : decode cX5_sheet 44 = .ok (.ireturn, 1) := by decide +kernel
set_option maxRecDepth 20000 in
theorem ggX5_lose_X5_isSheet : GoodIn wsX5_lose wsX5_isSheet := goodIn_r _ [7] (by decide +kernel) (by decide +kernel)
set_option maxRecDepth 20000 in
theorem gX5_lose_X5_isSheet : GoodIn wsX5_lose (va_wsS RX5 186 yX5_isSheet wsX5_isSheet) := goodIn_app (goodIn_of _ (by decide +kernel)) ggX5_lose_X5_isSheet
set_option maxRecDepth 20000 in
theorem ggX5_lose_X5_finding : GoodIn wsX5_lose wsX5_finding := goodIn_r _ [11, 1, 12, 13, 14, 15, 16, 17, 18, 19, 20, 21, 22, 23] (by decide +kernel) (by decide +kernel)
set_option maxRecDepth 20000 in
theorem gX5_lose_X5_finding : GoodIn wsX5_lose (wsV RX5 192 RX5 yX5_finding wsX5_finding) := goodIn_app (goodIn_of _ (by decide +kernel)) ggX5_lose_X5_finding
theorem dX5_lose_0 : decode cX5_lose 0 = .ok (.iload_n 1, 1) := by decide +kernel
theorem dX5_lose_1 : decode cX5_lose 1 = .ok (.invokestatic 186, 3) := by decide +kernel
theorem dX5_lose_4 : decode cX5_lose 4 = .ok (.ifCond .ne 6, 3) := by decide +kernel
theorem dX5_lose_7 : decode cX5_lose 7 = .ok (.bipush (-2), 2) := by decide +kernel
theorem dX5_lose_9 : decode cX5_lose 9 = .ok (.ireturn, 1) := by decide +kernel
theorem dX5_lose_10 : decode cX5_lose 10 = .ok (.aload_n 0, 1) := by decide +kernel
theorem dX5_lose_11 : decode cX5_lose 11 = .ok (.getfield 19, 3) := by decide +kernel
theorem dX5_lose_14 : decode cX5_lose 14 = .ok (.getfield 199, 3) := by decide +kernel
theorem dX5_lose_17 : decode cX5_lose 17 = .ok (.iload_n 1, 1) := by decide +kernel
theorem dX5_lose_18 : decode cX5_lose 18 = .ok (.iaload, 1) := by decide +kernel
theorem dX5_lose_19 : decode cX5_lose 19 = .ok (.iconst (-1), 1) := by decide +kernel
theorem dX5_lose_20 : decode cX5_lose 20 = .ok (.if_icmp .ne 9, 3) := by decide +kernel
theorem dX5_lose_23 : decode cX5_lose 23 = .ok (.aload_n 0, 1) := by decide +kernel
theorem dX5_lose_24 : decode cX5_lose 24 = .ok (.iconst 1, 1) := by decide +kernel
theorem dX5_lose_25 : decode cX5_lose 25 = .ok (.invokevirtual 192, 3) := by decide +kernel
theorem dX5_lose_28 : decode cX5_lose 28 = .ok (.ireturn, 1) := by decide +kernel
theorem dX5_lose_29 : decode cX5_lose 29 = .ok (.aload_n 0, 1) := by decide +kernel
theorem dX5_lose_30 : decode cX5_lose 30 = .ok (.getfield 19, 3) := by decide +kernel
theorem dX5_lose_33 : decode cX5_lose 33 = .ok (.getfield 199, 3) := by decide +kernel
theorem dX5_lose_36 : decode cX5_lose 36 = .ok (.iload_n 1, 1) := by decide +kernel
theorem dX5_lose_37 : decode cX5_lose 37 = .ok (.iconst (-1), 1) := by decide +kernel
theorem dX5_lose_38 : decode cX5_lose 38 = .ok (.iastore, 1) := by decide +kernel
theorem dX5_lose_39 : decode cX5_lose 39 = .ok (.aload_n 0, 1) := by decide +kernel
theorem dX5_lose_40 : decode cX5_lose 40 = .ok (.getfield 19, 3) := by decide +kernel
theorem dX5_lose_43 : decode cX5_lose 43 = .ok (.getfield 202, 3) := by decide +kernel
theorem dX5_lose_46 : decode cX5_lose 46 = .ok (.iload_n 1, 1) := by decide +kernel
theorem dX5_lose_47 : decode cX5_lose 47 = .ok (.iaload, 1) := by decide +kernel
theorem dX5_lose_48 : decode cX5_lose 48 = .ok (.ireturn, 1) := by decide +kernel
set_option maxRecDepth 20000 in
theorem ggX5_put_X5_isSheet : GoodIn wsX5_put wsX5_isSheet := goodIn_r _ [6] (by decide +kernel) (by decide +kernel)
set_option maxRecDepth 20000 in
theorem gX5_put_X5_isSheet : GoodIn wsX5_put (va_wsS RX5 186 yX5_isSheet wsX5_isSheet) := goodIn_app (goodIn_of _ (by decide +kernel)) ggX5_put_X5_isSheet
set_option maxRecDepth 20000 in
theorem ggX5_put_X5_isForm : GoodIn wsX5_put wsX5_isForm := goodIn_r _ [9] (by decide +kernel) (by decide +kernel)
set_option maxRecDepth 20000 in
theorem gX5_put_X5_isForm : GoodIn wsX5_put (va_wsS RX5 189 yX5_isForm wsX5_isForm) := goodIn_app (goodIn_of _ (by decide +kernel)) ggX5_put_X5_isForm
set_option maxRecDepth 20000 in
theorem ggX5_put_X4_wrongOf : GoodIn wsX5_put wsX4_wrongOf := goodIn_r _ [14, 15, 16, 32, 33, 34, 35] (by decide +kernel) (by decide +kernel)
set_option maxRecDepth 20000 in
theorem gX5_put_X4_wrongOf : GoodIn wsX5_put (wsV RX5 204 RX4 yX4_wrongOf wsX4_wrongOf) := goodIn_app (goodIn_of _ (by decide +kernel)) ggX5_put_X4_wrongOf
set_option maxRecDepth 20000 in
theorem ggX5_put_X5_finding : GoodIn wsX5_put wsX5_finding := goodIn_r _ [20, 1, 21, 25, 26, 27, 28, 29, 30, 31, 32, 33, 34, 35] (by decide +kernel) (by decide +kernel)
set_option maxRecDepth 20000 in
theorem gX5_put_X5_finding : GoodIn wsX5_put (wsV RX5 192 RX5 yX5_finding wsX5_finding) := goodIn_app (goodIn_of _ (by decide +kernel)) ggX5_put_X5_finding
set_option maxRecDepth 20000 in
theorem ggX5_put_X4_narrowed : GoodIn wsX5_put wsX4_narrowed := goodIn_r _ [24] (by decide +kernel) (by decide +kernel)
set_option maxRecDepth 20000 in
theorem gX5_put_X4_narrowed : GoodIn wsX5_put (va_wsS RX5 211 yX4_narrowed wsX4_narrowed) := goodIn_app (goodIn_of _ (by decide +kernel)) ggX5_put_X4_narrowed
theorem dX5_put_0 : decode cX5_put 0 = .ok (.iload_n 1, 1) := by decide +kernel
theorem dX5_put_1 : decode cX5_put 1 = .ok (.invokestatic 186, 3) := by decide +kernel
theorem dX5_put_4 : decode cX5_put 4 = .ok (.ifCond .eq 10, 3) := by decide +kernel
theorem dX5_put_7 : decode cX5_put 7 = .ok (.iload_n 2, 1) := by decide +kernel
theorem dX5_put_8 : decode cX5_put 8 = .ok (.invokestatic 189, 3) := by decide +kernel
theorem dX5_put_11 : decode cX5_put 11 = .ok (.ifCond .ne 6, 3) := by decide +kernel
theorem dX5_put_14 : decode cX5_put 14 = .ok (.bipush (-2), 2) := by decide +kernel
theorem dX5_put_16 : decode cX5_put 16 = .ok (.ireturn, 1) := by decide +kernel
theorem dX5_put_17 : decode cX5_put 17 = .ok (.aload_n 0, 1) := by decide +kernel
theorem dX5_put_18 : decode cX5_put 18 = .ok (.getfield 19, 3) := by decide +kernel
theorem dX5_put_21 : decode cX5_put 21 = .ok (.iload_n 1, 1) := by decide +kernel
theorem dX5_put_22 : decode cX5_put 22 = .ok (.iload_n 2, 1) := by decide +kernel
theorem dX5_put_23 : decode cX5_put 23 = .ok (.iload_n 3, 1) := by decide +kernel
theorem dX5_put_24 : decode cX5_put 24 = .ok (.invokevirtual 204, 3) := by decide +kernel
theorem dX5_put_27 : decode cX5_put 27 = .ok (.istore 5, 2) := by decide +kernel
theorem dX5_put_29 : decode cX5_put 29 = .ok (.iload 5, 2) := by decide +kernel
theorem dX5_put_31 : decode cX5_put 31 = .ok (.ifCond .eq 10, 3) := by decide +kernel
theorem dX5_put_34 : decode cX5_put 34 = .ok (.aload_n 0, 1) := by decide +kernel
theorem dX5_put_35 : decode cX5_put 35 = .ok (.iload 5, 2) := by decide +kernel
theorem dX5_put_37 : decode cX5_put 37 = .ok (.invokevirtual 192, 3) := by decide +kernel
theorem dX5_put_40 : decode cX5_put 40 = .ok (.ireturn, 1) := by decide +kernel
theorem dX5_put_41 : decode cX5_put 41 = .ok (.aload_n 0, 1) := by decide +kernel
theorem dX5_put_42 : decode cX5_put 42 = .ok (.getfield 19, 3) := by decide +kernel
theorem dX5_put_45 : decode cX5_put 45 = .ok (.getfield 207, 3) := by decide +kernel
theorem dX5_put_48 : decode cX5_put 48 = .ok (.iload_n 1, 1) := by decide +kernel
theorem dX5_put_49 : decode cX5_put 49 = .ok (.aaload, 1) := by decide +kernel
theorem dX5_put_50 : decode cX5_put 50 = .ok (.iload_n 3, 1) := by decide +kernel
theorem dX5_put_51 : decode cX5_put 51 = .ok (.iload_n 2, 1) := by decide +kernel
theorem dX5_put_52 : decode cX5_put 52 = .ok (.iload 4, 2) := by decide +kernel
theorem dX5_put_54 : decode cX5_put 54 = .ok (.invokestatic 211, 3) := by decide +kernel
theorem dX5_put_57 : decode cX5_put 57 = .ok (.iastore, 1) := by decide +kernel
theorem dX5_put_58 : decode cX5_put 58 = .ok (.iconst 1, 1) := by decide +kernel
theorem dX5_put_59 : decode cX5_put 59 = .ok (.ireturn, 1) := by decide +kernel
set_option maxRecDepth 20000 in
theorem ggX5_get_X5_isSheet : GoodIn wsX5_get wsX5_isSheet := goodIn_r _ [8] (by decide +kernel) (by decide +kernel)
set_option maxRecDepth 20000 in
theorem gX5_get_X5_isSheet : GoodIn wsX5_get (va_wsS RX5 186 yX5_isSheet wsX5_isSheet) := goodIn_app (goodIn_of _ (by decide +kernel)) ggX5_get_X5_isSheet
set_option maxRecDepth 20000 in
theorem ggX5_get_X5_isForm : GoodIn wsX5_get wsX5_isForm := goodIn_r _ [11] (by decide +kernel) (by decide +kernel)
set_option maxRecDepth 20000 in
theorem gX5_get_X5_isForm : GoodIn wsX5_get (va_wsS RX5 189 yX5_isForm wsX5_isForm) := goodIn_app (goodIn_of _ (by decide +kernel)) ggX5_get_X5_isForm
set_option maxRecDepth 20000 in
theorem ggX5_get_X4_wrongOf : GoodIn wsX5_get wsX4_wrongOf := goodIn_r _ [16, 17, 18, 26, 27, 28, 29] (by decide +kernel) (by decide +kernel)
set_option maxRecDepth 20000 in
theorem gX5_get_X4_wrongOf : GoodIn wsX5_get (wsV RX5 204 RX4 yX4_wrongOf wsX4_wrongOf) := goodIn_app (goodIn_of _ (by decide +kernel)) ggX5_get_X4_wrongOf
theorem dX5_get_0 : decode cX5_get 0 = .ok (.iload_n 1, 1) := by decide +kernel
theorem dX5_get_1 : decode cX5_get 1 = .ok (.invokestatic 186, 3) := by decide +kernel
theorem dX5_get_4 : decode cX5_get 4 = .ok (.ifCond .eq 10, 3) := by decide +kernel
theorem dX5_get_7 : decode cX5_get 7 = .ok (.iload_n 2, 1) := by decide +kernel
theorem dX5_get_8 : decode cX5_get 8 = .ok (.invokestatic 189, 3) := by decide +kernel
theorem dX5_get_11 : decode cX5_get 11 = .ok (.ifCond .ne 6, 3) := by decide +kernel
theorem dX5_get_14 : decode cX5_get 14 = .ok (.ldc 214, 2) := by decide +kernel
theorem dX5_get_16 : decode cX5_get 16 = .ok (.ireturn, 1) := by decide +kernel
theorem dX5_get_17 : decode cX5_get 17 = .ok (.aload_n 0, 1) := by decide +kernel
theorem dX5_get_18 : decode cX5_get 18 = .ok (.getfield 19, 3) := by decide +kernel
theorem dX5_get_21 : decode cX5_get 21 = .ok (.iload_n 1, 1) := by decide +kernel
theorem dX5_get_22 : decode cX5_get 22 = .ok (.iload_n 2, 1) := by decide +kernel
theorem dX5_get_23 : decode cX5_get 23 = .ok (.iload_n 3, 1) := by decide +kernel
theorem dX5_get_24 : decode cX5_get 24 = .ok (.invokevirtual 204, 3) := by decide +kernel
theorem dX5_get_27 : decode cX5_get 27 = .ok (.istore 4, 2) := by decide +kernel
theorem dX5_get_29 : decode cX5_get 29 = .ok (.iload 4, 2) := by decide +kernel
theorem dX5_get_31 : decode cX5_get 31 = .ok (.ifCond .eq 15, 3) := by decide +kernel
theorem dX5_get_34 : decode cX5_get 34 = .ok (.aload_n 0, 1) := by decide +kernel
theorem dX5_get_35 : decode cX5_get 35 = .ok (.getfield 19, 3) := by decide +kernel
theorem dX5_get_38 : decode cX5_get 38 = .ok (.iload 4, 2) := by decide +kernel
theorem dX5_get_40 : decode cX5_get 40 = .ok (.putfield 215, 3) := by decide +kernel
theorem dX5_get_43 : decode cX5_get 43 = .ok (.ldc 214, 2) := by decide +kernel
theorem dX5_get_45 : decode cX5_get 45 = .ok (.ireturn, 1) := by decide +kernel
theorem dX5_get_46 : decode cX5_get 46 = .ok (.aload_n 0, 1) := by decide +kernel
theorem dX5_get_47 : decode cX5_get 47 = .ok (.getfield 19, 3) := by decide +kernel
theorem dX5_get_50 : decode cX5_get 50 = .ok (.getfield 207, 3) := by decide +kernel
theorem dX5_get_53 : decode cX5_get 53 = .ok (.iload_n 1, 1) := by decide +kernel
theorem dX5_get_54 : decode cX5_get 54 = .ok (.aaload, 1) := by decide +kernel
theorem dX5_get_55 : decode cX5_get 55 = .ok (.iload_n 3, 1) := by decide +kernel
theorem dX5_get_56 : decode cX5_get 56 = .ok (.iaload, 1) := by decide +kernel
theorem dX5_get_57 : decode cX5_get 57 = .ok (.ireturn, 1) := by decide +kernel
set_option maxRecDepth 20000 in
theorem ggX5_move_X5_isSheet : GoodIn wsX5_move wsX5_isSheet := goodIn_r _ [11] (by decide +kernel) (by decide +kernel)
set_option maxRecDepth 20000 in
theorem gX5_move_X5_isSheet : GoodIn wsX5_move (va_wsS RX5 186 yX5_isSheet wsX5_isSheet) := goodIn_app (goodIn_of _ (by decide +kernel)) ggX5_move_X5_isSheet
set_option maxRecDepth 20000 in
theorem ggX5_move_X5_finding : GoodIn wsX5_move wsX5_finding := goodIn_r _ [15, 1, 16, 23, 24, 25, 26, 27, 28, 29, 30, 31, 32, 33] (by decide +kernel) (by decide +kernel)
set_option maxRecDepth 20000 in
theorem gX5_move_X5_finding : GoodIn wsX5_move (wsV RX5 192 RX5 yX5_finding wsX5_finding) := goodIn_app (goodIn_of _ (by decide +kernel)) ggX5_move_X5_finding
set_option maxRecDepth 20000 in
theorem ggX5_move_X4_hasItems : GoodIn wsX5_move wsX4_hasItems := goodIn_r _ [21, 22, 30, 31, 32, 33] (by decide +kernel) (by decide +kernel)
set_option maxRecDepth 20000 in
theorem gX5_move_X4_hasItems : GoodIn wsX5_move (wsV RX5 218 RX4 yX4_hasItems wsX4_hasItems) := goodIn_app (goodIn_of _ (by decide +kernel)) ggX5_move_X4_hasItems
theorem dX5_move_0 : decode cX5_move 0 = .ok (.iload_n 1, 1) := by decide +kernel
theorem dX5_move_1 : decode cX5_move 1 = .ok (.invokestatic 186, 3) := by decide +kernel
theorem dX5_move_4 : decode cX5_move 4 = .ok (.ifCond .eq 10, 3) := by decide +kernel
theorem dX5_move_7 : decode cX5_move 7 = .ok (.iload_n 3, 1) := by decide +kernel
theorem dX5_move_8 : decode cX5_move 8 = .ok (.invokestatic 186, 3) := by decide +kernel
theorem dX5_move_11 : decode cX5_move 11 = .ok (.ifCond .ne 6, 3) := by decide +kernel
theorem dX5_move_14 : decode cX5_move 14 = .ok (.bipush (-2), 2) := by decide +kernel
theorem dX5_move_16 : decode cX5_move 16 = .ok (.ireturn, 1) := by decide +kernel
theorem dX5_move_17 : decode cX5_move 17 = .ok (.aload_n 0, 1) := by decide +kernel
theorem dX5_move_18 : decode cX5_move 18 = .ok (.getfield 19, 3) := by decide +kernel
theorem dX5_move_21 : decode cX5_move 21 = .ok (.getfield 199, 3) := by decide +kernel
theorem dX5_move_24 : decode cX5_move 24 = .ok (.iload_n 1, 1) := by decide +kernel
theorem dX5_move_25 : decode cX5_move 25 = .ok (.iaload, 1) := by decide +kernel
theorem dX5_move_26 : decode cX5_move 26 = .ok (.iconst (-1), 1) := by decide +kernel
theorem dX5_move_27 : decode cX5_move 27 = .ok (.if_icmp .eq 16, 3) := by decide +kernel
theorem dX5_move_30 : decode cX5_move 30 = .ok (.aload_n 0, 1) := by decide +kernel
theorem dX5_move_31 : decode cX5_move 31 = .ok (.getfield 19, 3) := by decide +kernel
theorem dX5_move_34 : decode cX5_move 34 = .ok (.getfield 199, 3) := by decide +kernel
theorem dX5_move_37 : decode cX5_move 37 = .ok (.iload_n 3, 1) := by decide +kernel
theorem dX5_move_38 : decode cX5_move 38 = .ok (.iaload, 1) := by decide +kernel
theorem dX5_move_39 : decode cX5_move 39 = .ok (.iconst (-1), 1) := by decide +kernel
theorem dX5_move_40 : decode cX5_move 40 = .ok (.if_icmp .ne 9, 3) := by decide +kernel
theorem dX5_move_43 : decode cX5_move 43 = .ok (.aload_n 0, 1) := by decide +kernel
theorem dX5_move_44 : decode cX5_move 44 = .ok (.iconst 1, 1) := by decide +kernel
theorem dX5_move_45 : decode cX5_move 45 = .ok (.invokevirtual 192, 3) := by decide +kernel
theorem dX5_move_48 : decode cX5_move 48 = .ok (.ireturn, 1) := by decide +kernel
theorem dX5_move_49 : decode cX5_move 49 = .ok (.aload_n 0, 1) := by decide +kernel
theorem dX5_move_50 : decode cX5_move 50 = .ok (.getfield 19, 3) := by decide +kernel
theorem dX5_move_53 : decode cX5_move 53 = .ok (.getfield 199, 3) := by decide +kernel
theorem dX5_move_56 : decode cX5_move 56 = .ok (.iload_n 1, 1) := by decide +kernel
theorem dX5_move_57 : decode cX5_move 57 = .ok (.iaload, 1) := by decide +kernel
theorem dX5_move_58 : decode cX5_move 58 = .ok (.aload_n 0, 1) := by decide +kernel
theorem dX5_move_59 : decode cX5_move 59 = .ok (.getfield 19, 3) := by decide +kernel
theorem dX5_move_62 : decode cX5_move 62 = .ok (.getfield 199, 3) := by decide +kernel
theorem dX5_move_65 : decode cX5_move 65 = .ok (.iload_n 3, 1) := by decide +kernel
theorem dX5_move_66 : decode cX5_move 66 = .ok (.iaload, 1) := by decide +kernel
theorem dX5_move_67 : decode cX5_move 67 = .ok (.if_icmp .eq 9, 3) := by decide +kernel
theorem dX5_move_70 : decode cX5_move 70 = .ok (.aload_n 0, 1) := by decide +kernel
theorem dX5_move_71 : decode cX5_move 71 = .ok (.iconst 4, 1) := by decide +kernel
theorem dX5_move_72 : decode cX5_move 72 = .ok (.invokevirtual 192, 3) := by decide +kernel
theorem dX5_move_75 : decode cX5_move 75 = .ok (.ireturn, 1) := by decide +kernel
theorem dX5_move_76 : decode cX5_move 76 = .ok (.aload_n 0, 1) := by decide +kernel
theorem dX5_move_77 : decode cX5_move 77 = .ok (.getfield 19, 3) := by decide +kernel
theorem dX5_move_80 : decode cX5_move 80 = .ok (.iload_n 1, 1) := by decide +kernel
theorem dX5_move_81 : decode cX5_move 81 = .ok (.iload_n 2, 1) := by decide +kernel
theorem dX5_move_82 : decode cX5_move 82 = .ok (.iload 5, 2) := by decide +kernel
theorem dX5_move_84 : decode cX5_move 84 = .ok (.invokevirtual 218, 3) := by decide +kernel
theorem dX5_move_87 : decode cX5_move 87 = .ok (.ifCond .eq 18, 3) := by decide +kernel
theorem dX5_move_90 : decode cX5_move 90 = .ok (.aload_n 0, 1) := by decide +kernel
theorem dX5_move_91 : decode cX5_move 91 = .ok (.getfield 19, 3) := by decide +kernel
theorem dX5_move_94 : decode cX5_move 94 = .ok (.iload_n 3, 1) := by decide +kernel
theorem dX5_move_95 : decode cX5_move 95 = .ok (.iload 4, 2) := by decide +kernel
theorem dX5_move_97 : decode cX5_move 97 = .ok (.iload 5, 2) := by decide +kernel
theorem dX5_move_99 : decode cX5_move 99 = .ok (.invokevirtual 218, 3) := by decide +kernel
theorem dX5_move_102 : decode cX5_move 102 = .ok (.ifCond .ne 9, 3) := by decide +kernel
theorem dX5_move_105 : decode cX5_move 105 = .ok (.aload_n 0, 1) := by decide +kernel
theorem dX5_move_106 : decode cX5_move 106 = .ok (.iconst 2, 1) := by decide +kernel
theorem dX5_move_107 : decode cX5_move 107 = .ok (.invokevirtual 192, 3) := by decide +kernel
theorem dX5_move_110 : decode cX5_move 110 = .ok (.ireturn, 1) := by decide +kernel
theorem dX5_move_111 : decode cX5_move 111 = .ok (.aload_n 0, 1) := by decide +kernel
theorem dX5_move_112 : decode cX5_move 112 = .ok (.getfield 19, 3) := by decide +kernel
theorem dX5_move_115 : decode cX5_move 115 = .ok (.getfield 207, 3) := by decide +kernel
theorem dX5_move_118 : decode cX5_move 118 = .ok (.iload_n 1, 1) := by decide +kernel
theorem dX5_move_119 : decode cX5_move 119 = .ok (.aaload, 1) := by decide +kernel
theorem dX5_move_120 : decode cX5_move 120 = .ok (.iload_n 2, 1) := by decide +kernel
theorem dX5_move_121 : decode cX5_move 121 = .ok (.aload_n 0, 1) := by decide +kernel
theorem dX5_move_122 : decode cX5_move 122 = .ok (.getfield 19, 3) := by decide +kernel
theorem dX5_move_125 : decode cX5_move 125 = .ok (.getfield 207, 3) := by decide +kernel
theorem dX5_move_128 : decode cX5_move 128 = .ok (.iload_n 3, 1) := by decide +kernel
theorem dX5_move_129 : decode cX5_move 129 = .ok (.aaload, 1) := by decide +kernel
theorem dX5_move_130 : decode cX5_move 130 = .ok (.iload 4, 2) := by decide +kernel
theorem dX5_move_132 : decode cX5_move 132 = .ok (.iload 5, 2) := by decide +kernel
theorem dX5_move_134 : decode cX5_move 134 = .ok (.invokestatic 221, 3) := by decide +kernel
theorem dX5_move_137 : decode cX5_move 137 = .ok (.iconst 1, 1) := by decide +kernel
theorem dX5_move_138 : decode cX5_move 138 = .ok (.ireturn, 1) := by decide +kernel
set_option maxRecDepth 20000 in
theorem ggX5_count_X5_howMany : GoodIn wsX5_count wsX5_howMany := goodIn_r _ [15] (by decide +kernel) (by decide +kernel)
set_option maxRecDepth 20000 in
theorem gX5_count_X5_howMany : GoodIn wsX5_count (va_wsS RX5 230 yX5_howMany wsX5_howMany) := goodIn_app (goodIn_of _ (by decide +kernel)) ggX5_count_X5_howMany
theorem dX5_count_0 : decode cX5_count 0 = .ok (.iload_n 1, 1) := by decide +kernel
theorem dX5_count_1 : decode cX5_count 1 = .ok (.tableswitch 126 0 8 #[51, 59, 67, 75, 86, 97, 108, 116, 121], 51) := by decide +kernel
theorem dX5_count_52 : decode cX5_count 52 = .ok (.aload_n 0, 1) := by decide +kernel
theorem dX5_count_53 : decode cX5_count 53 = .ok (.getfield 10, 3) := by decide +kernel
theorem dX5_count_56 : decode cX5_count 56 = .ok (.getfield 55, 3) := by decide +kernel
theorem dX5_count_59 : decode cX5_count 59 = .ok (.ireturn, 1) := by decide +kernel
theorem dX5_count_60 : decode cX5_count 60 = .ok (.aload_n 0, 1) := by decide +kernel
theorem dX5_count_61 : decode cX5_count 61 = .ok (.getfield 10, 3) := by decide +kernel
theorem dX5_count_64 : decode cX5_count 64 = .ok (.getfield 227, 3) := by decide +kernel
theorem dX5_count_67 : decode cX5_count 67 = .ok (.ireturn, 1) := by decide +kernel
theorem dX5_count_68 : decode cX5_count 68 = .ok (.aload_n 0, 1) := by decide +kernel
theorem dX5_count_69 : decode cX5_count 69 = .ok (.getfield 10, 3) := by decide +kernel
theorem dX5_count_72 : decode cX5_count 72 = .ok (.getfield 155, 3) := by decide +kernel
theorem dX5_count_75 : decode cX5_count 75 = .ok (.ireturn, 1) := by decide +kernel
theorem dX5_count_76 : decode cX5_count 76 = .ok (.aload_n 0, 1) := by decide +kernel
theorem dX5_count_77 : decode cX5_count 77 = .ok (.getfield 10, 3) := by decide +kernel
theorem dX5_count_80 : decode cX5_count 80 = .ok (.getfield 73, 3) := by decide +kernel
theorem dX5_count_83 : decode cX5_count 83 = .ok (.invokestatic 230, 3) := by decide +kernel
theorem dX5_count_86 : decode cX5_count 86 = .ok (.ireturn, 1) := by decide +kernel
theorem dX5_count_87 : decode cX5_count 87 = .ok (.aload_n 0, 1) := by decide +kernel
theorem dX5_count_88 : decode cX5_count 88 = .ok (.getfield 10, 3) := by decide +kernel
theorem dX5_count_91 : decode cX5_count 91 = .ok (.getfield 87, 3) := by decide +kernel
theorem dX5_count_94 : decode cX5_count 94 = .ok (.invokestatic 230, 3) := by decide +kernel
theorem dX5_count_97 : decode cX5_count 97 = .ok (.ireturn, 1) := by decide +kernel
theorem dX5_count_98 : decode cX5_count 98 = .ok (.aload_n 0, 1) := by decide +kernel
theorem dX5_count_99 : decode cX5_count 99 = .ok (.getfield 10, 3) := by decide +kernel
theorem dX5_count_102 : decode cX5_count 102 = .ok (.getfield 90, 3) := by decide +kernel
theorem dX5_count_105 : decode cX5_count 105 = .ok (.invokestatic 230, 3) := by decide +kernel
theorem dX5_count_108 : decode cX5_count 108 = .ok (.ireturn, 1) := by decide +kernel
theorem dX5_count_109 : decode cX5_count 109 = .ok (.aload_n 0, 1) := by decide +kernel
theorem dX5_count_110 : decode cX5_count 110 = .ok (.getfield 19, 3) := by decide +kernel
theorem dX5_count_113 : decode cX5_count 113 = .ok (.getfield 215, 3) := by decide +kernel
theorem dX5_count_116 : decode cX5_count 116 = .ok (.ireturn, 1) := by decide +kernel
theorem dX5_count_117 : decode cX5_count 117 = .ok (.aload_n 0, 1) := by decide +kernel
theorem dX5_count_118 : decode cX5_count 118 = .ok (.getfield 44, 3) := by decide +kernel
theorem dX5_count_121 : decode cX5_count 121 = .ok (.ireturn, 1) := by decide +kernel
theorem dX5_count_122 : decode cX5_count 122 = .ok (.aload_n 0, 1) := by decide +kernel
theorem dX5_count_123 : decode cX5_count 123 = .ok (.getfield 48, 3) := by decide +kernel
theorem dX5_count_126 : decode cX5_count 126 = .ok (.ireturn, 1) := by decide +kernel
theorem dX5_count_127 : decode cX5_count 127 = .ok (.bipush (-2), 2) := by decide +kernel
theorem dX5_count_129 : decode cX5_count 129 = .ok (.ireturn, 1) := by decide +kernel
set_option maxRecDepth 20000 in
theorem ggX5_digest_X5_count : GoodIn wsX5_digest wsX5_count := goodIn_r _ [13, 3, 4, 14, 15, 7, 16, 17, 6, 18, 8, 19, 20, 21, 12, 22, 79, 80, 81, 82, 83, 84, 85, 86, 87, 88, 89, 90, 91, 92, 93, 94, 95, 96, 97, 98, 99, 100, 101, 102] (by decide +kernel) (by decide +kernel)
set_option maxRecDepth 20000 in
theorem gX5_digest_X5_count : GoodIn wsX5_digest (wsV RX5 238 RX5 yX5_count wsX5_count) := goodIn_app (goodIn_of _ (by decide +kernel)) ggX5_digest_X5_count
set_option maxRecDepth 20000 in
theorem ggX5_digest_X2_fact : GoodIn wsX5_digest wsX2_fact := goodIn_r _ [27, 28, 29, 30, 31, 32, 33, 34, 35, 86, 87, 88, 89, 90, 91, 92, 93, 94, 95, 96, 97, 98] (by decide +kernel) (by decide +kernel)
set_option maxRecDepth 20000 in
theorem gX5_digest_X2_fact : GoodIn wsX5_digest (wsV RX5 83 RX2 yX2_fact wsX2_fact) := goodIn_app (goodIn_of _ (by decide +kernel)) ggX5_digest_X2_fact
set_option maxRecDepth 20000 in
theorem ggX5_digest_X3_work : GoodIn wsX5_digest wsX3_work := goodIn_r _ [40, 41, 42, 43, 44, 45, 46, 47, 48, 49, 50, 51, 52, 53, 54, 55, 56, 57, 58, 39, 59, 60, 61, 62, 63, 64, 65, 66, 26, 67, 68, 103, 86, 87, 88, 89, 90, 91, 92, 93, 94, 95, 96, 97, 98, 99, 100, 101, 102] (by decide +kernel) (by decide +kernel)
set_option maxRecDepth 20000 in
theorem gX5_digest_X3_work : GoodIn wsX5_digest (wsV RX5 93 RX3 yX3_work wsX3_work) := goodIn_app (goodIn_of _ (by decide +kernel)) ggX5_digest_X3_work
set_option maxRecDepth 20000 in
theorem ggX5_digest_X3_bit : GoodIn wsX5_digest wsX3_bit := goodIn_r _ [64, 41, 103] (by decide +kernel) (by decide +kernel)
set_option maxRecDepth 20000 in
theorem gX5_digest_X3_bit : GoodIn wsX5_digest (wsV RX5 97 RX3 yX3_bit wsX3_bit) := goodIn_app (goodIn_of _ (by decide +kernel)) ggX5_digest_X3_bit
set_option maxRecDepth 20000 in
theorem ggX5_digest_X5_cost : GoodIn wsX5_digest wsX5_cost := goodIn_r _ [73, 3, 4, 74, 17, 19, 75, 76, 77, 26, 78, 32, 79, 80, 81, 82, 83, 84, 85, 86, 87, 88, 89, 90, 91, 92, 93, 94, 95, 96, 97, 98] (by decide +kernel) (by decide +kernel)
set_option maxRecDepth 20000 in
theorem gX5_digest_X5_cost : GoodIn wsX5_digest (wsV RX5 241 RX5 yX5_cost wsX5_cost) := goodIn_app (goodIn_of _ (by decide +kernel)) ggX5_digest_X5_cost
theorem dX5_digest_0 : decode cX5_digest 0 = .ok (.ldc2_w 234, 3) := by decide +kernel
theorem dX5_digest_3 : decode cX5_digest 3 = .ok (.lstore_n 1, 1) := by decide +kernel
theorem dX5_digest_4 : decode cX5_digest 4 = .ok (.iconst 0, 1) := by decide +kernel
theorem dX5_digest_5 : decode cX5_digest 5 = .ok (.istore_n 3, 1) := by decide +kernel
theorem dX5_digest_6 : decode cX5_digest 6 = .ok (.iload_n 3, 1) := by decide +kernel
theorem dX5_digest_7 : decode cX5_digest 7 = .ok (.bipush 8, 2) := by decide +kernel
theorem dX5_digest_9 : decode cX5_digest 9 = .ok (.if_icmp .gt 28, 3) := by decide +kernel
theorem dX5_digest_12 : decode cX5_digest 12 = .ok (.iload_n 3, 1) := by decide +kernel
theorem dX5_digest_13 : decode cX5_digest 13 = .ok (.bipush 6, 2) := by decide +kernel
theorem dX5_digest_15 : decode cX5_digest 15 = .ok (.if_icmp .eq 16, 3) := by decide +kernel
theorem dX5_digest_18 : decode cX5_digest 18 = .ok (.ldc2_w 236, 3) := by decide +kernel
theorem dX5_digest_21 : decode cX5_digest 21 = .ok (.lload_n 1, 1) := by decide +kernel
theorem dX5_digest_22 : decode cX5_digest 22 = .ok (.lmul, 1) := by decide +kernel
theorem dX5_digest_23 : decode cX5_digest 23 = .ok (.aload_n 0, 1) := by decide +kernel
theorem dX5_digest_24 : decode cX5_digest 24 = .ok (.iload_n 3, 1) := by decide +kernel
theorem dX5_digest_25 : decode cX5_digest 25 = .ok (.invokevirtual 238, 3) := by decide +kernel
theorem dX5_digest_28 : decode cX5_digest 28 = .ok (.i2l, 1) := by decide +kernel
theorem dX5_digest_29 : decode cX5_digest 29 = .ok (.ladd, 1) := by decide +kernel
theorem dX5_digest_30 : decode cX5_digest 30 = .ok (.lstore_n 1, 1) := by decide +kernel
theorem dX5_digest_31 : decode cX5_digest 31 = .ok (.iinc 3 1, 3) := by decide +kernel
theorem dX5_digest_34 : decode cX5_digest 34 = .ok (.goto (-28), 3) := by decide +kernel
theorem dX5_digest_37 : decode cX5_digest 37 = .ok (.iconst 0, 1) := by decide +kernel
theorem dX5_digest_38 : decode cX5_digest 38 = .ok (.istore_n 3, 1) := by decide +kernel
theorem dX5_digest_39 : decode cX5_digest 39 = .ok (.iload_n 3, 1) := by decide +kernel
theorem dX5_digest_40 : decode cX5_digest 40 = .ok (.aload_n 0, 1) := by decide +kernel
theorem dX5_digest_41 : decode cX5_digest 41 = .ok (.getfield 10, 3) := by decide +kernel
theorem dX5_digest_44 : decode cX5_digest 44 = .ok (.getfield 55, 3) := by decide +kernel
theorem dX5_digest_47 : decode cX5_digest 47 = .ok (.if_icmp .ge 43, 3) := by decide +kernel
theorem dX5_digest_50 : decode cX5_digest 50 = .ok (.iconst 1, 1) := by decide +kernel
theorem dX5_digest_51 : decode cX5_digest 51 = .ok (.istore 4, 2) := by decide +kernel
theorem dX5_digest_53 : decode cX5_digest 53 = .ok (.iload 4, 2) := by decide +kernel
theorem dX5_digest_55 : decode cX5_digest 55 = .ok (.bipush 6, 2) := by decide +kernel
theorem dX5_digest_57 : decode cX5_digest 57 = .ok (.if_icmp .gt 27, 3) := by decide +kernel
theorem dX5_digest_60 : decode cX5_digest 60 = .ok (.ldc2_w 236, 3) := by decide +kernel
theorem dX5_digest_63 : decode cX5_digest 63 = .ok (.lload_n 1, 1) := by decide +kernel
theorem dX5_digest_64 : decode cX5_digest 64 = .ok (.lmul, 1) := by decide +kernel
theorem dX5_digest_65 : decode cX5_digest 65 = .ok (.aload_n 0, 1) := by decide +kernel
theorem dX5_digest_66 : decode cX5_digest 66 = .ok (.getfield 10, 3) := by decide +kernel
theorem dX5_digest_69 : decode cX5_digest 69 = .ok (.iload_n 3, 1) := by decide +kernel
theorem dX5_digest_70 : decode cX5_digest 70 = .ok (.iload 4, 2) := by decide +kernel
theorem dX5_digest_72 : decode cX5_digest 72 = .ok (.invokevirtual 83, 3) := by decide +kernel
theorem dX5_digest_75 : decode cX5_digest 75 = .ok (.i2l, 1) := by decide +kernel
theorem dX5_digest_76 : decode cX5_digest 76 = .ok (.ladd, 1) := by decide +kernel
theorem dX5_digest_77 : decode cX5_digest 77 = .ok (.lstore_n 1, 1) := by decide +kernel
theorem dX5_digest_78 : decode cX5_digest 78 = .ok (.iinc 4 1, 3) := by decide +kernel
theorem dX5_digest_81 : decode cX5_digest 81 = .ok (.goto (-28), 3) := by decide +kernel
theorem dX5_digest_84 : decode cX5_digest 84 = .ok (.iinc 3 1, 3) := by decide +kernel
theorem dX5_digest_87 : decode cX5_digest 87 = .ok (.goto (-48), 3) := by decide +kernel
theorem dX5_digest_90 : decode cX5_digest 90 = .ok (.aload_n 0, 1) := by decide +kernel
theorem dX5_digest_91 : decode cX5_digest 91 = .ok (.getfield 26, 3) := by decide +kernel
theorem dX5_digest_94 : decode cX5_digest 94 = .ok (.aload_n 0, 1) := by decide +kernel
theorem dX5_digest_95 : decode cX5_digest 95 = .ok (.getfield 10, 3) := by decide +kernel
theorem dX5_digest_98 : decode cX5_digest 98 = .ok (.aload_n 0, 1) := by decide +kernel
theorem dX5_digest_99 : decode cX5_digest 99 = .ok (.getfield 19, 3) := by decide +kernel
theorem dX5_digest_102 : decode cX5_digest 102 = .ok (.invokevirtual 93, 3) := by decide +kernel
theorem dX5_digest_105 : decode cX5_digest 105 = .ok (.iconst 0, 1) := by decide +kernel
theorem dX5_digest_106 : decode cX5_digest 106 = .ok (.istore_n 3, 1) := by decide +kernel
theorem dX5_digest_107 : decode cX5_digest 107 = .ok (.iload_n 3, 1) := by decide +kernel
theorem dX5_digest_108 : decode cX5_digest 108 = .ok (.aload_n 0, 1) := by decide +kernel
theorem dX5_digest_109 : decode cX5_digest 109 = .ok (.getfield 10, 3) := by decide +kernel
theorem dX5_digest_112 : decode cX5_digest 112 = .ok (.getfield 55, 3) := by decide +kernel
theorem dX5_digest_115 : decode cX5_digest 115 = .ok (.if_icmp .ge 57, 3) := by decide +kernel
theorem dX5_digest_118 : decode cX5_digest 118 = .ok (.aload_n 0, 1) := by decide +kernel
theorem dX5_digest_119 : decode cX5_digest 119 = .ok (.getfield 10, 3) := by decide +kernel
theorem dX5_digest_122 : decode cX5_digest 122 = .ok (.getfield 73, 3) := by decide +kernel
theorem dX5_digest_125 : decode cX5_digest 125 = .ok (.iload_n 3, 1) := by decide +kernel
theorem dX5_digest_126 : decode cX5_digest 126 = .ok (.baload, 1) := by decide +kernel
theorem dX5_digest_127 : decode cX5_digest 127 = .ok (.ifCond .eq 39, 3) := by decide +kernel
theorem dX5_digest_130 : decode cX5_digest 130 = .ok (.iconst 0, 1) := by decide +kernel
theorem dX5_digest_131 : decode cX5_digest 131 = .ok (.istore 4, 2) := by decide +kernel
theorem dX5_digest_133 : decode cX5_digest 133 = .ok (.iload 4, 2) := by decide +kernel
theorem dX5_digest_135 : decode cX5_digest 135 = .ok (.aload_n 0, 1) := by decide +kernel
theorem dX5_digest_136 : decode cX5_digest 136 = .ok (.getfield 44, 3) := by decide +kernel
theorem dX5_digest_139 : decode cX5_digest 139 = .ok (.if_icmp .ge 27, 3) := by decide +kernel
theorem dX5_digest_142 : decode cX5_digest 142 = .ok (.ldc2_w 236, 3) := by decide +kernel
theorem dX5_digest_145 : decode cX5_digest 145 = .ok (.lload_n 1, 1) := by decide +kernel
theorem dX5_digest_146 : decode cX5_digest 146 = .ok (.lmul, 1) := by decide +kernel
theorem dX5_digest_147 : decode cX5_digest 147 = .ok (.aload_n 0, 1) := by decide +kernel
theorem dX5_digest_148 : decode cX5_digest 148 = .ok (.getfield 26, 3) := by decide +kernel
theorem dX5_digest_151 : decode cX5_digest 151 = .ok (.iload_n 3, 1) := by decide +kernel
theorem dX5_digest_152 : decode cX5_digest 152 = .ok (.iload 4, 2) := by decide +kernel
theorem dX5_digest_154 : decode cX5_digest 154 = .ok (.invokevirtual 97, 3) := by decide +kernel
theorem dX5_digest_157 : decode cX5_digest 157 = .ok (.i2l, 1) := by decide +kernel
theorem dX5_digest_158 : decode cX5_digest 158 = .ok (.ladd, 1) := by decide +kernel
theorem dX5_digest_159 : decode cX5_digest 159 = .ok (.lstore_n 1, 1) := by decide +kernel
theorem dX5_digest_160 : decode cX5_digest 160 = .ok (.iinc 4 1, 3) := by decide +kernel
theorem dX5_digest_163 : decode cX5_digest 163 = .ok (.goto (-30), 3) := by decide +kernel
theorem dX5_digest_166 : decode cX5_digest 166 = .ok (.iinc 3 1, 3) := by decide +kernel
theorem dX5_digest_169 : decode cX5_digest 169 = .ok (.goto (-62), 3) := by decide +kernel
theorem dX5_digest_172 : decode cX5_digest 172 = .ok (.ldc2_w 236, 3) := by decide +kernel
theorem dX5_digest_175 : decode cX5_digest 175 = .ok (.lload_n 1, 1) := by decide +kernel
theorem dX5_digest_176 : decode cX5_digest 176 = .ok (.lmul, 1) := by decide +kernel
theorem dX5_digest_177 : decode cX5_digest 177 = .ok (.aload_n 0, 1) := by decide +kernel
theorem dX5_digest_178 : decode cX5_digest 178 = .ok (.invokevirtual 241, 3) := by decide +kernel
theorem dX5_digest_181 : decode cX5_digest 181 = .ok (.i2l, 1) := by decide +kernel
theorem dX5_digest_182 : decode cX5_digest 182 = .ok (.ladd, 1) := by decide +kernel
theorem dX5_digest_183 : decode cX5_digest 183 = .ok (.lreturn, 1) := by decide +kernel
theorem dX5_isPrice_0 : decode cX5_isPrice 0 = .ok (.iload_n 0, 1) := by decide +kernel
theorem dX5_isPrice_1 : decode cX5_isPrice 1 = .ok (.ifCond .lt 14, 3) := by decide +kernel
theorem dX5_isPrice_4 : decode cX5_isPrice 4 = .ok (.iload_n 0, 1) := by decide +kernel
theorem dX5_isPrice_5 : decode cX5_isPrice 5 = .ok (.sipush 1000, 3) := by decide +kernel
theorem dX5_isPrice_8 : decode cX5_isPrice 8 = .ok (.if_icmp .gt 7, 3) := by decide +kernel
theorem dX5_isPrice_11 : decode cX5_isPrice 11 = .ok (.iconst 1, 1) := by decide +kernel
theorem dX5_isPrice_12 : decode cX5_isPrice 12 = .ok (.goto 4, 3) := by decide +kernel
theorem dX5_isPrice_15 : decode cX5_isPrice 15 = .ok (.iconst 0, 1) := by decide +kernel
theorem dX5_isPrice_16 : decode cX5_isPrice 16 = .ok (.ireturn, 1) := by decide +kernel
theorem dX5_isSheet_0 : decode cX5_isSheet 0 = .ok (.iload_n 0, 1) := by decide +kernel
theorem dX5_isSheet_1 : decode cX5_isSheet 1 = .ok (.ifCond .lt 12, 3) := by decide +kernel
theorem dX5_isSheet_4 : decode cX5_isSheet 4 = .ok (.iload_n 0, 1) := by decide +kernel
theorem dX5_isSheet_5 : decode cX5_isSheet 5 = .ok (.iconst 4, 1) := by decide +kernel
theorem dX5_isSheet_6 : decode cX5_isSheet 6 = .ok (.if_icmp .ge 7, 3) := by decide +kernel
theorem dX5_isSheet_9 : decode cX5_isSheet 9 = .ok (.iconst 1, 1) := by decide +kernel
theorem dX5_isSheet_10 : decode cX5_isSheet 10 = .ok (.goto 4, 3) := by decide +kernel
theorem dX5_isSheet_13 : decode cX5_isSheet 13 = .ok (.iconst 0, 1) := by decide +kernel
theorem dX5_isSheet_14 : decode cX5_isSheet 14 = .ok (.ireturn, 1) := by decide +kernel
theorem dX5_isForm_0 : decode cX5_isForm 0 = .ok (.iload_n 0, 1) := by decide +kernel
theorem dX5_isForm_1 : decode cX5_isForm 1 = .ok (.ifCond .lt 12, 3) := by decide +kernel
theorem dX5_isForm_4 : decode cX5_isForm 4 = .ok (.iload_n 0, 1) := by decide +kernel
theorem dX5_isForm_5 : decode cX5_isForm 5 = .ok (.iconst 3, 1) := by decide +kernel
theorem dX5_isForm_6 : decode cX5_isForm 6 = .ok (.if_icmp .ge 7, 3) := by decide +kernel
theorem dX5_isForm_9 : decode cX5_isForm 9 = .ok (.iconst 1, 1) := by decide +kernel
theorem dX5_isForm_10 : decode cX5_isForm 10 = .ok (.goto 4, 3) := by decide +kernel
theorem dX5_isForm_13 : decode cX5_isForm 13 = .ok (.iconst 0, 1) := by decide +kernel
theorem dX5_isForm_14 : decode cX5_isForm 14 = .ok (.ireturn, 1) := by decide +kernel
theorem dX5_howMany_0 : decode cX5_howMany 0 = .ok (.iconst 0, 1) := by decide +kernel
theorem dX5_howMany_1 : decode cX5_howMany 1 = .ok (.istore_n 1, 1) := by decide +kernel
theorem dX5_howMany_2 : decode cX5_howMany 2 = .ok (.iconst 0, 1) := by decide +kernel
theorem dX5_howMany_3 : decode cX5_howMany 3 = .ok (.istore_n 2, 1) := by decide +kernel
theorem dX5_howMany_4 : decode cX5_howMany 4 = .ok (.iload_n 2, 1) := by decide +kernel
theorem dX5_howMany_5 : decode cX5_howMany 5 = .ok (.aload_n 0, 1) := by decide +kernel
theorem dX5_howMany_6 : decode cX5_howMany 6 = .ok (.arraylength, 1) := by decide +kernel
theorem dX5_howMany_7 : decode cX5_howMany 7 = .ok (.if_icmp .ge 18, 3) := by decide +kernel
theorem dX5_howMany_10 : decode cX5_howMany 10 = .ok (.aload_n 0, 1) := by decide +kernel
theorem dX5_howMany_11 : decode cX5_howMany 11 = .ok (.iload_n 2, 1) := by decide +kernel
theorem dX5_howMany_12 : decode cX5_howMany 12 = .ok (.baload, 1) := by decide +kernel
theorem dX5_howMany_13 : decode cX5_howMany 13 = .ok (.ifCond .eq 6, 3) := by decide +kernel
theorem dX5_howMany_16 : decode cX5_howMany 16 = .ok (.iinc 1 1, 3) := by decide +kernel
theorem dX5_howMany_19 : decode cX5_howMany 19 = .ok (.iinc 2 1, 3) := by decide +kernel
theorem dX5_howMany_22 : decode cX5_howMany 22 = .ok (.goto (-18), 3) := by decide +kernel
theorem dX5_howMany_25 : decode cX5_howMany 25 = .ok (.iload_n 1, 1) := by decide +kernel
theorem dX5_howMany_26 : decode cX5_howMany 26 = .ok (.ireturn, 1) := by decide +kernel
theorem dX5_finding_0 : decode cX5_finding 0 = .ok (.aload_n 0, 1) := by decide +kernel
theorem dX5_finding_1 : decode cX5_finding 1 = .ok (.getfield 19, 3) := by decide +kernel
theorem dX5_finding_4 : decode cX5_finding 4 = .ok (.iload_n 1, 1) := by decide +kernel
theorem dX5_finding_5 : decode cX5_finding 5 = .ok (.putfield 215, 3) := by decide +kernel
theorem dX5_finding_8 : decode cX5_finding 8 = .ok (.bipush (-10), 2) := by decide +kernel
theorem dX5_finding_10 : decode cX5_finding 10 = .ok (.iload_n 1, 1) := by decide +kernel
theorem dX5_finding_11 : decode cX5_finding 11 = .ok (.isub, 1) := by decide +kernel
theorem dX5_finding_12 : decode cX5_finding 12 = .ok (.ireturn, 1) := by decide +kernel
theorem dX5_isRunTick_0 : decode cX5_isRunTick 0 = .ok (.iload_n 1, 1) := by decide +kernel
theorem dX5_isRunTick_1 : decode cX5_isRunTick 1 = .ok (.ifCond .lt 15, 3) := by decide +kernel
theorem dX5_isRunTick_4 : decode cX5_isRunTick 4 = .ok (.iload_n 1, 1) := by decide +kernel
theorem dX5_isRunTick_5 : decode cX5_isRunTick 5 = .ok (.aload_n 0, 1) := by decide +kernel
theorem dX5_isRunTick_6 : decode cX5_isRunTick 6 = .ok (.getfield 44, 3) := by decide +kernel
theorem dX5_isRunTick_9 : decode cX5_isRunTick 9 = .ok (.if_icmp .ge 7, 3) := by decide +kernel
theorem dX5_isRunTick_12 : decode cX5_isRunTick 12 = .ok (.iconst 1, 1) := by decide +kernel
theorem dX5_isRunTick_13 : decode cX5_isRunTick 13 = .ok (.goto 4, 3) := by decide +kernel
theorem dX5_isRunTick_16 : decode cX5_isRunTick 16 = .ok (.iconst 0, 1) := by decide +kernel
theorem dX5_isRunTick_17 : decode cX5_isRunTick 17 = .ok (.ireturn, 1) := by decide +kernel
set_option maxRecDepth 20000 in
theorem ggX5_isFlip_X5_isRunTick : GoodIn wsX5_isFlip wsX5_isRunTick := goodIn_r _ [6, 7, 23, 24, 25, 26, 27, 28, 29] (by decide +kernel) (by decide +kernel)
set_option maxRecDepth 20000 in
theorem gX5_isFlip_X5_isRunTick : GoodIn wsX5_isFlip (wsV RX5 135 RX5 yX5_isRunTick wsX5_isRunTick) := goodIn_app (goodIn_of _ (by decide +kernel)) ggX5_isFlip_X5_isRunTick
set_option maxRecDepth 20000 in
theorem ggX5_isFlip_X2_isCopy : GoodIn wsX5_isFlip wsX2_isCopy := goodIn_r _ [12, 13, 14, 15, 11, 16, 17, 18, 19, 20, 21, 22, 30, 31, 32, 33, 34, 35, 36, 37, 38, 39, 40, 41, 42] (by decide +kernel) (by decide +kernel)
set_option maxRecDepth 20000 in
theorem gX5_isFlip_X2_isCopy : GoodIn wsX5_isFlip (wsV RX5 100 RX2 yX2_isCopy wsX2_isCopy) := goodIn_app (goodIn_of _ (by decide +kernel)) ggX5_isFlip_X2_isCopy
theorem dX5_isFlip_0 : decode cX5_isFlip 0 = .ok (.aload_n 0, 1) := by decide +kernel
theorem dX5_isFlip_1 : decode cX5_isFlip 1 = .ok (.iload_n 1, 1) := by decide +kernel
theorem dX5_isFlip_2 : decode cX5_isFlip 2 = .ok (.invokevirtual 135, 3) := by decide +kernel
theorem dX5_isFlip_5 : decode cX5_isFlip 5 = .ok (.ifCond .eq 19, 3) := by decide +kernel
theorem dX5_isFlip_8 : decode cX5_isFlip 8 = .ok (.aload_n 0, 1) := by decide +kernel
theorem dX5_isFlip_9 : decode cX5_isFlip 9 = .ok (.getfield 10, 3) := by decide +kernel
theorem dX5_isFlip_12 : decode cX5_isFlip 12 = .ok (.iload_n 2, 1) := by decide +kernel
theorem dX5_isFlip_13 : decode cX5_isFlip 13 = .ok (.iload_n 3, 1) := by decide +kernel
theorem dX5_isFlip_14 : decode cX5_isFlip 14 = .ok (.invokevirtual 100, 3) := by decide +kernel
theorem dX5_isFlip_17 : decode cX5_isFlip 17 = .ok (.ifCond .eq 7, 3) := by decide +kernel
theorem dX5_isFlip_20 : decode cX5_isFlip 20 = .ok (.iconst 1, 1) := by decide +kernel
theorem dX5_isFlip_21 : decode cX5_isFlip 21 = .ok (.goto 4, 3) := by decide +kernel
theorem dX5_isFlip_24 : decode cX5_isFlip 24 = .ok (.iconst 0, 1) := by decide +kernel
theorem dX5_isFlip_25 : decode cX5_isFlip 25 = .ok (.ireturn, 1) := by decide +kernel
set_option maxRecDepth 20000 in
theorem ggX5_startRuns_X3_work : GoodIn wsX5_startRuns wsX3_work := goodIn_r _ [9, 10, 11, 12, 13, 14, 15, 16, 17, 18, 19, 20, 21, 22, 23, 24, 25, 26, 27, 8, 28, 29, 30, 31, 32, 33, 34, 35, 36, 37, 38, 62, 63, 64, 65, 66, 67, 68, 69, 70, 71, 72, 73, 74, 75, 76, 77, 78, 79] (by decide +kernel) (by decide +kernel)
set_option maxRecDepth 20000 in
theorem gX5_startRuns_X3_work : GoodIn wsX5_startRuns (wsV RX5 93 RX3 yX3_work wsX3_work) := goodIn_app (goodIn_of _ (by decide +kernel)) ggX5_startRuns_X3_work
set_option maxRecDepth 20000 in
theorem ggX5_startRuns_X0_begin : GoodIn wsX5_startRuns wsX0_begin := goodIn_r _ [43, 44, 45, 46, 47, 48, 49, 50, 51, 52, 53, 54, 80, 81, 82, 83, 84, 85, 86, 87, 88] (by decide +kernel) (by decide +kernel)
set_option maxRecDepth 20000 in
theorem gX5_startRuns_X0_begin : GoodIn wsX5_startRuns (wsV RX5 244 RX0 yX0_begin wsX0_begin) := goodIn_app (goodIn_of _ (by decide +kernel)) ggX5_startRuns_X0_begin
theorem dX5_startRuns_0 : decode cX5_startRuns 0 = .ok (.aload_n 0, 1) := by decide +kernel
theorem dX5_startRuns_1 : decode cX5_startRuns 1 = .ok (.getfield 26, 3) := by decide +kernel
theorem dX5_startRuns_4 : decode cX5_startRuns 4 = .ok (.aload_n 0, 1) := by decide +kernel
theorem dX5_startRuns_5 : decode cX5_startRuns 5 = .ok (.getfield 10, 3) := by decide +kernel
theorem dX5_startRuns_8 : decode cX5_startRuns 8 = .ok (.aload_n 0, 1) := by decide +kernel
theorem dX5_startRuns_9 : decode cX5_startRuns 9 = .ok (.getfield 19, 3) := by decide +kernel
theorem dX5_startRuns_12 : decode cX5_startRuns 12 = .ok (.invokevirtual 93, 3) := by decide +kernel
theorem dX5_startRuns_15 : decode cX5_startRuns 15 = .ok (.aload_n 0, 1) := by decide +kernel
theorem dX5_startRuns_16 : decode cX5_startRuns 16 = .ok (.getfield 33, 3) := by decide +kernel
theorem dX5_startRuns_19 : decode cX5_startRuns 19 = .ok (.invokevirtual 244, 3) := by decide +kernel
theorem dX5_startRuns_22 : decode cX5_startRuns 22 = .ok (.return_, 1) := by decide +kernel
set_option maxRecDepth 20000 in
theorem ggX5_runEachFlip_X5_startRuns : GoodIn wsX5_runEachFlip wsX5_startRuns := goodIn_r _ [9, 4, 2, 10, 3, 11, 12, 13, 14, 15, 16, 17, 18, 19, 20, 21, 22, 23, 24, 25, 26, 27, 28, 29, 30, 31, 32, 33, 34, 35, 36, 37, 38, 39, 40, 41, 42, 43, 44, 45, 46, 47, 48, 49, 50, 51, 52, 53, 54, 55, 56, 57, 58, 59, 60, 130, 131, 132, 133, 134, 135, 136, 137, 138, 139, 140, 141, 142, 143, 144, 145, 146, 147, 148, 149, 150, 151, 152, 153, 154, 155, 156, 157, 158, 159, 160, 161, 162, 163] (by decide +kernel) (by decide +kernel)
set_option maxRecDepth 20000 in
theorem gX5_runEachFlip_X5_startRuns : GoodIn wsX5_runEachFlip (wsV RX5 110 RX5 yX5_startRuns wsX5_startRuns) := goodIn_app (goodIn_of _ (by decide +kernel)) ggX5_runEachFlip_X5_startRuns
set_option maxRecDepth 20000 in
theorem ggX5_runEachFlip_X2_copies : GoodIn wsX5_runEachFlip wsX2_copies := goodIn_r _ [64, 65, 138, 139, 140, 141, 142, 143, 144, 145, 146, 147, 148, 149, 150] (by decide +kernel) (by decide +kernel)
set_option maxRecDepth 20000 in
theorem gX5_runEachFlip_X2_copies : GoodIn wsX5_runEachFlip (wsV RX5 180 RX2 yX2_copies wsX2_copies) := goodIn_app (goodIn_of _ (by decide +kernel)) ggX5_runEachFlip_X2_copies
set_option maxRecDepth 20000 in
theorem ggX5_runEachFlip_X0_mark : GoodIn wsX5_runEachFlip wsX0_mark := goodIn_r _ [69, 70, 50, 52, 71, 138, 139, 140, 141, 142, 143, 144, 145, 146, 147, 148, 149, 150, 155, 156, 157, 158, 159, 160, 161, 162, 163] (by decide +kernel) (by decide +kernel)
set_option maxRecDepth 20000 in
theorem gX5_runEachFlip_X0_mark : GoodIn wsX5_runEachFlip (wsV RX5 113 RX0 yX0_mark wsX0_mark) := goodIn_app (goodIn_of _ (by decide +kernel)) ggX5_runEachFlip_X0_mark
set_option maxRecDepth 20000 in
theorem ggX5_runEachFlip_X0_close : GoodIn wsX5_runEachFlip wsX0_close := goodIn_r _ [75, 52, 76, 77, 78, 48, 79, 51, 53, 71, 50, 80, 81, 82, 83, 84, 85, 86, 87, 88, 89, 90, 54, 55, 56, 57, 91, 92, 93, 94, 95, 96, 97, 98, 70, 99, 100, 101, 102, 103, 14, 104, 16, 105, 41, 42, 43, 44, 106, 107, 108, 109, 110, 111, 112, 113, 114, 115, 116, 117, 118, 119, 120, 121, 122, 123, 124, 125, 126, 127, 128, 155, 156, 157, 158, 159, 160, 161, 162, 163, 138, 139, 140, 141, 142, 143, 144, 145, 146, 147, 148, 149, 150, 137] (by decide +kernel) (by decide +kernel)
set_option maxRecDepth 20000 in
theorem gX5_runEachFlip_X0_close : GoodIn wsX5_runEachFlip (wsV RX5 247 RX0 yX0_close wsX0_close) := goodIn_app (goodIn_of _ (by decide +kernel)) ggX5_runEachFlip_X0_close
set_option maxRecDepth 20000 in
theorem ggX5_runEachFlip_X0_runAll : GoodIn wsX5_runEachFlip wsX0_runAll := goodIn_r _ [79, 52, 51, 53, 71, 50, 80, 81, 82, 48, 83, 84, 85, 86, 87, 88, 89, 90, 54, 55, 56, 57, 91, 92, 93, 94, 95, 96, 97, 98, 70, 99, 100, 101, 102, 103, 14, 104, 16, 105, 41, 42, 43, 44, 106, 107, 108, 109, 110, 111, 112, 113, 114, 115, 116, 117, 118, 119, 120, 121, 122, 123, 124, 125, 126, 127, 128, 155, 156, 157, 158, 159, 160, 161, 162, 163, 138, 139, 140, 141, 142, 143, 144, 145, 146, 147, 148, 149, 150, 137] (by decide +kernel) (by decide +kernel)
set_option maxRecDepth 20000 in
theorem gX5_runEachFlip_X0_runAll : GoodIn wsX5_runEachFlip (wsV RX5 141 RX0 yX0_runAll wsX0_runAll) := goodIn_app (goodIn_of _ (by decide +kernel)) ggX5_runEachFlip_X0_runAll
theorem dX5_runEachFlip_0 : decode cX5_runEachFlip 0 = .ok (.aload_n 0, 1) := by decide +kernel
theorem dX5_runEachFlip_1 : decode cX5_runEachFlip 1 = .ok (.invokevirtual 110, 3) := by decide +kernel
theorem dX5_runEachFlip_4 : decode cX5_runEachFlip 4 = .ok (.iconst 0, 1) := by decide +kernel
theorem dX5_runEachFlip_5 : decode cX5_runEachFlip 5 = .ok (.istore_n 3, 1) := by decide +kernel
theorem dX5_runEachFlip_6 : decode cX5_runEachFlip 6 = .ok (.iload_n 3, 1) := by decide +kernel
theorem dX5_runEachFlip_7 : decode cX5_runEachFlip 7 = .ok (.aload_n 0, 1) := by decide +kernel
theorem dX5_runEachFlip_8 : decode cX5_runEachFlip 8 = .ok (.getfield 44, 3) := by decide +kernel
theorem dX5_runEachFlip_11 : decode cX5_runEachFlip 11 = .ok (.if_icmp .ge 82, 3) := by decide +kernel
theorem dX5_runEachFlip_14 : decode cX5_runEachFlip 14 = .ok (.iload_n 1, 1) := by decide +kernel
theorem dX5_runEachFlip_15 : decode cX5_runEachFlip 15 = .ok (.istore 4, 2) := by decide +kernel
theorem dX5_runEachFlip_17 : decode cX5_runEachFlip 17 = .ok (.iload 4, 2) := by decide +kernel
theorem dX5_runEachFlip_19 : decode cX5_runEachFlip 19 = .ok (.iload_n 2, 1) := by decide +kernel
theorem dX5_runEachFlip_20 : decode cX5_runEachFlip 20 = .ok (.if_icmp .ge 67, 3) := by decide +kernel
theorem dX5_runEachFlip_23 : decode cX5_runEachFlip 23 = .ok (.iconst 0, 1) := by decide +kernel
theorem dX5_runEachFlip_24 : decode cX5_runEachFlip 24 = .ok (.istore 5, 2) := by decide +kernel
theorem dX5_runEachFlip_26 : decode cX5_runEachFlip 26 = .ok (.iload 5, 2) := by decide +kernel
theorem dX5_runEachFlip_28 : decode cX5_runEachFlip 28 = .ok (.aload_n 0, 1) := by decide +kernel
theorem dX5_runEachFlip_29 : decode cX5_runEachFlip 29 = .ok (.getfield 10, 3) := by decide +kernel
theorem dX5_runEachFlip_32 : decode cX5_runEachFlip 32 = .ok (.iload 4, 2) := by decide +kernel
theorem dX5_runEachFlip_34 : decode cX5_runEachFlip 34 = .ok (.invokevirtual 180, 3) := by decide +kernel
theorem dX5_runEachFlip_37 : decode cX5_runEachFlip 37 = .ok (.if_icmp .ge 44, 3) := by decide +kernel
theorem dX5_runEachFlip_40 : decode cX5_runEachFlip 40 = .ok (.aload_n 0, 1) := by decide +kernel
theorem dX5_runEachFlip_41 : decode cX5_runEachFlip 41 = .ok (.getfield 33, 3) := by decide +kernel
theorem dX5_runEachFlip_44 : decode cX5_runEachFlip 44 = .ok (.aload_n 0, 1) := by decide +kernel
theorem dX5_runEachFlip_45 : decode cX5_runEachFlip 45 = .ok (.getfield 10, 3) := by decide +kernel
theorem dX5_runEachFlip_48 : decode cX5_runEachFlip 48 = .ok (.iload_n 3, 1) := by decide +kernel
theorem dX5_runEachFlip_49 : decode cX5_runEachFlip 49 = .ok (.iload 4, 2) := by decide +kernel
theorem dX5_runEachFlip_51 : decode cX5_runEachFlip 51 = .ok (.iload 5, 2) := by decide +kernel
theorem dX5_runEachFlip_53 : decode cX5_runEachFlip 53 = .ok (.invokevirtual 113, 3) := by decide +kernel
theorem dX5_runEachFlip_56 : decode cX5_runEachFlip 56 = .ok (.aload_n 0, 1) := by decide +kernel
theorem dX5_runEachFlip_57 : decode cX5_runEachFlip 57 = .ok (.getfield 33, 3) := by decide +kernel
theorem dX5_runEachFlip_60 : decode cX5_runEachFlip 60 = .ok (.aload_n 0, 1) := by decide +kernel
theorem dX5_runEachFlip_61 : decode cX5_runEachFlip 61 = .ok (.getfield 10, 3) := by decide +kernel
theorem dX5_runEachFlip_64 : decode cX5_runEachFlip 64 = .ok (.aload_n 0, 1) := by decide +kernel
theorem dX5_runEachFlip_65 : decode cX5_runEachFlip 65 = .ok (.getfield 26, 3) := by decide +kernel
theorem dX5_runEachFlip_68 : decode cX5_runEachFlip 68 = .ok (.aload_n 0, 1) := by decide +kernel
theorem dX5_runEachFlip_69 : decode cX5_runEachFlip 69 = .ok (.getfield 44, 3) := by decide +kernel
theorem dX5_runEachFlip_72 : decode cX5_runEachFlip 72 = .ok (.invokevirtual 247, 3) := by decide +kernel
theorem dX5_runEachFlip_75 : decode cX5_runEachFlip 75 = .ok (.iinc 5 1, 3) := by decide +kernel
theorem dX5_runEachFlip_78 : decode cX5_runEachFlip 78 = .ok (.goto (-52), 3) := by decide +kernel
theorem dX5_runEachFlip_81 : decode cX5_runEachFlip 81 = .ok (.iinc 4 1, 3) := by decide +kernel
theorem dX5_runEachFlip_84 : decode cX5_runEachFlip 84 = .ok (.goto (-67), 3) := by decide +kernel
theorem dX5_runEachFlip_87 : decode cX5_runEachFlip 87 = .ok (.iinc 3 1, 3) := by decide +kernel
theorem dX5_runEachFlip_90 : decode cX5_runEachFlip 90 = .ok (.goto (-84), 3) := by decide +kernel
theorem dX5_runEachFlip_93 : decode cX5_runEachFlip 93 = .ok (.aload_n 0, 1) := by decide +kernel
theorem dX5_runEachFlip_94 : decode cX5_runEachFlip 94 = .ok (.getfield 33, 3) := by decide +kernel
theorem dX5_runEachFlip_97 : decode cX5_runEachFlip 97 = .ok (.aload_n 0, 1) := by decide +kernel
theorem dX5_runEachFlip_98 : decode cX5_runEachFlip 98 = .ok (.getfield 10, 3) := by decide +kernel
theorem dX5_runEachFlip_101 : decode cX5_runEachFlip 101 = .ok (.aload_n 0, 1) := by decide +kernel
theorem dX5_runEachFlip_102 : decode cX5_runEachFlip 102 = .ok (.getfield 26, 3) := by decide +kernel
theorem dX5_runEachFlip_105 : decode cX5_runEachFlip 105 = .ok (.aload_n 0, 1) := by decide +kernel
theorem dX5_runEachFlip_106 : decode cX5_runEachFlip 106 = .ok (.getfield 44, 3) := by decide +kernel
theorem dX5_runEachFlip_109 : decode cX5_runEachFlip 109 = .ok (.invokevirtual 141, 3) := by decide +kernel
theorem dX5_runEachFlip_112 : decode cX5_runEachFlip 112 = .ok (.return_, 1) := by decide +kernel
set_option maxRecDepth 20000 in
theorem ggX5_runEachPair_X2_isCopy : GoodIn wsX5_runEachPair wsX2_isCopy := goodIn_r _ [10, 11, 12, 13, 9, 14, 15, 16, 17, 18, 19, 20, 105, 106, 107, 108, 109, 110, 111, 112, 113, 114, 115, 116, 117] (by decide +kernel) (by decide +kernel)
set_option maxRecDepth 20000 in
theorem gX5_runEachPair_X2_isCopy : GoodIn wsX5_runEachPair (wsV RX5 100 RX2 yX2_isCopy wsX2_isCopy) := goodIn_app (goodIn_of _ (by decide +kernel)) ggX5_runEachPair_X2_isCopy
set_option maxRecDepth 20000 in
theorem ggX5_runEachPair_X0_mark : GoodIn wsX5_runEachPair wsX0_mark := goodIn_r _ [25, 26, 27, 28, 29, 105, 106, 107, 108, 109, 110, 111, 112, 113, 114, 115, 116, 117, 118, 119, 120, 121, 122, 123, 124, 125, 126] (by decide +kernel) (by decide +kernel)
set_option maxRecDepth 20000 in
theorem gX5_runEachPair_X0_mark : GoodIn wsX5_runEachPair (wsV RX5 113 RX0 yX0_mark wsX0_mark) := goodIn_app (goodIn_of _ (by decide +kernel)) ggX5_runEachPair_X0_mark
set_option maxRecDepth 20000 in
theorem ggX5_runEachPair_X0_close : GoodIn wsX5_runEachPair wsX0_close := goodIn_r _ [33, 28, 34, 35, 36, 24, 37, 38, 39, 29, 27, 40, 41, 42, 43, 44, 45, 46, 47, 48, 49, 50, 51, 52, 53, 54, 55, 56, 57, 58, 59, 60, 61, 62, 26, 63, 64, 65, 66, 67, 68, 69, 70, 71, 72, 9, 73, 74, 75, 76, 77, 78, 79, 80, 81, 82, 83, 84, 85, 86, 87, 88, 89, 90, 91, 92, 93, 94, 95, 96, 97, 118, 119, 120, 121, 122, 123, 124, 125, 126, 105, 106, 107, 108, 109, 110, 111, 112, 113, 114, 115, 116, 117, 127] (by decide +kernel) (by decide +kernel)
set_option maxRecDepth 20000 in
theorem gX5_runEachPair_X0_close : GoodIn wsX5_runEachPair (wsV RX5 247 RX0 yX0_close wsX0_close) := goodIn_app (goodIn_of _ (by decide +kernel)) ggX5_runEachPair_X0_close
theorem dX5_runEachPair_0 : decode cX5_runEachPair 0 = .ok (.iload_n 2, 1) := by decide +kernel
theorem dX5_runEachPair_1 : decode cX5_runEachPair 1 = .ok (.iconst 1, 1) := by decide +kernel
theorem dX5_runEachPair_2 : decode cX5_runEachPair 2 = .ok (.iadd, 1) := by decide +kernel
theorem dX5_runEachPair_3 : decode cX5_runEachPair 3 = .ok (.istore_n 3, 1) := by decide +kernel
theorem dX5_runEachPair_4 : decode cX5_runEachPair 4 = .ok (.iload_n 3, 1) := by decide +kernel
theorem dX5_runEachPair_5 : decode cX5_runEachPair 5 = .ok (.aload_n 0, 1) := by decide +kernel
theorem dX5_runEachPair_6 : decode cX5_runEachPair 6 = .ok (.getfield 10, 3) := by decide +kernel
theorem dX5_runEachPair_9 : decode cX5_runEachPair 9 = .ok (.getfield 55, 3) := by decide +kernel
theorem dX5_runEachPair_12 : decode cX5_runEachPair 12 = .ok (.iconst 3, 1) := by decide +kernel
theorem dX5_runEachPair_13 : decode cX5_runEachPair 13 = .ok (.imul, 1) := by decide +kernel
theorem dX5_runEachPair_14 : decode cX5_runEachPair 14 = .ok (.if_icmp .ge 80, 3) := by decide +kernel
theorem dX5_runEachPair_17 : decode cX5_runEachPair 17 = .ok (.aload_n 0, 1) := by decide +kernel
theorem dX5_runEachPair_18 : decode cX5_runEachPair 18 = .ok (.getfield 10, 3) := by decide +kernel
theorem dX5_runEachPair_21 : decode cX5_runEachPair 21 = .ok (.iload_n 3, 1) := by decide +kernel
theorem dX5_runEachPair_22 : decode cX5_runEachPair 22 = .ok (.iconst 3, 1) := by decide +kernel
theorem dX5_runEachPair_23 : decode cX5_runEachPair 23 = .ok (.idiv, 1) := by decide +kernel
theorem dX5_runEachPair_24 : decode cX5_runEachPair 24 = .ok (.iload_n 3, 1) := by decide +kernel
theorem dX5_runEachPair_25 : decode cX5_runEachPair 25 = .ok (.iconst 3, 1) := by decide +kernel
theorem dX5_runEachPair_26 : decode cX5_runEachPair 26 = .ok (.irem, 1) := by decide +kernel
theorem dX5_runEachPair_27 : decode cX5_runEachPair 27 = .ok (.invokevirtual 100, 3) := by decide +kernel
theorem dX5_runEachPair_30 : decode cX5_runEachPair 30 = .ok (.ifCond .eq 58, 3) := by decide +kernel
theorem dX5_runEachPair_33 : decode cX5_runEachPair 33 = .ok (.aload_n 0, 1) := by decide +kernel
theorem dX5_runEachPair_34 : decode cX5_runEachPair 34 = .ok (.getfield 33, 3) := by decide +kernel
theorem dX5_runEachPair_37 : decode cX5_runEachPair 37 = .ok (.aload_n 0, 1) := by decide +kernel
theorem dX5_runEachPair_38 : decode cX5_runEachPair 38 = .ok (.getfield 10, 3) := by decide +kernel
theorem dX5_runEachPair_41 : decode cX5_runEachPair 41 = .ok (.iload_n 1, 1) := by decide +kernel
theorem dX5_runEachPair_42 : decode cX5_runEachPair 42 = .ok (.iload_n 2, 1) := by decide +kernel
theorem dX5_runEachPair_43 : decode cX5_runEachPair 43 = .ok (.iconst 3, 1) := by decide +kernel
theorem dX5_runEachPair_44 : decode cX5_runEachPair 44 = .ok (.idiv, 1) := by decide +kernel
