theorem dX5_runEachPair_45 : decode cX5_runEachPair 45 = .ok (.iload_n 2, 1) := by decide +kernel
theorem dX5_runEachPair_46 : decode cX5_runEachPair 46 = .ok (.iconst 3, 1) := by decide +kernel
theorem dX5_runEachPair_47 : decode cX5_runEachPair 47 = .ok (.irem, 1) := by decide +kernel
theorem dX5_runEachPair_48 : decode cX5_runEachPair 48 = .ok (.invokevirtual 113, 3) := by decide +kernel
theorem dX5_runEachPair_51 : decode cX5_runEachPair 51 = .ok (.aload_n 0, 1) := by decide +kernel
theorem dX5_runEachPair_52 : decode cX5_runEachPair 52 = .ok (.getfield 33, 3) := by decide +kernel
theorem dX5_runEachPair_55 : decode cX5_runEachPair 55 = .ok (.aload_n 0, 1) := by decide +kernel
theorem dX5_runEachPair_56 : decode cX5_runEachPair 56 = .ok (.getfield 10, 3) := by decide +kernel
theorem dX5_runEachPair_59 : decode cX5_runEachPair 59 = .ok (.iload_n 1, 1) := by decide +kernel
theorem dX5_runEachPair_60 : decode cX5_runEachPair 60 = .ok (.iload_n 3, 1) := by decide +kernel
theorem dX5_runEachPair_61 : decode cX5_runEachPair 61 = .ok (.iconst 3, 1) := by decide +kernel
theorem dX5_runEachPair_62 : decode cX5_runEachPair 62 = .ok (.idiv, 1) := by decide +kernel
theorem dX5_runEachPair_63 : decode cX5_runEachPair 63 = .ok (.iload_n 3, 1) := by decide +kernel
theorem dX5_runEachPair_64 : decode cX5_runEachPair 64 = .ok (.iconst 3, 1) := by decide +kernel
theorem dX5_runEachPair_65 : decode cX5_runEachPair 65 = .ok (.irem, 1) := by decide +kernel
theorem dX5_runEachPair_66 : decode cX5_runEachPair 66 = .ok (.invokevirtual 113, 3) := by decide +kernel
theorem dX5_runEachPair_69 : decode cX5_runEachPair 69 = .ok (.aload_n 0, 1) := by decide +kernel
theorem dX5_runEachPair_70 : decode cX5_runEachPair 70 = .ok (.getfield 33, 3) := by decide +kernel
theorem dX5_runEachPair_73 : decode cX5_runEachPair 73 = .ok (.aload_n 0, 1) := by decide +kernel
theorem dX5_runEachPair_74 : decode cX5_runEachPair 74 = .ok (.getfield 10, 3) := by decide +kernel
theorem dX5_runEachPair_77 : decode cX5_runEachPair 77 = .ok (.aload_n 0, 1) := by decide +kernel
theorem dX5_runEachPair_78 : decode cX5_runEachPair 78 = .ok (.getfield 26, 3) := by decide +kernel
theorem dX5_runEachPair_81 : decode cX5_runEachPair 81 = .ok (.aload_n 0, 1) := by decide +kernel
theorem dX5_runEachPair_82 : decode cX5_runEachPair 82 = .ok (.getfield 44, 3) := by decide +kernel
theorem dX5_runEachPair_85 : decode cX5_runEachPair 85 = .ok (.invokevirtual 247, 3) := by decide +kernel
theorem dX5_runEachPair_88 : decode cX5_runEachPair 88 = .ok (.iinc 3 1, 3) := by decide +kernel
theorem dX5_runEachPair_91 : decode cX5_runEachPair 91 = .ok (.goto (-87), 3) := by decide +kernel
theorem dX5_runEachPair_94 : decode cX5_runEachPair 94 = .ok (.return_, 1) := by decide +kernel
theorem dX6_init_0 : decode cX6_init 0 = .ok (.aload_n 0, 1) := by decide +kernel
theorem dX6_init_1 : decode cX6_init 1 = .ok (.invokespecial 1, 3) := by decide +kernel
theorem dX6_init_4 : decode cX6_init 4 = .ok (.aload_n 0, 1) := by decide +kernel
theorem dX6_init_5 : decode cX6_init 5 = .ok (.bipush 24, 2) := by decide +kernel
theorem dX6_init_7 : decode cX6_init 7 = .ok (.newarray .int, 2) := by decide +kernel
theorem dX6_init_9 : decode cX6_init 9 = .ok (.putfield 7, 3) := by decide +kernel
theorem dX6_init_12 : decode cX6_init 12 = .ok (.aload_n 0, 1) := by decide +kernel
theorem dX6_init_13 : decode cX6_init 13 = .ok (.bipush 24, 2) := by decide +kernel
theorem dX6_init_15 : decode cX6_init 15 = .ok (.newarray .int, 2) := by decide +kernel
theorem dX6_init_17 : decode cX6_init 17 = .ok (.putfield 13, 3) := by decide +kernel
theorem dX6_init_20 : decode cX6_init 20 = .ok (.aload_n 0, 1) := by decide +kernel
theorem dX6_init_21 : decode cX6_init 21 = .ok (.bipush 24, 2) := by decide +kernel
theorem dX6_init_23 : decode cX6_init 23 = .ok (.newarray .int, 2) := by decide +kernel
theorem dX6_init_25 : decode cX6_init 25 = .ok (.putfield 16, 3) := by decide +kernel
theorem dX6_init_28 : decode cX6_init 28 = .ok (.aload_n 0, 1) := by decide +kernel
theorem dX6_init_29 : decode cX6_init 29 = .ok (.bipush 24, 2) := by decide +kernel
theorem dX6_init_31 : decode cX6_init 31 = .ok (.newarray .boolean, 2) := by decide +kernel
theorem dX6_init_33 : decode cX6_init 33 = .ok (.putfield 19, 3) := by decide +kernel
theorem dX6_init_36 : decode cX6_init 36 = .ok (.aload_n 0, 1) := by decide +kernel
theorem dX6_init_37 : decode cX6_init 37 = .ok (.bipush 24, 2) := by decide +kernel
theorem dX6_init_39 : decode cX6_init 39 = .ok (.newarray .boolean, 2) := by decide +kernel
theorem dX6_init_41 : decode cX6_init 41 = .ok (.putfield 23, 3) := by decide +kernel
theorem dX6_init_44 : decode cX6_init 44 = .ok (.aload_n 0, 1) := by decide +kernel
theorem dX6_init_45 : decode cX6_init 45 = .ok (.bipush 24, 2) := by decide +kernel
theorem dX6_init_47 : decode cX6_init 47 = .ok (.newarray .boolean, 2) := by decide +kernel
theorem dX6_init_49 : decode cX6_init 49 = .ok (.putfield 26, 3) := by decide +kernel
theorem dX6_init_52 : decode cX6_init 52 = .ok (.aload_n 0, 1) := by decide +kernel
theorem dX6_init_53 : decode cX6_init 53 = .ok (.bipush 24, 2) := by decide +kernel
theorem dX6_init_55 : decode cX6_init 55 = .ok (.newarray .int, 2) := by decide +kernel
theorem dX6_init_57 : decode cX6_init 57 = .ok (.putfield 29, 3) := by decide +kernel
theorem dX6_init_60 : decode cX6_init 60 = .ok (.aload_n 0, 1) := by decide +kernel
theorem dX6_init_61 : decode cX6_init 61 = .ok (.bipush 24, 2) := by decide +kernel
theorem dX6_init_63 : decode cX6_init 63 = .ok (.newarray .int, 2) := by decide +kernel
theorem dX6_init_65 : decode cX6_init 65 = .ok (.putfield 32, 3) := by decide +kernel
theorem dX6_init_68 : decode cX6_init 68 = .ok (.aload_n 0, 1) := by decide +kernel
theorem dX6_init_69 : decode cX6_init 69 = .ok (.bipush 8, 2) := by decide +kernel
theorem dX6_init_71 : decode cX6_init 71 = .ok (.putfield 35, 3) := by decide +kernel
theorem dX6_init_74 : decode cX6_init 74 = .ok (.aload_n 0, 1) := by decide +kernel
theorem dX6_init_75 : decode cX6_init 75 = .ok (.iconst 1, 1) := by decide +kernel
theorem dX6_init_76 : decode cX6_init 76 = .ok (.putfield 39, 3) := by decide +kernel
theorem dX6_init_79 : decode cX6_init 79 = .ok (.aload_n 0, 1) := by decide +kernel
theorem dX6_init_80 : decode cX6_init 80 = .ok (.sipush 408, 3) := by decide +kernel
theorem dX6_init_83 : decode cX6_init 83 = .ok (.newarray .int, 2) := by decide +kernel
theorem dX6_init_85 : decode cX6_init 85 = .ok (.putfield 42, 3) := by decide +kernel
theorem dX6_init_88 : decode cX6_init 88 = .ok (.aload_n 0, 1) := by decide +kernel
theorem dX6_init_89 : decode cX6_init 89 = .ok (.bipush 72, 2) := by decide +kernel
theorem dX6_init_91 : decode cX6_init 91 = .ok (.newarray .int, 2) := by decide +kernel
theorem dX6_init_93 : decode cX6_init 93 = .ok (.putfield 45, 3) := by decide +kernel
theorem dX6_init_96 : decode cX6_init 96 = .ok (.aload_n 0, 1) := by decide +kernel
theorem dX6_init_97 : decode cX6_init 97 = .ok (.bipush 72, 2) := by decide +kernel
theorem dX6_init_99 : decode cX6_init 99 = .ok (.newarray .int, 2) := by decide +kernel
theorem dX6_init_101 : decode cX6_init 101 = .ok (.putfield 48, 3) := by decide +kernel
theorem dX6_init_104 : decode cX6_init 104 = .ok (.aload_n 0, 1) := by decide +kernel
theorem dX6_init_105 : decode cX6_init 105 = .ok (.bipush 6, 2) := by decide +kernel
theorem dX6_init_107 : decode cX6_init 107 = .ok (.newarray .int, 2) := by decide +kernel
theorem dX6_init_109 : decode cX6_init 109 = .ok (.putfield 51, 3) := by decide +kernel
theorem dX6_init_112 : decode cX6_init 112 = .ok (.aload_n 0, 1) := by decide +kernel
theorem dX6_init_113 : decode cX6_init 113 = .ok (.bipush 24, 2) := by decide +kernel
theorem dX6_init_115 : decode cX6_init 115 = .ok (.newarray .int, 2) := by decide +kernel
theorem dX6_init_117 : decode cX6_init 117 = .ok (.putfield 54, 3) := by decide +kernel
theorem dX6_init_120 : decode cX6_init 120 = .ok (.aload_n 0, 1) := by decide +kernel
theorem dX6_init_121 : decode cX6_init 121 = .ok (.bipush 24, 2) := by decide +kernel
theorem dX6_init_123 : decode cX6_init 123 = .ok (.newarray .int, 2) := by decide +kernel
theorem dX6_init_125 : decode cX6_init 125 = .ok (.putfield 57, 3) := by decide +kernel
theorem dX6_init_128 : decode cX6_init 128 = .ok (.aload_n 0, 1) := by decide +kernel
theorem dX6_init_129 : decode cX6_init 129 = .ok (.bipush 24, 2) := by decide +kernel
theorem dX6_init_131 : decode cX6_init 131 = .ok (.newarray .int, 2) := by decide +kernel
theorem dX6_init_133 : decode cX6_init 133 = .ok (.putfield 60, 3) := by decide +kernel
theorem dX6_init_136 : decode cX6_init 136 = .ok (.aload_n 0, 1) := by decide +kernel
theorem dX6_init_137 : decode cX6_init 137 = .ok (.iconst 4, 1) := by decide +kernel
theorem dX6_init_138 : decode cX6_init 138 = .ok (.newarray .boolean, 2) := by decide +kernel
theorem dX6_init_140 : decode cX6_init 140 = .ok (.putfield 63, 3) := by decide +kernel
theorem dX6_init_143 : decode cX6_init 143 = .ok (.aload_n 0, 1) := by decide +kernel
theorem dX6_init_144 : decode cX6_init 144 = .ok (.iconst 4, 1) := by decide +kernel
theorem dX6_init_145 : decode cX6_init 145 = .ok (.newarray .int, 2) := by decide +kernel
theorem dX6_init_147 : decode cX6_init 147 = .ok (.putfield 66, 3) := by decide +kernel
theorem dX6_init_150 : decode cX6_init 150 = .ok (.aload_n 0, 1) := by decide +kernel
theorem dX6_init_151 : decode cX6_init 151 = .ok (.iconst 4, 1) := by decide +kernel
theorem dX6_init_152 : decode cX6_init 152 = .ok (.newarray .int, 2) := by decide +kernel
theorem dX6_init_154 : decode cX6_init 154 = .ok (.putfield 69, 3) := by decide +kernel
theorem dX6_init_157 : decode cX6_init 157 = .ok (.aload_n 0, 1) := by decide +kernel
theorem dX6_init_158 : decode cX6_init 158 = .ok (.sipush 240, 3) := by decide +kernel
theorem dX6_init_161 : decode cX6_init 161 = .ok (.newarray .int, 2) := by decide +kernel
theorem dX6_init_163 : decode cX6_init 163 = .ok (.putfield 72, 3) := by decide +kernel
theorem dX6_init_166 : decode cX6_init 166 = .ok (.aload_n 0, 1) := by decide +kernel
theorem dX6_init_167 : decode cX6_init 167 = .ok (.bipush 60, 2) := by decide +kernel
theorem dX6_init_169 : decode cX6_init 169 = .ok (.newarray .int, 2) := by decide +kernel
theorem dX6_init_171 : decode cX6_init 171 = .ok (.putfield 75, 3) := by decide +kernel
theorem dX6_init_174 : decode cX6_init 174 = .ok (.return_, 1) := by decide +kernel
theorem dX6_in_0 : decode cX6_in 0 = .ok (.iload_n 0, 1) := by decide +kernel
theorem dX6_in_1 : decode cX6_in 1 = .ok (.iload_n 1, 1) := by decide +kernel
theorem dX6_in_2 : decode cX6_in 2 = .ok (.if_icmp .lt 12, 3) := by decide +kernel
theorem dX6_in_5 : decode cX6_in 5 = .ok (.iload_n 0, 1) := by decide +kernel
theorem dX6_in_6 : decode cX6_in 6 = .ok (.iload_n 2, 1) := by decide +kernel
theorem dX6_in_7 : decode cX6_in 7 = .ok (.if_icmp .gt 7, 3) := by decide +kernel
theorem dX6_in_10 : decode cX6_in 10 = .ok (.iconst 1, 1) := by decide +kernel
theorem dX6_in_11 : decode cX6_in 11 = .ok (.goto 4, 3) := by decide +kernel
theorem dX6_in_14 : decode cX6_in 14 = .ok (.iconst 0, 1) := by decide +kernel
theorem dX6_in_15 : decode cX6_in 15 = .ok (.ireturn, 1) := by decide +kernel
set_option maxRecDepth 20000 in
theorem ggX6_isNode_X6_in : GoodIn wsX6_isNode wsX6_in := goodIn_r _ [5] (by decide +kernel) (by decide +kernel)
set_option maxRecDepth 20000 in
theorem gX6_isNode_X6_in : GoodIn wsX6_isNode (va_wsS RX6 81 yX6_in wsX6_in) := goodIn_app (goodIn_of _ (by decide +kernel)) ggX6_isNode_X6_in
theorem dX6_isNode_0 : decode cX6_isNode 0 = .ok (.iload_n 1, 1) := by decide +kernel
theorem dX6_isNode_1 : decode cX6_isNode 1 = .ok (.iconst 0, 1) := by decide +kernel
theorem dX6_isNode_2 : decode cX6_isNode 2 = .ok (.aload_n 0, 1) := by decide +kernel
theorem dX6_isNode_3 : decode cX6_isNode 3 = .ok (.getfield 78, 3) := by decide +kernel
theorem dX6_isNode_6 : decode cX6_isNode 6 = .ok (.iconst 1, 1) := by decide +kernel
theorem dX6_isNode_7 : decode cX6_isNode 7 = .ok (.isub, 1) := by decide +kernel
theorem dX6_isNode_8 : decode cX6_isNode 8 = .ok (.invokestatic 81, 3) := by decide +kernel
theorem dX6_isNode_11 : decode cX6_isNode 11 = .ok (.ireturn, 1) := by decide +kernel
set_option maxRecDepth 20000 in
theorem ggX6_isStore_X6_isNode : GoodIn wsX6_isStore wsX6_isNode := goodIn_r _ [6, 7, 8, 9, 5, 10, 11, 12, 13, 14, 15, 16, 17, 18, 19, 20, 21, 22, 23, 24, 25, 26, 27, 28, 29, 30, 31, 32, 33, 34, 35, 36] (by decide +kernel) (by decide +kernel)
set_option maxRecDepth 20000 in
theorem gX6_isStore_X6_isNode : GoodIn wsX6_isStore (wsV RX6 85 RX6 yX6_isNode wsX6_isNode) := goodIn_app (goodIn_of _ (by decide +kernel)) ggX6_isStore_X6_isNode
theorem dX6_isStore_0 : decode cX6_isStore 0 = .ok (.aload_n 0, 1) := by decide +kernel
theorem dX6_isStore_1 : decode cX6_isStore 1 = .ok (.iload_n 1, 1) := by decide +kernel
theorem dX6_isStore_2 : decode cX6_isStore 2 = .ok (.invokevirtual 85, 3) := by decide +kernel
theorem dX6_isStore_5 : decode cX6_isStore 5 = .ok (.ifCond .eq 17, 3) := by decide +kernel
theorem dX6_isStore_8 : decode cX6_isStore 8 = .ok (.aload_n 0, 1) := by decide +kernel
theorem dX6_isStore_9 : decode cX6_isStore 9 = .ok (.getfield 7, 3) := by decide +kernel
theorem dX6_isStore_12 : decode cX6_isStore 12 = .ok (.iload_n 1, 1) := by decide +kernel
theorem dX6_isStore_13 : decode cX6_isStore 13 = .ok (.iaload, 1) := by decide +kernel
theorem dX6_isStore_14 : decode cX6_isStore 14 = .ok (.iconst 5, 1) := by decide +kernel
theorem dX6_isStore_15 : decode cX6_isStore 15 = .ok (.if_icmp .ne 7, 3) := by decide +kernel
theorem dX6_isStore_18 : decode cX6_isStore 18 = .ok (.iconst 1, 1) := by decide +kernel
theorem dX6_isStore_19 : decode cX6_isStore 19 = .ok (.goto 4, 3) := by decide +kernel
theorem dX6_isStore_22 : decode cX6_isStore 22 = .ok (.iconst 0, 1) := by decide +kernel
theorem dX6_isStore_23 : decode cX6_isStore 23 = .ok (.ireturn, 1) := by decide +kernel
set_option maxRecDepth 20000 in
theorem ggX6_node_X6_in : GoodIn wsX6_node wsX6_in := goodIn_r _ [12] (by decide +kernel) (by decide +kernel)
set_option maxRecDepth 20000 in
theorem gX6_node_X6_in : GoodIn wsX6_node (va_wsS RX6 81 yX6_in wsX6_in) := goodIn_app (goodIn_of _ (by decide +kernel)) ggX6_node_X6_in
set_option maxRecDepth 20000 in
theorem ggX6_node_X6_isNode : GoodIn wsX6_node wsX6_isNode := goodIn_r _ [16, 1, 9, 10, 11, 12, 17, 18, 19, 20, 21, 22, 23, 24, 25, 26, 27, 28, 29, 30, 31, 32, 33, 34, 35, 36, 37, 38, 39, 40, 41, 42] (by decide +kernel) (by decide +kernel)
set_option maxRecDepth 20000 in
theorem gX6_node_X6_isNode : GoodIn wsX6_node (wsV RX6 85 RX6 yX6_isNode wsX6_isNode) := goodIn_app (goodIn_of _ (by decide +kernel)) ggX6_node_X6_isNode
theorem dX6_node_0 : decode cX6_node 0 = .ok (.iload_n 1, 1) := by decide +kernel
theorem dX6_node_1 : decode cX6_node 1 = .ok (.iconst 1, 1) := by decide +kernel
theorem dX6_node_2 : decode cX6_node 2 = .ok (.iconst 4, 1) := by decide +kernel
theorem dX6_node_3 : decode cX6_node 3 = .ok (.invokestatic 81, 3) := by decide +kernel
theorem dX6_node_6 : decode cX6_node 6 = .ok (.istore 4, 2) := by decide +kernel
theorem dX6_node_8 : decode cX6_node 8 = .ok (.iload_n 1, 1) := by decide +kernel
theorem dX6_node_9 : decode cX6_node 9 = .ok (.iconst 2, 1) := by decide +kernel
theorem dX6_node_10 : decode cX6_node 10 = .ok (.iconst 4, 1) := by decide +kernel
theorem dX6_node_11 : decode cX6_node 11 = .ok (.invokestatic 81, 3) := by decide +kernel
theorem dX6_node_14 : decode cX6_node 14 = .ok (.istore 5, 2) := by decide +kernel
theorem dX6_node_16 : decode cX6_node 16 = .ok (.iload_n 1, 1) := by decide +kernel
theorem dX6_node_17 : decode cX6_node 17 = .ok (.iconst 0, 1) := by decide +kernel
theorem dX6_node_18 : decode cX6_node 18 = .ok (.iconst 5, 1) := by decide +kernel
theorem dX6_node_19 : decode cX6_node 19 = .ok (.invokestatic 81, 3) := by decide +kernel
theorem dX6_node_22 : decode cX6_node 22 = .ok (.ifCond .eq 45, 3) := by decide +kernel
theorem dX6_node_25 : decode cX6_node 25 = .ok (.iload 4, 2) := by decide +kernel
theorem dX6_node_27 : decode cX6_node 27 = .ok (.ifCond .eq 14, 3) := by decide +kernel
theorem dX6_node_30 : decode cX6_node 30 = .ok (.aload_n 0, 1) := by decide +kernel
theorem dX6_node_31 : decode cX6_node 31 = .ok (.iload_n 2, 1) := by decide +kernel
theorem dX6_node_32 : decode cX6_node 32 = .ok (.invokevirtual 85, 3) := by decide +kernel
theorem dX6_node_35 : decode cX6_node 35 = .ok (.ifCond .ne 11, 3) := by decide +kernel
theorem dX6_node_38 : decode cX6_node 38 = .ok (.goto 29, 3) := by decide +kernel
theorem dX6_node_41 : decode cX6_node 41 = .ok (.iload_n 2, 1) := by decide +kernel
theorem dX6_node_42 : decode cX6_node 42 = .ok (.iconst (-1), 1) := by decide +kernel
theorem dX6_node_43 : decode cX6_node 43 = .ok (.if_icmp .ne 24, 3) := by decide +kernel
theorem dX6_node_46 : decode cX6_node 46 = .ok (.iload 5, 2) := by decide +kernel
theorem dX6_node_48 : decode cX6_node 48 = .ok (.ifCond .eq 14, 3) := by decide +kernel
theorem dX6_node_51 : decode cX6_node 51 = .ok (.aload_n 0, 1) := by decide +kernel
theorem dX6_node_52 : decode cX6_node 52 = .ok (.iload_n 3, 1) := by decide +kernel
theorem dX6_node_53 : decode cX6_node 53 = .ok (.invokevirtual 85, 3) := by decide +kernel
theorem dX6_node_56 : decode cX6_node 56 = .ok (.ifCond .ne 14, 3) := by decide +kernel
theorem dX6_node_59 : decode cX6_node 59 = .ok (.goto 8, 3) := by decide +kernel
theorem dX6_node_62 : decode cX6_node 62 = .ok (.iload_n 3, 1) := by decide +kernel
theorem dX6_node_63 : decode cX6_node 63 = .ok (.iconst (-1), 1) := by decide +kernel
theorem dX6_node_64 : decode cX6_node 64 = .ok (.if_icmp .eq 6, 3) := by decide +kernel
theorem dX6_node_67 : decode cX6_node 67 = .ok (.bipush (-2), 2) := by decide +kernel
theorem dX6_node_69 : decode cX6_node 69 = .ok (.ireturn, 1) := by decide +kernel
theorem dX6_node_70 : decode cX6_node 70 = .ok (.aload_n 0, 1) := by decide +kernel
theorem dX6_node_71 : decode cX6_node 71 = .ok (.getfield 78, 3) := by decide +kernel
theorem dX6_node_74 : decode cX6_node 74 = .ok (.bipush 24, 2) := by decide +kernel
theorem dX6_node_76 : decode cX6_node 76 = .ok (.if_icmp .ne 6, 3) := by decide +kernel
theorem dX6_node_79 : decode cX6_node 79 = .ok (.bipush (-4), 2) := by decide +kernel
theorem dX6_node_81 : decode cX6_node 81 = .ok (.ireturn, 1) := by decide +kernel
theorem dX6_node_82 : decode cX6_node 82 = .ok (.aload_n 0, 1) := by decide +kernel
theorem dX6_node_83 : decode cX6_node 83 = .ok (.getfield 7, 3) := by decide +kernel
theorem dX6_node_86 : decode cX6_node 86 = .ok (.aload_n 0, 1) := by decide +kernel
theorem dX6_node_87 : decode cX6_node 87 = .ok (.getfield 78, 3) := by decide +kernel
theorem dX6_node_90 : decode cX6_node 90 = .ok (.iload_n 1, 1) := by decide +kernel
theorem dX6_node_91 : decode cX6_node 91 = .ok (.iastore, 1) := by decide +kernel
theorem dX6_node_92 : decode cX6_node 92 = .ok (.aload_n 0, 1) := by decide +kernel
theorem dX6_node_93 : decode cX6_node 93 = .ok (.getfield 13, 3) := by decide +kernel
theorem dX6_node_96 : decode cX6_node 96 = .ok (.aload_n 0, 1) := by decide +kernel
theorem dX6_node_97 : decode cX6_node 97 = .ok (.getfield 78, 3) := by decide +kernel
theorem dX6_node_100 : decode cX6_node 100 = .ok (.iload_n 1, 1) := by decide +kernel
theorem dX6_node_101 : decode cX6_node 101 = .ok (.iconst 5, 1) := by decide +kernel
theorem dX6_node_102 : decode cX6_node 102 = .ok (.if_icmp .ne 10, 3) := by decide +kernel
theorem dX6_node_105 : decode cX6_node 105 = .ok (.aload_n 0, 1) := by decide +kernel
theorem dX6_node_106 : decode cX6_node 106 = .ok (.getfield 78, 3) := by decide +kernel
theorem dX6_node_109 : decode cX6_node 109 = .ok (.goto 4, 3) := by decide +kernel
theorem dX6_node_112 : decode cX6_node 112 = .ok (.iload_n 2, 1) := by decide +kernel
theorem dX6_node_113 : decode cX6_node 113 = .ok (.iastore, 1) := by decide +kernel
theorem dX6_node_114 : decode cX6_node 114 = .ok (.aload_n 0, 1) := by decide +kernel
theorem dX6_node_115 : decode cX6_node 115 = .ok (.getfield 16, 3) := by decide +kernel
theorem dX6_node_118 : decode cX6_node 118 = .ok (.aload_n 0, 1) := by decide +kernel
theorem dX6_node_119 : decode cX6_node 119 = .ok (.getfield 78, 3) := by decide +kernel
theorem dX6_node_122 : decode cX6_node 122 = .ok (.iload_n 3, 1) := by decide +kernel
theorem dX6_node_123 : decode cX6_node 123 = .ok (.iastore, 1) := by decide +kernel
theorem dX6_node_124 : decode cX6_node 124 = .ok (.aload_n 0, 1) := by decide +kernel
theorem dX6_node_125 : decode cX6_node 125 = .ok (.getfield 29, 3) := by decide +kernel
theorem dX6_node_128 : decode cX6_node 128 = .ok (.aload_n 0, 1) := by decide +kernel
theorem dX6_node_129 : decode cX6_node 129 = .ok (.getfield 78, 3) := by decide +kernel
theorem dX6_node_132 : decode cX6_node 132 = .ok (.iconst 1, 1) := by decide +kernel
theorem dX6_node_133 : decode cX6_node 133 = .ok (.iastore, 1) := by decide +kernel
theorem dX6_node_134 : decode cX6_node 134 = .ok (.aload_n 0, 1) := by decide +kernel
theorem dX6_node_135 : decode cX6_node 135 = .ok (.getfield 32, 3) := by decide +kernel
theorem dX6_node_138 : decode cX6_node 138 = .ok (.aload_n 0, 1) := by decide +kernel
theorem dX6_node_139 : decode cX6_node 139 = .ok (.getfield 78, 3) := by decide +kernel
theorem dX6_node_142 : decode cX6_node 142 = .ok (.iload_n 1, 1) := by decide +kernel
theorem dX6_node_143 : decode cX6_node 143 = .ok (.ifCond .ne 10, 3) := by decide +kernel
theorem dX6_node_146 : decode cX6_node 146 = .ok (.aload_n 0, 1) := by decide +kernel
theorem dX6_node_147 : decode cX6_node 147 = .ok (.getfield 89, 3) := by decide +kernel
theorem dX6_node_150 : decode cX6_node 150 = .ok (.goto 16, 3) := by decide +kernel
theorem dX6_node_153 : decode cX6_node 153 = .ok (.iload_n 1, 1) := by decide +kernel
theorem dX6_node_154 : decode cX6_node 154 = .ok (.iconst 5, 1) := by decide +kernel
theorem dX6_node_155 : decode cX6_node 155 = .ok (.if_icmp .ne 10, 3) := by decide +kernel
theorem dX6_node_158 : decode cX6_node 158 = .ok (.aload_n 0, 1) := by decide +kernel
theorem dX6_node_159 : decode cX6_node 159 = .ok (.getfield 92, 3) := by decide +kernel
theorem dX6_node_162 : decode cX6_node 162 = .ok (.goto 4, 3) := by decide +kernel
theorem dX6_node_165 : decode cX6_node 165 = .ok (.iconst (-1), 1) := by decide +kernel
theorem dX6_node_166 : decode cX6_node 166 = .ok (.iastore, 1) := by decide +kernel
theorem dX6_node_167 : decode cX6_node 167 = .ok (.aload_n 0, 1) := by decide +kernel
theorem dX6_node_168 : decode cX6_node 168 = .ok (.dup, 1) := by decide +kernel
theorem dX6_node_169 : decode cX6_node 169 = .ok (.getfield 89, 3) := by decide +kernel
theorem dX6_node_172 : decode cX6_node 172 = .ok (.iload_n 1, 1) := by decide +kernel
theorem dX6_node_173 : decode cX6_node 173 = .ok (.ifCond .ne 7, 3) := by decide +kernel
theorem dX6_node_176 : decode cX6_node 176 = .ok (.iconst 1, 1) := by decide +kernel
theorem dX6_node_177 : decode cX6_node 177 = .ok (.goto 4, 3) := by decide +kernel
theorem dX6_node_180 : decode cX6_node 180 = .ok (.iconst 0, 1) := by decide +kernel
theorem dX6_node_181 : decode cX6_node 181 = .ok (.iadd, 1) := by decide +kernel
theorem dX6_node_182 : decode cX6_node 182 = .ok (.putfield 89, 3) := by decide +kernel
theorem dX6_node_185 : decode cX6_node 185 = .ok (.aload_n 0, 1) := by decide +kernel
theorem dX6_node_186 : decode cX6_node 186 = .ok (.dup, 1) := by decide +kernel
theorem dX6_node_187 : decode cX6_node 187 = .ok (.getfield 92, 3) := by decide +kernel
theorem dX6_node_190 : decode cX6_node 190 = .ok (.iload_n 1, 1) := by decide +kernel
theorem dX6_node_191 : decode cX6_node 191 = .ok (.iconst 5, 1) := by decide +kernel
theorem dX6_node_192 : decode cX6_node 192 = .ok (.if_icmp .ne 7, 3) := by decide +kernel
theorem dX6_node_195 : decode cX6_node 195 = .ok (.iconst 1, 1) := by decide +kernel
theorem dX6_node_196 : decode cX6_node 196 = .ok (.goto 4, 3) := by decide +kernel
theorem dX6_node_199 : decode cX6_node 199 = .ok (.iconst 0, 1) := by decide +kernel
theorem dX6_node_200 : decode cX6_node 200 = .ok (.iadd, 1) := by decide +kernel
theorem dX6_node_201 : decode cX6_node 201 = .ok (.putfield 92, 3) := by decide +kernel
theorem dX6_node_204 : decode cX6_node 204 = .ok (.aload_n 0, 1) := by decide +kernel
theorem dX6_node_205 : decode cX6_node 205 = .ok (.dup, 1) := by decide +kernel
theorem dX6_node_206 : decode cX6_node 206 = .ok (.getfield 78, 3) := by decide +kernel
theorem dX6_node_209 : decode cX6_node 209 = .ok (.iconst 1, 1) := by decide +kernel
theorem dX6_node_210 : decode cX6_node 210 = .ok (.iadd, 1) := by decide +kernel
theorem dX6_node_211 : decode cX6_node 211 = .ok (.putfield 78, 3) := by decide +kernel
theorem dX6_node_214 : decode cX6_node 214 = .ok (.aload_n 0, 1) := by decide +kernel
theorem dX6_node_215 : decode cX6_node 215 = .ok (.getfield 78, 3) := by decide +kernel
theorem dX6_node_218 : decode cX6_node 218 = .ok (.iconst 1, 1) := by decide +kernel
theorem dX6_node_219 : decode cX6_node 219 = .ok (.isub, 1) := by decide +kernel
theorem dX6_node_220 : decode cX6_node 220 = .ok (.ireturn, 1) := by decide +kernel
set_option maxRecDepth 20000 in
theorem ggX6_feed_X6_isStore : GoodIn wsX6_feed wsX6_isStore := goodIn_r _ [6, 7, 8, 9, 10, 5, 11, 12, 13, 14, 15, 16, 17, 18, 19, 20, 21, 22, 23, 24, 25, 26, 27, 28, 29, 30, 31, 32, 33, 34, 35, 36, 37, 38, 39, 40, 41] (by decide +kernel) (by decide +kernel)
set_option maxRecDepth 20000 in
theorem gX6_feed_X6_isStore : GoodIn wsX6_feed (wsV RX6 95 RX6 yX6_isStore wsX6_isStore) := goodIn_app (goodIn_of _ (by decide +kernel)) ggX6_feed_X6_isStore
set_option maxRecDepth 20000 in
theorem ggX6_feed_X6_isNode : GoodIn wsX6_feed wsX6_isNode := goodIn_r _ [11, 12, 13, 14, 5, 15, 16, 17, 18, 19, 20, 21, 22, 23, 24, 25, 26, 27, 28, 29, 30, 31, 32, 33, 34, 35, 36, 37, 38, 39, 40, 41] (by decide +kernel) (by decide +kernel)
set_option maxRecDepth 20000 in
theorem gX6_feed_X6_isNode : GoodIn wsX6_feed (wsV RX6 85 RX6 yX6_isNode wsX6_isNode) := goodIn_app (goodIn_of _ (by decide +kernel)) ggX6_feed_X6_isNode
theorem dX6_feed_0 : decode cX6_feed 0 = .ok (.aload_n 0, 1) := by decide +kernel
theorem dX6_feed_1 : decode cX6_feed 1 = .ok (.iload_n 1, 1) := by decide +kernel
theorem dX6_feed_2 : decode cX6_feed 2 = .ok (.invokevirtual 95, 3) := by decide +kernel
theorem dX6_feed_5 : decode cX6_feed 5 = .ok (.ifCond .eq 11, 3) := by decide +kernel
theorem dX6_feed_8 : decode cX6_feed 8 = .ok (.aload_n 0, 1) := by decide +kernel
theorem dX6_feed_9 : decode cX6_feed 9 = .ok (.iload_n 2, 1) := by decide +kernel
theorem dX6_feed_10 : decode cX6_feed 10 = .ok (.invokevirtual 85, 3) := by decide +kernel
theorem dX6_feed_13 : decode cX6_feed 13 = .ok (.ifCond .ne 6, 3) := by decide +kernel
theorem dX6_feed_16 : decode cX6_feed 16 = .ok (.bipush (-2), 2) := by decide +kernel
theorem dX6_feed_18 : decode cX6_feed 18 = .ok (.ireturn, 1) := by decide +kernel
theorem dX6_feed_19 : decode cX6_feed 19 = .ok (.aload_n 0, 1) := by decide +kernel
theorem dX6_feed_20 : decode cX6_feed 20 = .ok (.getfield 13, 3) := by decide +kernel
theorem dX6_feed_23 : decode cX6_feed 23 = .ok (.iload_n 1, 1) := by decide +kernel
theorem dX6_feed_24 : decode cX6_feed 24 = .ok (.iaload, 1) := by decide +kernel
theorem dX6_feed_25 : decode cX6_feed 25 = .ok (.istore_n 3, 1) := by decide +kernel
theorem dX6_feed_26 : decode cX6_feed 26 = .ok (.aload_n 0, 1) := by decide +kernel
theorem dX6_feed_27 : decode cX6_feed 27 = .ok (.getfield 13, 3) := by decide +kernel
theorem dX6_feed_30 : decode cX6_feed 30 = .ok (.iload_n 1, 1) := by decide +kernel
theorem dX6_feed_31 : decode cX6_feed 31 = .ok (.iload_n 2, 1) := by decide +kernel
theorem dX6_feed_32 : decode cX6_feed 32 = .ok (.iastore, 1) := by decide +kernel
theorem dX6_feed_33 : decode cX6_feed 33 = .ok (.iload_n 3, 1) := by decide +kernel
theorem dX6_feed_34 : decode cX6_feed 34 = .ok (.ireturn, 1) := by decide +kernel
set_option maxRecDepth 20000 in
theorem ggX6_output_X6_isNode : GoodIn wsX6_output wsX6_isNode := goodIn_r _ [6, 7, 8, 9, 5, 10, 11, 12, 13, 14, 15, 16, 17, 18, 19, 20, 21, 22, 23, 24, 25, 26, 27, 28, 29, 30, 31, 32, 33, 34, 35, 36] (by decide +kernel) (by decide +kernel)
set_option maxRecDepth 20000 in
theorem gX6_output_X6_isNode : GoodIn wsX6_output (wsV RX6 85 RX6 yX6_isNode wsX6_isNode) := goodIn_app (goodIn_of _ (by decide +kernel)) ggX6_output_X6_isNode
theorem dX6_output_0 : decode cX6_output 0 = .ok (.aload_n 0, 1) := by decide +kernel
theorem dX6_output_1 : decode cX6_output 1 = .ok (.iload_n 1, 1) := by decide +kernel
theorem dX6_output_2 : decode cX6_output 2 = .ok (.invokevirtual 85, 3) := by decide +kernel
theorem dX6_output_5 : decode cX6_output 5 = .ok (.ifCond .ne 6, 3) := by decide +kernel
theorem dX6_output_8 : decode cX6_output 8 = .ok (.bipush (-2), 2) := by decide +kernel
theorem dX6_output_10 : decode cX6_output 10 = .ok (.ireturn, 1) := by decide +kernel
theorem dX6_output_11 : decode cX6_output 11 = .ok (.aload_n 0, 1) := by decide +kernel
theorem dX6_output_12 : decode cX6_output 12 = .ok (.getfield 19, 3) := by decide +kernel
theorem dX6_output_15 : decode cX6_output 15 = .ok (.iload_n 1, 1) := by decide +kernel
theorem dX6_output_16 : decode cX6_output 16 = .ok (.iload_n 2, 1) := by decide +kernel
theorem dX6_output_17 : decode cX6_output 17 = .ok (.bastore, 1) := by decide +kernel
theorem dX6_output_18 : decode cX6_output 18 = .ok (.iconst 1, 1) := by decide +kernel
theorem dX6_output_19 : decode cX6_output 19 = .ok (.ireturn, 1) := by decide +kernel
set_option maxRecDepth 20000 in
theorem ggX6_price_X6_isNode : GoodIn wsX6_price wsX6_isNode := goodIn_r _ [6, 7, 8, 9, 5, 10, 11, 12, 13, 14, 15, 16, 17, 18, 19, 20, 21, 22, 23, 24, 25, 26, 27, 28, 29, 30, 31, 32, 33, 34, 35, 36] (by decide +kernel) (by decide +kernel)
set_option maxRecDepth 20000 in
theorem gX6_price_X6_isNode : GoodIn wsX6_price (wsV RX6 85 RX6 yX6_isNode wsX6_isNode) := goodIn_app (goodIn_of _ (by decide +kernel)) ggX6_price_X6_isNode
set_option maxRecDepth 20000 in
theorem ggX6_price_X6_in : GoodIn wsX6_price wsX6_in := goodIn_r _ [10] (by decide +kernel) (by decide +kernel)
set_option maxRecDepth 20000 in
theorem gX6_price_X6_in : GoodIn wsX6_price (va_wsS RX6 81 yX6_in wsX6_in) := goodIn_app (goodIn_of _ (by decide +kernel)) ggX6_price_X6_in
theorem dX6_price_0 : decode cX6_price 0 = .ok (.aload_n 0, 1) := by decide +kernel
theorem dX6_price_1 : decode cX6_price 1 = .ok (.iload_n 1, 1) := by decide +kernel
theorem dX6_price_2 : decode cX6_price 2 = .ok (.invokevirtual 85, 3) := by decide +kernel
theorem dX6_price_5 : decode cX6_price 5 = .ok (.ifCond .eq 14, 3) := by decide +kernel
theorem dX6_price_8 : decode cX6_price 8 = .ok (.iload_n 2, 1) := by decide +kernel
theorem dX6_price_9 : decode cX6_price 9 = .ok (.iconst 0, 1) := by decide +kernel
theorem dX6_price_10 : decode cX6_price 10 = .ok (.sipush 1000, 3) := by decide +kernel
theorem dX6_price_13 : decode cX6_price 13 = .ok (.invokestatic 81, 3) := by decide +kernel
theorem dX6_price_16 : decode cX6_price 16 = .ok (.ifCond .ne 6, 3) := by decide +kernel
theorem dX6_price_19 : decode cX6_price 19 = .ok (.bipush (-2), 2) := by decide +kernel
theorem dX6_price_21 : decode cX6_price 21 = .ok (.ireturn, 1) := by decide +kernel
theorem dX6_price_22 : decode cX6_price 22 = .ok (.aload_n 0, 1) := by decide +kernel
theorem dX6_price_23 : decode cX6_price 23 = .ok (.getfield 29, 3) := by decide +kernel
theorem dX6_price_26 : decode cX6_price 26 = .ok (.iload_n 1, 1) := by decide +kernel
theorem dX6_price_27 : decode cX6_price 27 = .ok (.iaload, 1) := by decide +kernel
theorem dX6_price_28 : decode cX6_price 28 = .ok (.istore_n 3, 1) := by decide +kernel
theorem dX6_price_29 : decode cX6_price 29 = .ok (.aload_n 0, 1) := by decide +kernel
theorem dX6_price_30 : decode cX6_price 30 = .ok (.getfield 29, 3) := by decide +kernel
theorem dX6_price_33 : decode cX6_price 33 = .ok (.iload_n 1, 1) := by decide +kernel
theorem dX6_price_34 : decode cX6_price 34 = .ok (.iload_n 2, 1) := by decide +kernel
theorem dX6_price_35 : decode cX6_price 35 = .ok (.iastore, 1) := by decide +kernel
theorem dX6_price_36 : decode cX6_price 36 = .ok (.iload_n 3, 1) := by decide +kernel
theorem dX6_price_37 : decode cX6_price 37 = .ok (.ireturn, 1) := by decide +kernel
set_option maxRecDepth 20000 in
theorem ggX6_about_X6_isNode : GoodIn wsX6_about wsX6_isNode := goodIn_r _ [13, 14, 15, 16, 12, 17, 18, 19, 20, 21, 22, 23, 24, 25, 26, 27, 28, 29, 30, 31, 32, 33, 34, 35, 36, 37, 38, 39, 40, 41, 42, 43] (by decide +kernel) (by decide +kernel)
set_option maxRecDepth 20000 in
theorem gX6_about_X6_isNode : GoodIn wsX6_about (wsV RX6 85 RX6 yX6_isNode wsX6_isNode) := goodIn_app (goodIn_of _ (by decide +kernel)) ggX6_about_X6_isNode
theorem dX6_about_0 : decode cX6_about 0 = .ok (.aload_n 0, 1) := by decide +kernel
theorem dX6_about_1 : decode cX6_about 1 = .ok (.iload_n 1, 1) := by decide +kernel
theorem dX6_about_2 : decode cX6_about 2 = .ok (.invokevirtual 85, 3) := by decide +kernel
theorem dX6_about_5 : decode cX6_about 5 = .ok (.ifCond .ne 6, 3) := by decide +kernel
theorem dX6_about_8 : decode cX6_about 8 = .ok (.bipush (-2), 2) := by decide +kernel
theorem dX6_about_10 : decode cX6_about 10 = .ok (.ireturn, 1) := by decide +kernel
theorem dX6_about_11 : decode cX6_about 11 = .ok (.iload_n 2, 1) := by decide +kernel
theorem dX6_about_12 : decode cX6_about 12 = .ok (.tableswitch 128 0 7 #[48, 55, 62, 69, 84, 99, 114, 121], 48) := by decide +kernel
theorem dX6_about_60 : decode cX6_about 60 = .ok (.aload_n 0, 1) := by decide +kernel
theorem dX6_about_61 : decode cX6_about 61 = .ok (.getfield 7, 3) := by decide +kernel
theorem dX6_about_64 : decode cX6_about 64 = .ok (.iload_n 1, 1) := by decide +kernel
theorem dX6_about_65 : decode cX6_about 65 = .ok (.iaload, 1) := by decide +kernel
theorem dX6_about_66 : decode cX6_about 66 = .ok (.ireturn, 1) := by decide +kernel
theorem dX6_about_67 : decode cX6_about 67 = .ok (.aload_n 0, 1) := by decide +kernel
theorem dX6_about_68 : decode cX6_about 68 = .ok (.getfield 13, 3) := by decide +kernel
theorem dX6_about_71 : decode cX6_about 71 = .ok (.iload_n 1, 1) := by decide +kernel
theorem dX6_about_72 : decode cX6_about 72 = .ok (.iaload, 1) := by decide +kernel
theorem dX6_about_73 : decode cX6_about 73 = .ok (.ireturn, 1) := by decide +kernel
theorem dX6_about_74 : decode cX6_about 74 = .ok (.aload_n 0, 1) := by decide +kernel
theorem dX6_about_75 : decode cX6_about 75 = .ok (.getfield 16, 3) := by decide +kernel
theorem dX6_about_78 : decode cX6_about 78 = .ok (.iload_n 1, 1) := by decide +kernel
theorem dX6_about_79 : decode cX6_about 79 = .ok (.iaload, 1) := by decide +kernel
theorem dX6_about_80 : decode cX6_about 80 = .ok (.ireturn, 1) := by decide +kernel
theorem dX6_about_81 : decode cX6_about 81 = .ok (.aload_n 0, 1) := by decide +kernel
theorem dX6_about_82 : decode cX6_about 82 = .ok (.getfield 19, 3) := by decide +kernel
theorem dX6_about_85 : decode cX6_about 85 = .ok (.iload_n 1, 1) := by decide +kernel
theorem dX6_about_86 : decode cX6_about 86 = .ok (.baload, 1) := by decide +kernel
theorem dX6_about_87 : decode cX6_about 87 = .ok (.ifCond .eq 7, 3) := by decide +kernel
theorem dX6_about_90 : decode cX6_about 90 = .ok (.iconst 1, 1) := by decide +kernel
theorem dX6_about_91 : decode cX6_about 91 = .ok (.goto 4, 3) := by decide +kernel
theorem dX6_about_94 : decode cX6_about 94 = .ok (.iconst 0, 1) := by decide +kernel
theorem dX6_about_95 : decode cX6_about 95 = .ok (.ireturn, 1) := by decide +kernel
theorem dX6_about_96 : decode cX6_about 96 = .ok (.aload_n 0, 1) := by decide +kernel
theorem dX6_about_97 : decode cX6_about 97 = .ok (.getfield 23, 3) := by decide +kernel
theorem dX6_about_100 : decode cX6_about 100 = .ok (.iload_n 1, 1) := by decide +kernel
theorem dX6_about_101 : decode cX6_about 101 = .ok (.baload, 1) := by decide +kernel
theorem dX6_about_102 : decode cX6_about 102 = .ok (.ifCond .eq 7, 3) := by decide +kernel
theorem dX6_about_105 : decode cX6_about 105 = .ok (.iconst 1, 1) := by decide +kernel
theorem dX6_about_106 : decode cX6_about 106 = .ok (.goto 4, 3) := by decide +kernel
theorem dX6_about_109 : decode cX6_about 109 = .ok (.iconst 0, 1) := by decide +kernel
theorem dX6_about_110 : decode cX6_about 110 = .ok (.ireturn, 1) := by decide +kernel
theorem dX6_about_111 : decode cX6_about 111 = .ok (.aload_n 0, 1) := by decide +kernel
theorem dX6_about_112 : decode cX6_about 112 = .ok (.getfield 26, 3) := by decide +kernel
theorem dX6_about_115 : decode cX6_about 115 = .ok (.iload_n 1, 1) := by decide +kernel
theorem dX6_about_116 : decode cX6_about 116 = .ok (.baload, 1) := by decide +kernel
theorem dX6_about_117 : decode cX6_about 117 = .ok (.ifCond .eq 7, 3) := by decide +kernel
theorem dX6_about_120 : decode cX6_about 120 = .ok (.iconst 1, 1) := by decide +kernel
theorem dX6_about_121 : decode cX6_about 121 = .ok (.goto 4, 3) := by decide +kernel
theorem dX6_about_124 : decode cX6_about 124 = .ok (.iconst 0, 1) := by decide +kernel
theorem dX6_about_125 : decode cX6_about 125 = .ok (.ireturn, 1) := by decide +kernel
theorem dX6_about_126 : decode cX6_about 126 = .ok (.aload_n 0, 1) := by decide +kernel
theorem dX6_about_127 : decode cX6_about 127 = .ok (.getfield 29, 3) := by decide +kernel
theorem dX6_about_130 : decode cX6_about 130 = .ok (.iload_n 1, 1) := by decide +kernel
theorem dX6_about_131 : decode cX6_about 131 = .ok (.iaload, 1) := by decide +kernel
theorem dX6_about_132 : decode cX6_about 132 = .ok (.ireturn, 1) := by decide +kernel
theorem dX6_about_133 : decode cX6_about 133 = .ok (.aload_n 0, 1) := by decide +kernel
theorem dX6_about_134 : decode cX6_about 134 = .ok (.getfield 32, 3) := by decide +kernel
theorem dX6_about_137 : decode cX6_about 137 = .ok (.iload_n 1, 1) := by decide +kernel
theorem dX6_about_138 : decode cX6_about 138 = .ok (.iaload, 1) := by decide +kernel
theorem dX6_about_139 : decode cX6_about 139 = .ok (.ireturn, 1) := by decide +kernel
theorem dX6_about_140 : decode cX6_about 140 = .ok (.bipush (-2), 2) := by decide +kernel
theorem dX6_about_142 : decode cX6_about 142 = .ok (.ireturn, 1) := by decide +kernel
set_option maxRecDepth 20000 in
theorem ggX6_thrice_X6_isNode : GoodIn wsX6_thrice wsX6_isNode := goodIn_r _ [7, 8, 9, 10, 6, 11, 12, 13, 14, 15, 16, 17, 18, 19, 20, 21, 22, 23, 24, 25, 26, 27, 28, 29, 30, 31, 32, 33, 34, 35, 36, 37] (by decide +kernel) (by decide +kernel)
set_option maxRecDepth 20000 in
theorem gX6_thrice_X6_isNode : GoodIn wsX6_thrice (wsV RX6 85 RX6 yX6_isNode wsX6_isNode) := goodIn_app (goodIn_of _ (by decide +kernel)) ggX6_thrice_X6_isNode
theorem dX6_thrice_0 : decode cX6_thrice 0 = .ok (.aload_n 0, 1) := by decide +kernel
theorem dX6_thrice_1 : decode cX6_thrice 1 = .ok (.iload_n 1, 1) := by decide +kernel
theorem dX6_thrice_2 : decode cX6_thrice 2 = .ok (.invokevirtual 85, 3) := by decide +kernel
theorem dX6_thrice_5 : decode cX6_thrice 5 = .ok (.ifCond .ne 6, 3) := by decide +kernel
theorem dX6_thrice_8 : decode cX6_thrice 8 = .ok (.bipush (-2), 2) := by decide +kernel
theorem dX6_thrice_10 : decode cX6_thrice 10 = .ok (.ireturn, 1) := by decide +kernel
theorem dX6_thrice_11 : decode cX6_thrice 11 = .ok (.aload_n 0, 1) := by decide +kernel
theorem dX6_thrice_12 : decode cX6_thrice 12 = .ok (.getfield 23, 3) := by decide +kernel
theorem dX6_thrice_15 : decode cX6_thrice 15 = .ok (.iload_n 1, 1) := by decide +kernel
theorem dX6_thrice_16 : decode cX6_thrice 16 = .ok (.baload, 1) := by decide +kernel
theorem dX6_thrice_17 : decode cX6_thrice 17 = .ok (.iload_n 2, 1) := by decide +kernel
theorem dX6_thrice_18 : decode cX6_thrice 18 = .ok (.if_icmp .ne 7, 3) := by decide +kernel
theorem dX6_thrice_21 : decode cX6_thrice 21 = .ok (.iconst 1, 1) := by decide +kernel
theorem dX6_thrice_22 : decode cX6_thrice 22 = .ok (.goto 4, 3) := by decide +kernel
theorem dX6_thrice_25 : decode cX6_thrice 25 = .ok (.iconst 0, 1) := by decide +kernel
theorem dX6_thrice_26 : decode cX6_thrice 26 = .ok (.istore_n 3, 1) := by decide +kernel
theorem dX6_thrice_27 : decode cX6_thrice 27 = .ok (.aload_n 0, 1) := by decide +kernel
theorem dX6_thrice_28 : decode cX6_thrice 28 = .ok (.getfield 23, 3) := by decide +kernel
theorem dX6_thrice_31 : decode cX6_thrice 31 = .ok (.iload_n 1, 1) := by decide +kernel
theorem dX6_thrice_32 : decode cX6_thrice 32 = .ok (.iload_n 2, 1) := by decide +kernel
theorem dX6_thrice_33 : decode cX6_thrice 33 = .ok (.bastore, 1) := by decide +kernel
theorem dX6_thrice_34 : decode cX6_thrice 34 = .ok (.aload_n 0, 1) := by decide +kernel
theorem dX6_thrice_35 : decode cX6_thrice 35 = .ok (.getfield 26, 3) := by decide +kernel
theorem dX6_thrice_38 : decode cX6_thrice 38 = .ok (.iload_n 1, 1) := by decide +kernel
theorem dX6_thrice_39 : decode cX6_thrice 39 = .ok (.dup2, 1) := by decide +kernel
theorem dX6_thrice_40 : decode cX6_thrice 40 = .ok (.baload, 1) := by decide +kernel
theorem dX6_thrice_41 : decode cX6_thrice 41 = .ok (.iload_n 2, 1) := by decide +kernel
theorem dX6_thrice_42 : decode cX6_thrice 42 = .ok (.iand, 1) := by decide +kernel
theorem dX6_thrice_43 : decode cX6_thrice 43 = .ok (.bastore, 1) := by decide +kernel
theorem dX6_thrice_44 : decode cX6_thrice 44 = .ok (.iload_n 3, 1) := by decide +kernel
theorem dX6_thrice_45 : decode cX6_thrice 45 = .ok (.ifCond .eq 7, 3) := by decide +kernel
theorem dX6_thrice_48 : decode cX6_thrice 48 = .ok (.iconst 0, 1) := by decide +kernel
theorem dX6_thrice_49 : decode cX6_thrice 49 = .ok (.goto 4, 3) := by decide +kernel
theorem dX6_thrice_52 : decode cX6_thrice 52 = .ok (.iconst 1, 1) := by decide +kernel
theorem dX6_thrice_53 : decode cX6_thrice 53 = .ok (.ireturn, 1) := by decide +kernel
set_option maxRecDepth 20000 in
theorem ggX6_vote_X6_isStore : GoodIn wsX6_vote wsX6_isStore := goodIn_r _ [7, 8, 9, 10, 11, 6, 12, 13, 14, 15, 16, 17, 18, 19, 20, 21, 22, 23, 24, 25, 26, 27, 28, 29, 30, 31, 32, 33, 34, 35, 36, 37, 38, 39, 40, 41, 42] (by decide +kernel) (by decide +kernel)
set_option maxRecDepth 20000 in
theorem gX6_vote_X6_isStore : GoodIn wsX6_vote (wsV RX6 95 RX6 yX6_isStore wsX6_isStore) := goodIn_app (goodIn_of _ (by decide +kernel)) ggX6_vote_X6_isStore
theorem dX6_vote_0 : decode cX6_vote 0 = .ok (.aload_n 0, 1) := by decide +kernel
theorem dX6_vote_1 : decode cX6_vote 1 = .ok (.iload_n 1, 1) := by decide +kernel
theorem dX6_vote_2 : decode cX6_vote 2 = .ok (.invokevirtual 95, 3) := by decide +kernel
theorem dX6_vote_5 : decode cX6_vote 5 = .ok (.ifCond .ne 6, 3) := by decide +kernel
theorem dX6_vote_8 : decode cX6_vote 8 = .ok (.bipush (-2), 2) := by decide +kernel
theorem dX6_vote_10 : decode cX6_vote 10 = .ok (.ireturn, 1) := by decide +kernel
theorem dX6_vote_11 : decode cX6_vote 11 = .ok (.aload_n 0, 1) := by decide +kernel
theorem dX6_vote_12 : decode cX6_vote 12 = .ok (.getfield 23, 3) := by decide +kernel
theorem dX6_vote_15 : decode cX6_vote 15 = .ok (.iload_n 1, 1) := by decide +kernel
theorem dX6_vote_16 : decode cX6_vote 16 = .ok (.baload, 1) := by decide +kernel
theorem dX6_vote_17 : decode cX6_vote 17 = .ok (.ifCond .ne 6, 3) := by decide +kernel
theorem dX6_vote_20 : decode cX6_vote 20 = .ok (.bipush (-3), 2) := by decide +kernel
theorem dX6_vote_22 : decode cX6_vote 22 = .ok (.ireturn, 1) := by decide +kernel
theorem dX6_vote_23 : decode cX6_vote 23 = .ok (.aload_n 0, 1) := by decide +kernel
theorem dX6_vote_24 : decode cX6_vote 24 = .ok (.getfield 26, 3) := by decide +kernel
theorem dX6_vote_27 : decode cX6_vote 27 = .ok (.iload_n 1, 1) := by decide +kernel
theorem dX6_vote_28 : decode cX6_vote 28 = .ok (.baload, 1) := by decide +kernel
theorem dX6_vote_29 : decode cX6_vote 29 = .ok (.iload_n 2, 1) := by decide +kernel
theorem dX6_vote_30 : decode cX6_vote 30 = .ok (.if_icmp .ne 7, 3) := by decide +kernel
theorem dX6_vote_33 : decode cX6_vote 33 = .ok (.iconst 1, 1) := by decide +kernel
theorem dX6_vote_34 : decode cX6_vote 34 = .ok (.goto 4, 3) := by decide +kernel
theorem dX6_vote_37 : decode cX6_vote 37 = .ok (.iconst 0, 1) := by decide +kernel
theorem dX6_vote_38 : decode cX6_vote 38 = .ok (.istore_n 3, 1) := by decide +kernel
theorem dX6_vote_39 : decode cX6_vote 39 = .ok (.aload_n 0, 1) := by decide +kernel
theorem dX6_vote_40 : decode cX6_vote 40 = .ok (.getfield 26, 3) := by decide +kernel
theorem dX6_vote_43 : decode cX6_vote 43 = .ok (.iload_n 1, 1) := by decide +kernel
theorem dX6_vote_44 : decode cX6_vote 44 = .ok (.iload_n 2, 1) := by decide +kernel
theorem dX6_vote_45 : decode cX6_vote 45 = .ok (.bastore, 1) := by decide +kernel
theorem dX6_vote_46 : decode cX6_vote 46 = .ok (.iload_n 3, 1) := by decide +kernel
theorem dX6_vote_47 : decode cX6_vote 47 = .ok (.ifCond .eq 7, 3) := by decide +kernel
theorem dX6_vote_50 : decode cX6_vote 50 = .ok (.iconst 0, 1) := by decide +kernel
theorem dX6_vote_51 : decode cX6_vote 51 = .ok (.goto 4, 3) := by decide +kernel
theorem dX6_vote_54 : decode cX6_vote 54 = .ok (.iconst 1, 1) := by decide +kernel
theorem dX6_vote_55 : decode cX6_vote 55 = .ok (.ireturn, 1) := by decide +kernel
theorem dX6_inputAt_0 : decode cX6_inputAt 0 = .ok (.aload_n 0, 1) := by decide +kernel
theorem dX6_inputAt_1 : decode cX6_inputAt 1 = .ok (.getfield 63, 3) := by decide +kernel
theorem dX6_inputAt_4 : decode cX6_inputAt 4 = .ok (.iconst 0, 1) := by decide +kernel
theorem dX6_inputAt_5 : decode cX6_inputAt 5 = .ok (.baload, 1) := by decide +kernel
theorem dX6_inputAt_6 : decode cX6_inputAt 6 = .ok (.ifCond .eq 31, 3) := by decide +kernel
theorem dX6_inputAt_9 : decode cX6_inputAt 9 = .ok (.iload_n 2, 1) := by decide +kernel
theorem dX6_inputAt_10 : decode cX6_inputAt 10 = .ok (.aload_n 0, 1) := by decide +kernel
theorem dX6_inputAt_11 : decode cX6_inputAt 11 = .ok (.getfield 69, 3) := by decide +kernel
theorem dX6_inputAt_14 : decode cX6_inputAt 14 = .ok (.iconst 0, 1) := by decide +kernel
theorem dX6_inputAt_15 : decode cX6_inputAt 15 = .ok (.iaload, 1) := by decide +kernel
theorem dX6_inputAt_16 : decode cX6_inputAt 16 = .ok (.if_icmp .ge 21, 3) := by decide +kernel
theorem dX6_inputAt_19 : decode cX6_inputAt 19 = .ok (.aload_n 0, 1) := by decide +kernel
theorem dX6_inputAt_20 : decode cX6_inputAt 20 = .ok (.getfield 72, 3) := by decide +kernel
theorem dX6_inputAt_23 : decode cX6_inputAt 23 = .ok (.iload_n 2, 1) := by decide +kernel
theorem dX6_inputAt_24 : decode cX6_inputAt 24 = .ok (.iaload, 1) := by decide +kernel
theorem dX6_inputAt_25 : decode cX6_inputAt 25 = .ok (.aload_n 0, 1) := by decide +kernel
theorem dX6_inputAt_26 : decode cX6_inputAt 26 = .ok (.getfield 32, 3) := by decide +kernel
theorem dX6_inputAt_29 : decode cX6_inputAt 29 = .ok (.iload_n 1, 1) := by decide +kernel
theorem dX6_inputAt_30 : decode cX6_inputAt 30 = .ok (.iaload, 1) := by decide +kernel
theorem dX6_inputAt_31 : decode cX6_inputAt 31 = .ok (.ishr, 1) := by decide +kernel
theorem dX6_inputAt_32 : decode cX6_inputAt 32 = .ok (.iconst 1, 1) := by decide +kernel
theorem dX6_inputAt_33 : decode cX6_inputAt 33 = .ok (.iand, 1) := by decide +kernel
theorem dX6_inputAt_34 : decode cX6_inputAt 34 = .ok (.goto 4, 3) := by decide +kernel
theorem dX6_inputAt_37 : decode cX6_inputAt 37 = .ok (.iconst 0, 1) := by decide +kernel
theorem dX6_inputAt_38 : decode cX6_inputAt 38 = .ok (.ireturn, 1) := by decide +kernel
theorem dX6_gate_0 : decode cX6_gate 0 = .ok (.iload_n 0, 1) := by decide +kernel
theorem dX6_gate_1 : decode cX6_gate 1 = .ok (.iconst 1, 1) := by decide +kernel
theorem dX6_gate_2 : decode cX6_gate 2 = .ok (.if_icmp .ne 9, 3) := by decide +kernel
theorem dX6_gate_5 : decode cX6_gate 5 = .ok (.iconst 1, 1) := by decide +kernel
theorem dX6_gate_6 : decode cX6_gate 6 = .ok (.iload_n 1, 1) := by decide +kernel
theorem dX6_gate_7 : decode cX6_gate 7 = .ok (.isub, 1) := by decide +kernel
theorem dX6_gate_8 : decode cX6_gate 8 = .ok (.goto 28, 3) := by decide +kernel
theorem dX6_gate_11 : decode cX6_gate 11 = .ok (.iload_n 0, 1) := by decide +kernel
theorem dX6_gate_12 : decode cX6_gate 12 = .ok (.iconst 2, 1) := by decide +kernel
theorem dX6_gate_13 : decode cX6_gate 13 = .ok (.if_icmp .ne 9, 3) := by decide +kernel
theorem dX6_gate_16 : decode cX6_gate 16 = .ok (.iload_n 1, 1) := by decide +kernel
theorem dX6_gate_17 : decode cX6_gate 17 = .ok (.iload_n 2, 1) := by decide +kernel
theorem dX6_gate_18 : decode cX6_gate 18 = .ok (.iand, 1) := by decide +kernel
theorem dX6_gate_19 : decode cX6_gate 19 = .ok (.goto 17, 3) := by decide +kernel
theorem dX6_gate_22 : decode cX6_gate 22 = .ok (.iload_n 0, 1) := by decide +kernel
theorem dX6_gate_23 : decode cX6_gate 23 = .ok (.iconst 3, 1) := by decide +kernel
theorem dX6_gate_24 : decode cX6_gate 24 = .ok (.if_icmp .ne 9, 3) := by decide +kernel
theorem dX6_gate_27 : decode cX6_gate 27 = .ok (.iload_n 1, 1) := by decide +kernel
theorem dX6_gate_28 : decode cX6_gate 28 = .ok (.iload_n 2, 1) := by decide +kernel
theorem dX6_gate_29 : decode cX6_gate 29 = .ok (.ior, 1) := by decide +kernel
theorem dX6_gate_30 : decode cX6_gate 30 = .ok (.goto 6, 3) := by decide +kernel
theorem dX6_gate_33 : decode cX6_gate 33 = .ok (.iload_n 1, 1) := by decide +kernel
theorem dX6_gate_34 : decode cX6_gate 34 = .ok (.iload_n 2, 1) := by decide +kernel
theorem dX6_gate_35 : decode cX6_gate 35 = .ok (.ixor, 1) := by decide +kernel
theorem dX6_gate_36 : decode cX6_gate 36 = .ok (.ireturn, 1) := by decide +kernel
set_option maxRecDepth 20000 in
theorem ggX6_runsBare_X6_inputAt : GoodIn wsX6_runsBare wsX6_inputAt := goodIn_r _ [10, 11, 12, 13, 14, 18, 19, 20, 21, 22, 23, 24, 25, 26, 27, 28, 29, 30, 31, 32, 33, 34, 35, 36, 37, 38, 39, 40, 41, 42, 43] (by decide +kernel) (by decide +kernel)
set_option maxRecDepth 20000 in
theorem gX6_runsBare_X6_inputAt : GoodIn wsX6_runsBare (wsV RX6 98 RX6 yX6_inputAt wsX6_inputAt) := goodIn_app (goodIn_of _ (by decide +kernel)) ggX6_runsBare_X6_inputAt
set_option maxRecDepth 20000 in
theorem ggX6_runsBare_X6_gate : GoodIn wsX6_runsBare wsX6_gate := goodIn_r _ [17] (by decide +kernel) (by decide +kernel)
set_option maxRecDepth 20000 in
theorem gX6_runsBare_X6_gate : GoodIn wsX6_runsBare (va_wsS RX6 102 yX6_gate wsX6_gate) := goodIn_app (goodIn_of _ (by decide +kernel)) ggX6_runsBare_X6_gate
theorem dX6_runsBare_0 : decode cX6_runsBare 0 = .ok (.iconst 0, 1) := by decide +kernel
theorem dX6_runsBare_1 : decode cX6_runsBare 1 = .ok (.istore_n 2, 1) := by decide +kernel
theorem dX6_runsBare_2 : decode cX6_runsBare 2 = .ok (.iload_n 2, 1) := by decide +kernel
theorem dX6_runsBare_3 : decode cX6_runsBare 3 = .ok (.aload_n 0, 1) := by decide +kernel
theorem dX6_runsBare_4 : decode cX6_runsBare 4 = .ok (.getfield 78, 3) := by decide +kernel
theorem dX6_runsBare_7 : decode cX6_runsBare 7 = .ok (.if_icmp .ge 16, 3) := by decide +kernel
theorem dX6_runsBare_10 : decode cX6_runsBare 10 = .ok (.aload_n 0, 1) := by decide +kernel
theorem dX6_runsBare_11 : decode cX6_runsBare 11 = .ok (.getfield 42, 3) := by decide +kernel
theorem dX6_runsBare_14 : decode cX6_runsBare 14 = .ok (.iload_n 2, 1) := by decide +kernel
theorem dX6_runsBare_15 : decode cX6_runsBare 15 = .ok (.iconst 0, 1) := by decide +kernel
theorem dX6_runsBare_16 : decode cX6_runsBare 16 = .ok (.iastore, 1) := by decide +kernel
theorem dX6_runsBare_17 : decode cX6_runsBare 17 = .ok (.iinc 2 1, 3) := by decide +kernel
theorem dX6_runsBare_20 : decode cX6_runsBare 20 = .ok (.goto (-18), 3) := by decide +kernel
theorem dX6_runsBare_23 : decode cX6_runsBare 23 = .ok (.iconst 0, 1) := by decide +kernel
theorem dX6_runsBare_24 : decode cX6_runsBare 24 = .ok (.istore_n 2, 1) := by decide +kernel
theorem dX6_runsBare_25 : decode cX6_runsBare 25 = .ok (.iload_n 2, 1) := by decide +kernel
theorem dX6_runsBare_26 : decode cX6_runsBare 26 = .ok (.iload_n 1, 1) := by decide +kernel
theorem dX6_runsBare_27 : decode cX6_runsBare 27 = .ok (.if_icmp .ge 189, 3) := by decide +kernel
theorem dX6_runsBare_30 : decode cX6_runsBare 30 = .ok (.bipush 24, 2) := by decide +kernel
theorem dX6_runsBare_32 : decode cX6_runsBare 32 = .ok (.iload_n 2, 1) := by decide +kernel
theorem dX6_runsBare_33 : decode cX6_runsBare 33 = .ok (.imul, 1) := by decide +kernel
theorem dX6_runsBare_34 : decode cX6_runsBare 34 = .ok (.istore_n 3, 1) := by decide +kernel
theorem dX6_runsBare_35 : decode cX6_runsBare 35 = .ok (.iconst 0, 1) := by decide +kernel
theorem dX6_runsBare_36 : decode cX6_runsBare 36 = .ok (.istore 4, 2) := by decide +kernel
theorem dX6_runsBare_38 : decode cX6_runsBare 38 = .ok (.iload 4, 2) := by decide +kernel
theorem dX6_runsBare_40 : decode cX6_runsBare 40 = .ok (.aload_n 0, 1) := by decide +kernel
theorem dX6_runsBare_41 : decode cX6_runsBare 41 = .ok (.getfield 78, 3) := by decide +kernel
theorem dX6_runsBare_44 : decode cX6_runsBare 44 = .ok (.if_icmp .ge 111, 3) := by decide +kernel
theorem dX6_runsBare_47 : decode cX6_runsBare 47 = .ok (.aload_n 0, 1) := by decide +kernel
theorem dX6_runsBare_48 : decode cX6_runsBare 48 = .ok (.getfield 7, 3) := by decide +kernel
theorem dX6_runsBare_51 : decode cX6_runsBare 51 = .ok (.iload 4, 2) := by decide +kernel
theorem dX6_runsBare_53 : decode cX6_runsBare 53 = .ok (.iaload, 1) := by decide +kernel
theorem dX6_runsBare_54 : decode cX6_runsBare 54 = .ok (.ifCond .ne 22, 3) := by decide +kernel
theorem dX6_runsBare_57 : decode cX6_runsBare 57 = .ok (.aload_n 0, 1) := by decide +kernel
theorem dX6_runsBare_58 : decode cX6_runsBare 58 = .ok (.getfield 42, 3) := by decide +kernel
theorem dX6_runsBare_61 : decode cX6_runsBare 61 = .ok (.iload_n 3, 1) := by decide +kernel
theorem dX6_runsBare_62 : decode cX6_runsBare 62 = .ok (.iload 4, 2) := by decide +kernel
theorem dX6_runsBare_64 : decode cX6_runsBare 64 = .ok (.iadd, 1) := by decide +kernel
theorem dX6_runsBare_65 : decode cX6_runsBare 65 = .ok (.aload_n 0, 1) := by decide +kernel
theorem dX6_runsBare_66 : decode cX6_runsBare 66 = .ok (.iload 4, 2) := by decide +kernel
theorem dX6_runsBare_68 : decode cX6_runsBare 68 = .ok (.iload_n 2, 1) := by decide +kernel
theorem dX6_runsBare_69 : decode cX6_runsBare 69 = .ok (.invokevirtual 98, 3) := by decide +kernel
theorem dX6_runsBare_72 : decode cX6_runsBare 72 = .ok (.iastore, 1) := by decide +kernel
theorem dX6_runsBare_73 : decode cX6_runsBare 73 = .ok (.goto 76, 3) := by decide +kernel
theorem dX6_runsBare_76 : decode cX6_runsBare 76 = .ok (.aload_n 0, 1) := by decide +kernel
theorem dX6_runsBare_77 : decode cX6_runsBare 77 = .ok (.getfield 7, 3) := by decide +kernel
theorem dX6_runsBare_80 : decode cX6_runsBare 80 = .ok (.iload 4, 2) := by decide +kernel
theorem dX6_runsBare_82 : decode cX6_runsBare 82 = .ok (.iaload, 1) := by decide +kernel
theorem dX6_runsBare_83 : decode cX6_runsBare 83 = .ok (.iconst 5, 1) := by decide +kernel
theorem dX6_runsBare_84 : decode cX6_runsBare 84 = .ok (.if_icmp .eq 65, 3) := by decide +kernel
theorem dX6_runsBare_87 : decode cX6_runsBare 87 = .ok (.aload_n 0, 1) := by decide +kernel
theorem dX6_runsBare_88 : decode cX6_runsBare 88 = .ok (.getfield 42, 3) := by decide +kernel
theorem dX6_runsBare_91 : decode cX6_runsBare 91 = .ok (.iload_n 3, 1) := by decide +kernel
theorem dX6_runsBare_92 : decode cX6_runsBare 92 = .ok (.iload 4, 2) := by decide +kernel
theorem dX6_runsBare_94 : decode cX6_runsBare 94 = .ok (.iadd, 1) := by decide +kernel
theorem dX6_runsBare_95 : decode cX6_runsBare 95 = .ok (.aload_n 0, 1) := by decide +kernel
theorem dX6_runsBare_96 : decode cX6_runsBare 96 = .ok (.getfield 7, 3) := by decide +kernel
theorem dX6_runsBare_99 : decode cX6_runsBare 99 = .ok (.iload 4, 2) := by decide +kernel
theorem dX6_runsBare_101 : decode cX6_runsBare 101 = .ok (.iaload, 1) := by decide +kernel
theorem dX6_runsBare_102 : decode cX6_runsBare 102 = .ok (.aload_n 0, 1) := by decide +kernel
theorem dX6_runsBare_103 : decode cX6_runsBare 103 = .ok (.getfield 42, 3) := by decide +kernel
theorem dX6_runsBare_106 : decode cX6_runsBare 106 = .ok (.iload_n 3, 1) := by decide +kernel
theorem dX6_runsBare_107 : decode cX6_runsBare 107 = .ok (.aload_n 0, 1) := by decide +kernel
theorem dX6_runsBare_108 : decode cX6_runsBare 108 = .ok (.getfield 13, 3) := by decide +kernel
theorem dX6_runsBare_111 : decode cX6_runsBare 111 = .ok (.iload 4, 2) := by decide +kernel
theorem dX6_runsBare_113 : decode cX6_runsBare 113 = .ok (.iaload, 1) := by decide +kernel
theorem dX6_runsBare_114 : decode cX6_runsBare 114 = .ok (.iadd, 1) := by decide +kernel
theorem dX6_runsBare_115 : decode cX6_runsBare 115 = .ok (.iaload, 1) := by decide +kernel
theorem dX6_runsBare_116 : decode cX6_runsBare 116 = .ok (.aload_n 0, 1) := by decide +kernel
theorem dX6_runsBare_117 : decode cX6_runsBare 117 = .ok (.getfield 16, 3) := by decide +kernel
theorem dX6_runsBare_120 : decode cX6_runsBare 120 = .ok (.iload 4, 2) := by decide +kernel
theorem dX6_runsBare_122 : decode cX6_runsBare 122 = .ok (.iaload, 1) := by decide +kernel
theorem dX6_runsBare_123 : decode cX6_runsBare 123 = .ok (.iconst (-1), 1) := by decide +kernel
theorem dX6_runsBare_124 : decode cX6_runsBare 124 = .ok (.if_icmp .ne 7, 3) := by decide +kernel
theorem dX6_runsBare_127 : decode cX6_runsBare 127 = .ok (.iconst 0, 1) := by decide +kernel
theorem dX6_runsBare_128 : decode cX6_runsBare 128 = .ok (.goto 17, 3) := by decide +kernel
theorem dX6_runsBare_131 : decode cX6_runsBare 131 = .ok (.aload_n 0, 1) := by decide +kernel
theorem dX6_runsBare_132 : decode cX6_runsBare 132 = .ok (.getfield 42, 3) := by decide +kernel
theorem dX6_runsBare_135 : decode cX6_runsBare 135 = .ok (.iload_n 3, 1) := by decide +kernel
theorem dX6_runsBare_136 : decode cX6_runsBare 136 = .ok (.aload_n 0, 1) := by decide +kernel
theorem dX6_runsBare_137 : decode cX6_runsBare 137 = .ok (.getfield 16, 3) := by decide +kernel
theorem dX6_runsBare_140 : decode cX6_runsBare 140 = .ok (.iload 4, 2) := by decide +kernel
theorem dX6_runsBare_142 : decode cX6_runsBare 142 = .ok (.iaload, 1) := by decide +kernel
theorem dX6_runsBare_143 : decode cX6_runsBare 143 = .ok (.iadd, 1) := by decide +kernel
theorem dX6_runsBare_144 : decode cX6_runsBare 144 = .ok (.iaload, 1) := by decide +kernel
theorem dX6_runsBare_145 : decode cX6_runsBare 145 = .ok (.invokestatic 102, 3) := by decide +kernel
theorem dX6_runsBare_148 : decode cX6_runsBare 148 = .ok (.iastore, 1) := by decide +kernel
theorem dX6_runsBare_149 : decode cX6_runsBare 149 = .ok (.iinc 4 1, 3) := by decide +kernel
theorem dX6_runsBare_152 : decode cX6_runsBare 152 = .ok (.goto (-114), 3) := by decide +kernel
theorem dX6_runsBare_155 : decode cX6_runsBare 155 = .ok (.iconst 0, 1) := by decide +kernel
theorem dX6_runsBare_156 : decode cX6_runsBare 156 = .ok (.istore 4, 2) := by decide +kernel
theorem dX6_runsBare_158 : decode cX6_runsBare 158 = .ok (.iload 4, 2) := by decide +kernel
theorem dX6_runsBare_160 : decode cX6_runsBare 160 = .ok (.aload_n 0, 1) := by decide +kernel
theorem dX6_runsBare_161 : decode cX6_runsBare 161 = .ok (.getfield 78, 3) := by decide +kernel
theorem dX6_runsBare_164 : decode cX6_runsBare 164 = .ok (.if_icmp .ge 46, 3) := by decide +kernel
theorem dX6_runsBare_167 : decode cX6_runsBare 167 = .ok (.aload_n 0, 1) := by decide +kernel
theorem dX6_runsBare_168 : decode cX6_runsBare 168 = .ok (.getfield 7, 3) := by decide +kernel
theorem dX6_runsBare_171 : decode cX6_runsBare 171 = .ok (.iload 4, 2) := by decide +kernel
theorem dX6_runsBare_173 : decode cX6_runsBare 173 = .ok (.iaload, 1) := by decide +kernel
theorem dX6_runsBare_174 : decode cX6_runsBare 174 = .ok (.iconst 5, 1) := by decide +kernel
theorem dX6_runsBare_175 : decode cX6_runsBare 175 = .ok (.if_icmp .ne 29, 3) := by decide +kernel
theorem dX6_runsBare_178 : decode cX6_runsBare 178 = .ok (.aload_n 0, 1) := by decide +kernel
theorem dX6_runsBare_179 : decode cX6_runsBare 179 = .ok (.getfield 42, 3) := by decide +kernel
theorem dX6_runsBare_182 : decode cX6_runsBare 182 = .ok (.iload_n 3, 1) := by decide +kernel
theorem dX6_runsBare_183 : decode cX6_runsBare 183 = .ok (.bipush 24, 2) := by decide +kernel
theorem dX6_runsBare_185 : decode cX6_runsBare 185 = .ok (.iadd, 1) := by decide +kernel
theorem dX6_runsBare_186 : decode cX6_runsBare 186 = .ok (.iload 4, 2) := by decide +kernel
theorem dX6_runsBare_188 : decode cX6_runsBare 188 = .ok (.iadd, 1) := by decide +kernel
theorem dX6_runsBare_189 : decode cX6_runsBare 189 = .ok (.aload_n 0, 1) := by decide +kernel
theorem dX6_runsBare_190 : decode cX6_runsBare 190 = .ok (.getfield 42, 3) := by decide +kernel
theorem dX6_runsBare_193 : decode cX6_runsBare 193 = .ok (.iload_n 3, 1) := by decide +kernel
theorem dX6_runsBare_194 : decode cX6_runsBare 194 = .ok (.aload_n 0, 1) := by decide +kernel
theorem dX6_runsBare_195 : decode cX6_runsBare 195 = .ok (.getfield 13, 3) := by decide +kernel
theorem dX6_runsBare_198 : decode cX6_runsBare 198 = .ok (.iload 4, 2) := by decide +kernel
theorem dX6_runsBare_200 : decode cX6_runsBare 200 = .ok (.iaload, 1) := by decide +kernel
theorem dX6_runsBare_201 : decode cX6_runsBare 201 = .ok (.iadd, 1) := by decide +kernel
theorem dX6_runsBare_202 : decode cX6_runsBare 202 = .ok (.iaload, 1) := by decide +kernel
theorem dX6_runsBare_203 : decode cX6_runsBare 203 = .ok (.iastore, 1) := by decide +kernel
theorem dX6_runsBare_204 : decode cX6_runsBare 204 = .ok (.iinc 4 1, 3) := by decide +kernel
theorem dX6_runsBare_207 : decode cX6_runsBare 207 = .ok (.goto (-49), 3) := by decide +kernel
theorem dX6_runsBare_210 : decode cX6_runsBare 210 = .ok (.iinc 2 1, 3) := by decide +kernel
theorem dX6_runsBare_213 : decode cX6_runsBare 213 = .ok (.goto (-188), 3) := by decide +kernel
theorem dX6_runsBare_216 : decode cX6_runsBare 216 = .ok (.return_, 1) := by decide +kernel
set_option maxRecDepth 20000 in
theorem ggX6_ticks_X6_in : GoodIn wsX6_ticks wsX6_in := goodIn_r _ [5] (by decide +kernel) (by decide +kernel)
set_option maxRecDepth 20000 in
theorem gX6_ticks_X6_in : GoodIn wsX6_ticks (va_wsS RX6 81 yX6_in wsX6_in) := goodIn_app (goodIn_of _ (by decide +kernel)) ggX6_ticks_X6_in
theorem dX6_ticks_0 : decode cX6_ticks 0 = .ok (.iload_n 1, 1) := by decide +kernel
theorem dX6_ticks_1 : decode cX6_ticks 1 = .ok (.iconst 1, 1) := by decide +kernel
theorem dX6_ticks_2 : decode cX6_ticks 2 = .ok (.bipush 16, 2) := by decide +kernel
theorem dX6_ticks_4 : decode cX6_ticks 4 = .ok (.invokestatic 81, 3) := by decide +kernel
theorem dX6_ticks_7 : decode cX6_ticks 7 = .ok (.ifCond .ne 6, 3) := by decide +kernel
theorem dX6_ticks_10 : decode cX6_ticks 10 = .ok (.bipush (-2), 2) := by decide +kernel
theorem dX6_ticks_12 : decode cX6_ticks 12 = .ok (.ireturn, 1) := by decide +kernel
theorem dX6_ticks_13 : decode cX6_ticks 13 = .ok (.aload_n 0, 1) := by decide +kernel
theorem dX6_ticks_14 : decode cX6_ticks 14 = .ok (.getfield 35, 3) := by decide +kernel
theorem dX6_ticks_17 : decode cX6_ticks 17 = .ok (.istore_n 2, 1) := by decide +kernel
theorem dX6_ticks_18 : decode cX6_ticks 18 = .ok (.aload_n 0, 1) := by decide +kernel
theorem dX6_ticks_19 : decode cX6_ticks 19 = .ok (.iload_n 1, 1) := by decide +kernel
theorem dX6_ticks_20 : decode cX6_ticks 20 = .ok (.putfield 35, 3) := by decide +kernel
theorem dX6_ticks_23 : decode cX6_ticks 23 = .ok (.iload_n 2, 1) := by decide +kernel
theorem dX6_ticks_24 : decode cX6_ticks 24 = .ok (.ireturn, 1) := by decide +kernel
set_option maxRecDepth 20000 in
theorem ggX6_plain_X6_isNode : GoodIn wsX6_plain wsX6_isNode := goodIn_r _ [6, 7, 8, 9, 5, 10, 29, 30, 31, 32, 33, 34, 35, 36, 37, 38, 39, 40, 41, 42, 43, 44, 45, 46, 47, 48, 49, 50, 51, 52, 53, 54] (by decide +kernel) (by decide +kernel)
set_option maxRecDepth 20000 in
theorem gX6_plain_X6_isNode : GoodIn wsX6_plain (wsV RX6 85 RX6 yX6_isNode wsX6_isNode) := goodIn_app (goodIn_of _ (by decide +kernel)) ggX6_plain_X6_isNode
set_option maxRecDepth 20000 in
theorem ggX6_plain_X6_in : GoodIn wsX6_plain wsX6_in := goodIn_r _ [10] (by decide +kernel) (by decide +kernel)
set_option maxRecDepth 20000 in
theorem gX6_plain_X6_in : GoodIn wsX6_plain (va_wsS RX6 81 yX6_in wsX6_in) := goodIn_app (goodIn_of _ (by decide +kernel)) ggX6_plain_X6_in
set_option maxRecDepth 20000 in
theorem ggX6_plain_X6_runsBare : GoodIn wsX6_plain wsX6_runsBare := goodIn_r _ [14, 7, 1, 15, 16, 17, 18, 19, 20, 5, 21, 22, 23, 24, 25, 26, 27, 28, 29, 30, 31, 32, 33, 34, 35, 36, 37, 38, 39, 40, 41, 42, 43, 44, 45, 46, 47, 48, 49, 50, 51, 52, 53, 54] (by decide +kernel) (by decide +kernel)
set_option maxRecDepth 20000 in
theorem gX6_plain_X6_runsBare : GoodIn wsX6_plain (wsV RX6 106 RX6 yX6_runsBare wsX6_runsBare) := goodIn_app (goodIn_of _ (by decide +kernel)) ggX6_plain_X6_runsBare
theorem dX6_plain_0 : decode cX6_plain 0 = .ok (.aload_n 0, 1) := by decide +kernel
theorem dX6_plain_1 : decode cX6_plain 1 = .ok (.iload_n 1, 1) := by decide +kernel
theorem dX6_plain_2 : decode cX6_plain 2 = .ok (.invokevirtual 85, 3) := by decide +kernel
theorem dX6_plain_5 : decode cX6_plain 5 = .ok (.ifCond .eq 13, 3) := by decide +kernel
theorem dX6_plain_8 : decode cX6_plain 8 = .ok (.iload_n 2, 1) := by decide +kernel
theorem dX6_plain_9 : decode cX6_plain 9 = .ok (.iconst 0, 1) := by decide +kernel
theorem dX6_plain_10 : decode cX6_plain 10 = .ok (.bipush 15, 2) := by decide +kernel
theorem dX6_plain_12 : decode cX6_plain 12 = .ok (.invokestatic 81, 3) := by decide +kernel
theorem dX6_plain_15 : decode cX6_plain 15 = .ok (.ifCond .ne 6, 3) := by decide +kernel
theorem dX6_plain_18 : decode cX6_plain 18 = .ok (.bipush (-2), 2) := by decide +kernel
theorem dX6_plain_20 : decode cX6_plain 20 = .ok (.ireturn, 1) := by decide +kernel
theorem dX6_plain_21 : decode cX6_plain 21 = .ok (.aload_n 0, 1) := by decide +kernel
theorem dX6_plain_22 : decode cX6_plain 22 = .ok (.iload_n 2, 1) := by decide +kernel
theorem dX6_plain_23 : decode cX6_plain 23 = .ok (.iconst 1, 1) := by decide +kernel
theorem dX6_plain_24 : decode cX6_plain 24 = .ok (.iadd, 1) := by decide +kernel
theorem dX6_plain_25 : decode cX6_plain 25 = .ok (.invokevirtual 106, 3) := by decide +kernel
theorem dX6_plain_28 : decode cX6_plain 28 = .ok (.aload_n 0, 1) := by decide +kernel
theorem dX6_plain_29 : decode cX6_plain 29 = .ok (.getfield 42, 3) := by decide +kernel
theorem dX6_plain_32 : decode cX6_plain 32 = .ok (.bipush 24, 2) := by decide +kernel
theorem dX6_plain_34 : decode cX6_plain 34 = .ok (.iload_n 2, 1) := by decide +kernel
theorem dX6_plain_35 : decode cX6_plain 35 = .ok (.imul, 1) := by decide +kernel
theorem dX6_plain_36 : decode cX6_plain 36 = .ok (.iload_n 1, 1) := by decide +kernel
theorem dX6_plain_37 : decode cX6_plain 37 = .ok (.iadd, 1) := by decide +kernel
theorem dX6_plain_38 : decode cX6_plain 38 = .ok (.iaload, 1) := by decide +kernel
theorem dX6_plain_39 : decode cX6_plain 39 = .ok (.ireturn, 1) := by decide +kernel
theorem dX6_copiesOf_0 : decode cX6_copiesOf 0 = .ok (.aload_n 0, 1) := by decide +kernel
theorem dX6_copiesOf_1 : decode cX6_copiesOf 1 = .ok (.getfield 23, 3) := by decide +kernel
theorem dX6_copiesOf_4 : decode cX6_copiesOf 4 = .ok (.iload_n 1, 1) := by decide +kernel
theorem dX6_copiesOf_5 : decode cX6_copiesOf 5 = .ok (.baload, 1) := by decide +kernel
theorem dX6_copiesOf_6 : decode cX6_copiesOf 6 = .ok (.ifCond .eq 7, 3) := by decide +kernel
theorem dX6_copiesOf_9 : decode cX6_copiesOf 9 = .ok (.iconst 3, 1) := by decide +kernel
theorem dX6_copiesOf_10 : decode cX6_copiesOf 10 = .ok (.goto 4, 3) := by decide +kernel
theorem dX6_copiesOf_13 : decode cX6_copiesOf 13 = .ok (.iconst 1, 1) := by decide +kernel
theorem dX6_copiesOf_14 : decode cX6_copiesOf 14 = .ok (.ireturn, 1) := by decide +kernel
theorem dX6_majority_0 : decode cX6_majority 0 = .ok (.aload_n 0, 1) := by decide +kernel
theorem dX6_majority_1 : decode cX6_majority 1 = .ok (.getfield 45, 3) := by decide +kernel
theorem dX6_majority_4 : decode cX6_majority 4 = .ok (.iconst 3, 1) := by decide +kernel
theorem dX6_majority_5 : decode cX6_majority 5 = .ok (.iload_n 1, 1) := by decide +kernel
theorem dX6_majority_6 : decode cX6_majority 6 = .ok (.imul, 1) := by decide +kernel
theorem dX6_majority_7 : decode cX6_majority 7 = .ok (.iaload, 1) := by decide +kernel
theorem dX6_majority_8 : decode cX6_majority 8 = .ok (.aload_n 0, 1) := by decide +kernel
theorem dX6_majority_9 : decode cX6_majority 9 = .ok (.getfield 45, 3) := by decide +kernel
theorem dX6_majority_12 : decode cX6_majority 12 = .ok (.iconst 3, 1) := by decide +kernel
theorem dX6_majority_13 : decode cX6_majority 13 = .ok (.iload_n 1, 1) := by decide +kernel
theorem dX6_majority_14 : decode cX6_majority 14 = .ok (.imul, 1) := by decide +kernel
theorem dX6_majority_15 : decode cX6_majority 15 = .ok (.iconst 1, 1) := by decide +kernel
theorem dX6_majority_16 : decode cX6_majority 16 = .ok (.iadd, 1) := by decide +kernel
theorem dX6_majority_17 : decode cX6_majority 17 = .ok (.iaload, 1) := by decide +kernel
theorem dX6_majority_18 : decode cX6_majority 18 = .ok (.iadd, 1) := by decide +kernel
theorem dX6_majority_19 : decode cX6_majority 19 = .ok (.aload_n 0, 1) := by decide +kernel
theorem dX6_majority_20 : decode cX6_majority 20 = .ok (.getfield 45, 3) := by decide +kernel
theorem dX6_majority_23 : decode cX6_majority 23 = .ok (.iconst 3, 1) := by decide +kernel
theorem dX6_majority_24 : decode cX6_majority 24 = .ok (.iload_n 1, 1) := by decide +kernel
theorem dX6_majority_25 : decode cX6_majority 25 = .ok (.imul, 1) := by decide +kernel
theorem dX6_majority_26 : decode cX6_majority 26 = .ok (.iconst 2, 1) := by decide +kernel
theorem dX6_majority_27 : decode cX6_majority 27 = .ok (.iadd, 1) := by decide +kernel
theorem dX6_majority_28 : decode cX6_majority 28 = .ok (.iaload, 1) := by decide +kernel
theorem dX6_majority_29 : decode cX6_majority 29 = .ok (.iadd, 1) := by decide +kernel
theorem dX6_majority_30 : decode cX6_majority 30 = .ok (.iconst 1, 1) := by decide +kernel
theorem dX6_majority_31 : decode cX6_majority 31 = .ok (.if_icmp .le 7, 3) := by decide +kernel
theorem dX6_majority_34 : decode cX6_majority 34 = .ok (.iconst 1, 1) := by decide +kernel
theorem dX6_majority_35 : decode cX6_majority 35 = .ok (.goto 4, 3) := by decide +kernel
theorem dX6_majority_38 : decode cX6_majority 38 = .ok (.iconst 0, 1) := by decide +kernel
theorem dX6_majority_39 : decode cX6_majority 39 = .ok (.ireturn, 1) := by decide +kernel
set_option maxRecDepth 20000 in
theorem ggX6_takes_X6_majority : GoodIn wsX6_takes wsX6_majority := goodIn_r _ [7, 2, 8, 9, 10, 11, 12, 13, 14, 15, 16, 17, 18, 19, 20, 21, 22, 23, 24, 25, 26, 27, 28, 29, 30, 31, 32, 33] (by decide +kernel) (by decide +kernel)
set_option maxRecDepth 20000 in
theorem gX6_takes_X6_majority : GoodIn wsX6_takes (wsV RX6 110 RX6 yX6_majority wsX6_majority) := goodIn_app (goodIn_of _ (by decide +kernel)) ggX6_takes_X6_majority
theorem dX6_takes_0 : decode cX6_takes 0 = .ok (.iload_n 3, 1) := by decide +kernel
theorem dX6_takes_1 : decode cX6_takes 1 = .ok (.iconst (-1), 1) := by decide +kernel
theorem dX6_takes_2 : decode cX6_takes 2 = .ok (.if_icmp .ne 5, 3) := by decide +kernel
theorem dX6_takes_5 : decode cX6_takes 5 = .ok (.iconst 0, 1) := by decide +kernel
theorem dX6_takes_6 : decode cX6_takes 6 = .ok (.ireturn, 1) := by decide +kernel
theorem dX6_takes_7 : decode cX6_takes 7 = .ok (.aload_n 0, 1) := by decide +kernel
theorem dX6_takes_8 : decode cX6_takes 8 = .ok (.getfield 23, 3) := by decide +kernel
theorem dX6_takes_11 : decode cX6_takes 11 = .ok (.iload_n 3, 1) := by decide +kernel
theorem dX6_takes_12 : decode cX6_takes 12 = .ok (.baload, 1) := by decide +kernel
theorem dX6_takes_13 : decode cX6_takes 13 = .ok (.ifCond .ne 14, 3) := by decide +kernel
theorem dX6_takes_16 : decode cX6_takes 16 = .ok (.aload_n 0, 1) := by decide +kernel
theorem dX6_takes_17 : decode cX6_takes 17 = .ok (.getfield 45, 3) := by decide +kernel
theorem dX6_takes_20 : decode cX6_takes 20 = .ok (.iconst 3, 1) := by decide +kernel
theorem dX6_takes_21 : decode cX6_takes 21 = .ok (.iload_n 3, 1) := by decide +kernel
theorem dX6_takes_22 : decode cX6_takes 22 = .ok (.imul, 1) := by decide +kernel
theorem dX6_takes_23 : decode cX6_takes 23 = .ok (.iaload, 1) := by decide +kernel
theorem dX6_takes_24 : decode cX6_takes 24 = .ok (.goto 30, 3) := by decide +kernel
theorem dX6_takes_27 : decode cX6_takes 27 = .ok (.aload_n 0, 1) := by decide +kernel
theorem dX6_takes_28 : decode cX6_takes 28 = .ok (.getfield 23, 3) := by decide +kernel
theorem dX6_takes_31 : decode cX6_takes 31 = .ok (.iload_n 1, 1) := by decide +kernel
theorem dX6_takes_32 : decode cX6_takes 32 = .ok (.baload, 1) := by decide +kernel
theorem dX6_takes_33 : decode cX6_takes 33 = .ok (.ifCond .eq 16, 3) := by decide +kernel
theorem dX6_takes_36 : decode cX6_takes 36 = .ok (.aload_n 0, 1) := by decide +kernel
theorem dX6_takes_37 : decode cX6_takes 37 = .ok (.getfield 45, 3) := by decide +kernel
theorem dX6_takes_40 : decode cX6_takes 40 = .ok (.iconst 3, 1) := by decide +kernel
theorem dX6_takes_41 : decode cX6_takes 41 = .ok (.iload_n 3, 1) := by decide +kernel
theorem dX6_takes_42 : decode cX6_takes 42 = .ok (.imul, 1) := by decide +kernel
theorem dX6_takes_43 : decode cX6_takes 43 = .ok (.iload_n 2, 1) := by decide +kernel
theorem dX6_takes_44 : decode cX6_takes 44 = .ok (.iadd, 1) := by decide +kernel
theorem dX6_takes_45 : decode cX6_takes 45 = .ok (.iaload, 1) := by decide +kernel
theorem dX6_takes_46 : decode cX6_takes 46 = .ok (.goto 8, 3) := by decide +kernel
theorem dX6_takes_49 : decode cX6_takes 49 = .ok (.aload_n 0, 1) := by decide +kernel
theorem dX6_takes_50 : decode cX6_takes 50 = .ok (.iload_n 3, 1) := by decide +kernel
theorem dX6_takes_51 : decode cX6_takes 51 = .ok (.invokevirtual 110, 3) := by decide +kernel
theorem dX6_takes_54 : decode cX6_takes 54 = .ok (.ireturn, 1) := by decide +kernel
set_option maxRecDepth 20000 in
theorem ggX6_tells_X6_majority : GoodIn wsX6_tells wsX6_majority := goodIn_r _ [7, 2, 8, 9, 10, 11, 12, 13, 14, 15, 16, 17, 18, 19, 20, 21, 22, 23, 24, 25, 26, 27, 28, 29, 30, 31, 32, 33] (by decide +kernel) (by decide +kernel)
set_option maxRecDepth 20000 in
theorem gX6_tells_X6_majority : GoodIn wsX6_tells (wsV RX6 110 RX6 yX6_majority wsX6_majority) := goodIn_app (goodIn_of _ (by decide +kernel)) ggX6_tells_X6_majority
theorem dX6_tells_0 : decode cX6_tells 0 = .ok (.aload_n 0, 1) := by decide +kernel
theorem dX6_tells_1 : decode cX6_tells 1 = .ok (.getfield 23, 3) := by decide +kernel
theorem dX6_tells_4 : decode cX6_tells 4 = .ok (.iload_n 1, 1) := by decide +kernel
theorem dX6_tells_5 : decode cX6_tells 5 = .ok (.baload, 1) := by decide +kernel
theorem dX6_tells_6 : decode cX6_tells 6 = .ok (.ifCond .eq 11, 3) := by decide +kernel
theorem dX6_tells_9 : decode cX6_tells 9 = .ok (.aload_n 0, 1) := by decide +kernel
theorem dX6_tells_10 : decode cX6_tells 10 = .ok (.iload_n 1, 1) := by decide +kernel
theorem dX6_tells_11 : decode cX6_tells 11 = .ok (.invokevirtual 110, 3) := by decide +kernel
theorem dX6_tells_14 : decode cX6_tells 14 = .ok (.goto 11, 3) := by decide +kernel
theorem dX6_tells_17 : decode cX6_tells 17 = .ok (.aload_n 0, 1) := by decide +kernel
theorem dX6_tells_18 : decode cX6_tells 18 = .ok (.getfield 45, 3) := by decide +kernel
theorem dX6_tells_21 : decode cX6_tells 21 = .ok (.iconst 3, 1) := by decide +kernel
theorem dX6_tells_22 : decode cX6_tells 22 = .ok (.iload_n 1, 1) := by decide +kernel
theorem dX6_tells_23 : decode cX6_tells 23 = .ok (.imul, 1) := by decide +kernel
theorem dX6_tells_24 : decode cX6_tells 24 = .ok (.iaload, 1) := by decide +kernel
theorem dX6_tells_25 : decode cX6_tells 25 = .ok (.ireturn, 1) := by decide +kernel
set_option maxRecDepth 20000 in
theorem ggX6_isCopy_X6_isNode : GoodIn wsX6_isCopy wsX6_isNode := goodIn_r _ [5, 6, 7, 8, 4, 9, 15, 16, 17, 18, 19, 20, 21, 22, 23, 24, 25, 26, 27, 28, 29, 30, 31, 32, 33, 34, 35, 36, 37, 38, 39, 40] (by decide +kernel) (by decide +kernel)
set_option maxRecDepth 20000 in
theorem gX6_isCopy_X6_isNode : GoodIn wsX6_isCopy (wsV RX6 85 RX6 yX6_isNode wsX6_isNode) := goodIn_app (goodIn_of _ (by decide +kernel)) ggX6_isCopy_X6_isNode
set_option maxRecDepth 20000 in
theorem ggX6_isCopy_X6_copiesOf : GoodIn wsX6_isCopy wsX6_copiesOf := goodIn_r _ [13, 14, 15, 16, 17, 18, 19, 20, 21, 22, 23, 24, 25, 26, 27, 28, 29, 30, 31, 32, 33, 34, 35, 36, 37, 38, 39, 40] (by decide +kernel) (by decide +kernel)
set_option maxRecDepth 20000 in
theorem gX6_isCopy_X6_copiesOf : GoodIn wsX6_isCopy (wsV RX6 114 RX6 yX6_copiesOf wsX6_copiesOf) := goodIn_app (goodIn_of _ (by decide +kernel)) ggX6_isCopy_X6_copiesOf
set_option maxRecDepth 20000 in
theorem ggX6_isCopy_X6_in : GoodIn wsX6_isCopy wsX6_in := goodIn_r _ [9] (by decide +kernel) (by decide +kernel)
set_option maxRecDepth 20000 in
theorem gX6_isCopy_X6_in : GoodIn wsX6_isCopy (va_wsS RX6 81 yX6_in wsX6_in) := goodIn_app (goodIn_of _ (by decide +kernel)) ggX6_isCopy_X6_in
theorem dX6_isCopy_0 : decode cX6_isCopy 0 = .ok (.aload_n 0, 1) := by decide +kernel
theorem dX6_isCopy_1 : decode cX6_isCopy 1 = .ok (.iload_n 1, 1) := by decide +kernel
theorem dX6_isCopy_2 : decode cX6_isCopy 2 = .ok (.invokevirtual 85, 3) := by decide +kernel
theorem dX6_isCopy_5 : decode cX6_isCopy 5 = .ok (.ifCond .eq 22, 3) := by decide +kernel
theorem dX6_isCopy_8 : decode cX6_isCopy 8 = .ok (.iload_n 2, 1) := by decide +kernel
theorem dX6_isCopy_9 : decode cX6_isCopy 9 = .ok (.iconst 0, 1) := by decide +kernel
theorem dX6_isCopy_10 : decode cX6_isCopy 10 = .ok (.aload_n 0, 1) := by decide +kernel
theorem dX6_isCopy_11 : decode cX6_isCopy 11 = .ok (.iload_n 1, 1) := by decide +kernel
theorem dX6_isCopy_12 : decode cX6_isCopy 12 = .ok (.invokevirtual 114, 3) := by decide +kernel
theorem dX6_isCopy_15 : decode cX6_isCopy 15 = .ok (.iconst 1, 1) := by decide +kernel
theorem dX6_isCopy_16 : decode cX6_isCopy 16 = .ok (.isub, 1) := by decide +kernel
theorem dX6_isCopy_17 : decode cX6_isCopy 17 = .ok (.invokestatic 81, 3) := by decide +kernel
theorem dX6_isCopy_20 : decode cX6_isCopy 20 = .ok (.ifCond .eq 7, 3) := by decide +kernel
theorem dX6_isCopy_23 : decode cX6_isCopy 23 = .ok (.iconst 1, 1) := by decide +kernel
theorem dX6_isCopy_24 : decode cX6_isCopy 24 = .ok (.goto 4, 3) := by decide +kernel
theorem dX6_isCopy_27 : decode cX6_isCopy 27 = .ok (.iconst 0, 1) := by decide +kernel
theorem dX6_isCopy_28 : decode cX6_isCopy 28 = .ok (.ireturn, 1) := by decide +kernel
theorem dX6_flipAt_0 : decode cX6_flipAt 0 = .ok (.aload_n 0, 1) := by decide +kernel
theorem dX6_flipAt_1 : decode cX6_flipAt 1 = .ok (.getfield 51, 3) := by decide +kernel
theorem dX6_flipAt_4 : decode cX6_flipAt 4 = .ok (.iconst 0, 1) := by decide +kernel
theorem dX6_flipAt_5 : decode cX6_flipAt 5 = .ok (.iaload, 1) := by decide +kernel
theorem dX6_flipAt_6 : decode cX6_flipAt 6 = .ok (.iload_n 1, 1) := by decide +kernel
theorem dX6_flipAt_7 : decode cX6_flipAt 7 = .ok (.if_icmp .ne 27, 3) := by decide +kernel
theorem dX6_flipAt_10 : decode cX6_flipAt 10 = .ok (.aload_n 0, 1) := by decide +kernel
theorem dX6_flipAt_11 : decode cX6_flipAt 11 = .ok (.getfield 51, 3) := by decide +kernel
theorem dX6_flipAt_14 : decode cX6_flipAt 14 = .ok (.iconst 1, 1) := by decide +kernel
theorem dX6_flipAt_15 : decode cX6_flipAt 15 = .ok (.iaload, 1) := by decide +kernel
theorem dX6_flipAt_16 : decode cX6_flipAt 16 = .ok (.iload_n 2, 1) := by decide +kernel
theorem dX6_flipAt_17 : decode cX6_flipAt 17 = .ok (.if_icmp .ne 17, 3) := by decide +kernel
theorem dX6_flipAt_20 : decode cX6_flipAt 20 = .ok (.aload_n 0, 1) := by decide +kernel
theorem dX6_flipAt_21 : decode cX6_flipAt 21 = .ok (.getfield 51, 3) := by decide +kernel
theorem dX6_flipAt_24 : decode cX6_flipAt 24 = .ok (.iconst 2, 1) := by decide +kernel
theorem dX6_flipAt_25 : decode cX6_flipAt 25 = .ok (.iaload, 1) := by decide +kernel
theorem dX6_flipAt_26 : decode cX6_flipAt 26 = .ok (.iload_n 3, 1) := by decide +kernel
theorem dX6_flipAt_27 : decode cX6_flipAt 27 = .ok (.if_icmp .ne 7, 3) := by decide +kernel
theorem dX6_flipAt_30 : decode cX6_flipAt 30 = .ok (.iconst 1, 1) := by decide +kernel
theorem dX6_flipAt_31 : decode cX6_flipAt 31 = .ok (.goto 4, 3) := by decide +kernel
theorem dX6_flipAt_34 : decode cX6_flipAt 34 = .ok (.iconst 0, 1) := by decide +kernel
theorem dX6_flipAt_35 : decode cX6_flipAt 35 = .ok (.istore 4, 2) := by decide +kernel
theorem dX6_flipAt_37 : decode cX6_flipAt 37 = .ok (.aload_n 0, 1) := by decide +kernel
theorem dX6_flipAt_38 : decode cX6_flipAt 38 = .ok (.getfield 51, 3) := by decide +kernel
theorem dX6_flipAt_41 : decode cX6_flipAt 41 = .ok (.iconst 3, 1) := by decide +kernel
theorem dX6_flipAt_42 : decode cX6_flipAt 42 = .ok (.iaload, 1) := by decide +kernel
theorem dX6_flipAt_43 : decode cX6_flipAt 43 = .ok (.iload_n 1, 1) := by decide +kernel
theorem dX6_flipAt_44 : decode cX6_flipAt 44 = .ok (.if_icmp .ne 27, 3) := by decide +kernel
theorem dX6_flipAt_47 : decode cX6_flipAt 47 = .ok (.aload_n 0, 1) := by decide +kernel
theorem dX6_flipAt_48 : decode cX6_flipAt 48 = .ok (.getfield 51, 3) := by decide +kernel
theorem dX6_flipAt_51 : decode cX6_flipAt 51 = .ok (.iconst 4, 1) := by decide +kernel
theorem dX6_flipAt_52 : decode cX6_flipAt 52 = .ok (.iaload, 1) := by decide +kernel
theorem dX6_flipAt_53 : decode cX6_flipAt 53 = .ok (.iload_n 2, 1) := by decide +kernel
theorem dX6_flipAt_54 : decode cX6_flipAt 54 = .ok (.if_icmp .ne 17, 3) := by decide +kernel
theorem dX6_flipAt_57 : decode cX6_flipAt 57 = .ok (.aload_n 0, 1) := by decide +kernel
theorem dX6_flipAt_58 : decode cX6_flipAt 58 = .ok (.getfield 51, 3) := by decide +kernel
theorem dX6_flipAt_61 : decode cX6_flipAt 61 = .ok (.iconst 5, 1) := by decide +kernel
theorem dX6_flipAt_62 : decode cX6_flipAt 62 = .ok (.iaload, 1) := by decide +kernel
theorem dX6_flipAt_63 : decode cX6_flipAt 63 = .ok (.iload_n 3, 1) := by decide +kernel
theorem dX6_flipAt_64 : decode cX6_flipAt 64 = .ok (.if_icmp .ne 7, 3) := by decide +kernel
theorem dX6_flipAt_67 : decode cX6_flipAt 67 = .ok (.iconst 1, 1) := by decide +kernel
theorem dX6_flipAt_68 : decode cX6_flipAt 68 = .ok (.goto 4, 3) := by decide +kernel
theorem dX6_flipAt_71 : decode cX6_flipAt 71 = .ok (.iconst 0, 1) := by decide +kernel
theorem dX6_flipAt_72 : decode cX6_flipAt 72 = .ok (.istore 5, 2) := by decide +kernel
theorem dX6_flipAt_74 : decode cX6_flipAt 74 = .ok (.iload 4, 2) := by decide +kernel
theorem dX6_flipAt_76 : decode cX6_flipAt 76 = .ok (.ifCond .ne 8, 3) := by decide +kernel
theorem dX6_flipAt_79 : decode cX6_flipAt 79 = .ok (.iload 5, 2) := by decide +kernel
theorem dX6_flipAt_81 : decode cX6_flipAt 81 = .ok (.ifCond .eq 7, 3) := by decide +kernel
theorem dX6_flipAt_84 : decode cX6_flipAt 84 = .ok (.iconst 1, 1) := by decide +kernel
theorem dX6_flipAt_85 : decode cX6_flipAt 85 = .ok (.goto 4, 3) := by decide +kernel
theorem dX6_flipAt_88 : decode cX6_flipAt 88 = .ok (.iconst 0, 1) := by decide +kernel
theorem dX6_flipAt_89 : decode cX6_flipAt 89 = .ok (.ireturn, 1) := by decide +kernel
set_option maxRecDepth 20000 in
theorem ggX6_runs_X6_passes : GoodIn wsX6_runs wsX6_passes := goodIn_r _ [12, 2, 7, 3, 13, 14, 15, 16, 17, 11, 18, 19, 20, 21, 22, 23, 1, 24, 25, 26, 27, 28, 29, 30, 31, 32, 33, 34, 35, 36, 37, 38, 39, 40, 41, 42, 53, 54, 55, 56, 57, 58, 59, 60, 61, 62, 63, 64, 65, 66, 67, 68, 69, 70, 71, 72, 73, 74, 75, 76, 77, 78] (by decide +kernel) (by decide +kernel)
set_option maxRecDepth 20000 in
theorem gX6_runs_X6_passes : GoodIn wsX6_runs (wsV RX6 117 RX6 yX6_passes wsX6_passes) := goodIn_app (goodIn_of _ (by decide +kernel)) ggX6_runs_X6_passes
set_option maxRecDepth 20000 in
theorem ggX6_runs_X6_tells : GoodIn wsX6_runs wsX6_tells := goodIn_r _ [46, 19, 3, 36, 37, 38, 11, 39, 53, 54, 55, 56, 57, 58, 59, 60, 61, 62, 63, 64, 65, 66, 67, 68, 69, 70, 71, 72, 73, 74, 75, 76, 77, 78] (by decide +kernel) (by decide +kernel)
set_option maxRecDepth 20000 in
theorem gX6_runs_X6_tells : GoodIn wsX6_runs (wsV RX6 120 RX6 yX6_tells wsX6_tells) := goodIn_app (goodIn_of _ (by decide +kernel)) ggX6_runs_X6_tells
set_option maxRecDepth 20000 in
theorem ggX6_runs_X6_takesOver : GoodIn wsX6_runs wsX6_takesOver := goodIn_r _ [50, 2, 7, 51, 13, 52, 3, 15, 16, 17, 11, 18, 19, 32, 33, 34, 35, 36, 37, 38, 39, 53, 54, 55, 56, 57, 58, 59, 60, 61, 62, 63, 64, 65, 66, 67, 68, 69, 70, 71, 72, 73, 74, 75, 76, 77, 78] (by decide +kernel) (by decide +kernel)
set_option maxRecDepth 20000 in
theorem gX6_runs_X6_takesOver : GoodIn wsX6_runs (wsV RX6 123 RX6 yX6_takesOver wsX6_takesOver) := goodIn_app (goodIn_of _ (by decide +kernel)) ggX6_runs_X6_takesOver
set_option maxRecDepth 20000 in
theorem ggX6_runs_X6_copiesOf : GoodIn wsX6_runs wsX6_copiesOf := goodIn_r _ [18, 19, 53, 54, 55, 56, 57, 58, 59, 60, 61, 62, 63, 64, 65, 66, 67, 68, 69, 70, 71, 72, 73, 74, 75, 76, 77, 78] (by decide +kernel) (by decide +kernel)
set_option maxRecDepth 20000 in
theorem gX6_runs_X6_copiesOf : GoodIn wsX6_runs (wsV RX6 114 RX6 yX6_copiesOf wsX6_copiesOf) := goodIn_app (goodIn_of _ (by decide +kernel)) ggX6_runs_X6_copiesOf
theorem dX6_runs_0 : decode cX6_runs 0 = .ok (.aload_n 0, 1) := by decide +kernel
theorem dX6_runs_1 : decode cX6_runs 1 = .ok (.getfield 51, 3) := by decide +kernel
theorem dX6_runs_4 : decode cX6_runs 4 = .ok (.iconst 3, 1) := by decide +kernel
theorem dX6_runs_5 : decode cX6_runs 5 = .ok (.iaload, 1) := by decide +kernel
theorem dX6_runs_6 : decode cX6_runs 6 = .ok (.ifCond .lt 27, 3) := by decide +kernel
theorem dX6_runs_9 : decode cX6_runs 9 = .ok (.aload_n 0, 1) := by decide +kernel
theorem dX6_runs_10 : decode cX6_runs 10 = .ok (.getfield 51, 3) := by decide +kernel
theorem dX6_runs_13 : decode cX6_runs 13 = .ok (.iconst 3, 1) := by decide +kernel
theorem dX6_runs_14 : decode cX6_runs 14 = .ok (.iaload, 1) := by decide +kernel
theorem dX6_runs_15 : decode cX6_runs 15 = .ok (.aload_n 0, 1) := by decide +kernel
theorem dX6_runs_16 : decode cX6_runs 16 = .ok (.getfield 51, 3) := by decide +kernel
theorem dX6_runs_19 : decode cX6_runs 19 = .ok (.iconst 0, 1) := by decide +kernel
theorem dX6_runs_20 : decode cX6_runs 20 = .ok (.iaload, 1) := by decide +kernel
theorem dX6_runs_21 : decode cX6_runs 21 = .ok (.if_icmp .ge 12, 3) := by decide +kernel
theorem dX6_runs_24 : decode cX6_runs 24 = .ok (.aload_n 0, 1) := by decide +kernel
theorem dX6_runs_25 : decode cX6_runs 25 = .ok (.getfield 51, 3) := by decide +kernel
theorem dX6_runs_28 : decode cX6_runs 28 = .ok (.iconst 3, 1) := by decide +kernel
theorem dX6_runs_29 : decode cX6_runs 29 = .ok (.iaload, 1) := by decide +kernel
theorem dX6_runs_30 : decode cX6_runs 30 = .ok (.goto 9, 3) := by decide +kernel
theorem dX6_runs_33 : decode cX6_runs 33 = .ok (.aload_n 0, 1) := by decide +kernel
theorem dX6_runs_34 : decode cX6_runs 34 = .ok (.getfield 51, 3) := by decide +kernel
theorem dX6_runs_37 : decode cX6_runs 37 = .ok (.iconst 0, 1) := by decide +kernel
theorem dX6_runs_38 : decode cX6_runs 38 = .ok (.iaload, 1) := by decide +kernel
theorem dX6_runs_39 : decode cX6_runs 39 = .ok (.istore_n 1, 1) := by decide +kernel
theorem dX6_runs_40 : decode cX6_runs 40 = .ok (.iconst 0, 1) := by decide +kernel
theorem dX6_runs_41 : decode cX6_runs 41 = .ok (.istore_n 2, 1) := by decide +kernel
theorem dX6_runs_42 : decode cX6_runs 42 = .ok (.iconst 0, 1) := by decide +kernel
theorem dX6_runs_43 : decode cX6_runs 43 = .ok (.istore_n 3, 1) := by decide +kernel
theorem dX6_runs_44 : decode cX6_runs 44 = .ok (.iload_n 3, 1) := by decide +kernel
theorem dX6_runs_45 : decode cX6_runs 45 = .ok (.aload_n 0, 1) := by decide +kernel
theorem dX6_runs_46 : decode cX6_runs 46 = .ok (.getfield 78, 3) := by decide +kernel
theorem dX6_runs_49 : decode cX6_runs 49 = .ok (.if_icmp .ge 46, 3) := by decide +kernel
theorem dX6_runs_52 : decode cX6_runs 52 = .ok (.iconst 0, 1) := by decide +kernel
theorem dX6_runs_53 : decode cX6_runs 53 = .ok (.istore 4, 2) := by decide +kernel
theorem dX6_runs_55 : decode cX6_runs 55 = .ok (.iload 4, 2) := by decide +kernel
theorem dX6_runs_57 : decode cX6_runs 57 = .ok (.iconst 3, 1) := by decide +kernel
theorem dX6_runs_58 : decode cX6_runs 58 = .ok (.if_icmp .ge 31, 3) := by decide +kernel
theorem dX6_runs_61 : decode cX6_runs 61 = .ok (.aload_n 0, 1) := by decide +kernel
theorem dX6_runs_62 : decode cX6_runs 62 = .ok (.getfield 45, 3) := by decide +kernel
theorem dX6_runs_65 : decode cX6_runs 65 = .ok (.iconst 3, 1) := by decide +kernel
theorem dX6_runs_66 : decode cX6_runs 66 = .ok (.iload_n 3, 1) := by decide +kernel
theorem dX6_runs_67 : decode cX6_runs 67 = .ok (.imul, 1) := by decide +kernel
theorem dX6_runs_68 : decode cX6_runs 68 = .ok (.iload 4, 2) := by decide +kernel
theorem dX6_runs_70 : decode cX6_runs 70 = .ok (.iadd, 1) := by decide +kernel
theorem dX6_runs_71 : decode cX6_runs 71 = .ok (.aload_n 0, 1) := by decide +kernel
theorem dX6_runs_72 : decode cX6_runs 72 = .ok (.getfield 42, 3) := by decide +kernel
theorem dX6_runs_75 : decode cX6_runs 75 = .ok (.bipush 24, 2) := by decide +kernel
theorem dX6_runs_77 : decode cX6_runs 77 = .ok (.iload_n 1, 1) := by decide +kernel
theorem dX6_runs_78 : decode cX6_runs 78 = .ok (.imul, 1) := by decide +kernel
theorem dX6_runs_79 : decode cX6_runs 79 = .ok (.iload_n 3, 1) := by decide +kernel
theorem dX6_runs_80 : decode cX6_runs 80 = .ok (.iadd, 1) := by decide +kernel
theorem dX6_runs_81 : decode cX6_runs 81 = .ok (.iaload, 1) := by decide +kernel
theorem dX6_runs_82 : decode cX6_runs 82 = .ok (.iastore, 1) := by decide +kernel
theorem dX6_runs_83 : decode cX6_runs 83 = .ok (.iinc 4 1, 3) := by decide +kernel
theorem dX6_runs_86 : decode cX6_runs 86 = .ok (.goto (-31), 3) := by decide +kernel
theorem dX6_runs_89 : decode cX6_runs 89 = .ok (.iinc 3 1, 3) := by decide +kernel
theorem dX6_runs_92 : decode cX6_runs 92 = .ok (.goto (-48), 3) := by decide +kernel
theorem dX6_runs_95 : decode cX6_runs 95 = .ok (.iload_n 1, 1) := by decide +kernel
theorem dX6_runs_96 : decode cX6_runs 96 = .ok (.istore_n 3, 1) := by decide +kernel
theorem dX6_runs_97 : decode cX6_runs 97 = .ok (.iload_n 3, 1) := by decide +kernel
theorem dX6_runs_98 : decode cX6_runs 98 = .ok (.aload_n 0, 1) := by decide +kernel
theorem dX6_runs_99 : decode cX6_runs 99 = .ok (.getfield 35, 3) := by decide +kernel
theorem dX6_runs_102 : decode cX6_runs 102 = .ok (.if_icmp .ge 75, 3) := by decide +kernel
theorem dX6_runs_105 : decode cX6_runs 105 = .ok (.aload_n 0, 1) := by decide +kernel
theorem dX6_runs_106 : decode cX6_runs 106 = .ok (.iload_n 3, 1) := by decide +kernel
theorem dX6_runs_107 : decode cX6_runs 107 = .ok (.invokevirtual 117, 3) := by decide +kernel
theorem dX6_runs_110 : decode cX6_runs 110 = .ok (.iconst 0, 1) := by decide +kernel
theorem dX6_runs_111 : decode cX6_runs 111 = .ok (.istore 4, 2) := by decide +kernel
theorem dX6_runs_113 : decode cX6_runs 113 = .ok (.iload 4, 2) := by decide +kernel
theorem dX6_runs_115 : decode cX6_runs 115 = .ok (.aload_n 0, 1) := by decide +kernel
theorem dX6_runs_116 : decode cX6_runs 116 = .ok (.getfield 78, 3) := by decide +kernel
theorem dX6_runs_119 : decode cX6_runs 119 = .ok (.if_icmp .ge 48, 3) := by decide +kernel
theorem dX6_runs_122 : decode cX6_runs 122 = .ok (.iload_n 2, 1) := by decide +kernel
theorem dX6_runs_123 : decode cX6_runs 123 = .ok (.aload_n 0, 1) := by decide +kernel
theorem dX6_runs_124 : decode cX6_runs 124 = .ok (.getfield 19, 3) := by decide +kernel
theorem dX6_runs_127 : decode cX6_runs 127 = .ok (.iload 4, 2) := by decide +kernel
theorem dX6_runs_129 : decode cX6_runs 129 = .ok (.baload, 1) := by decide +kernel
theorem dX6_runs_130 : decode cX6_runs 130 = .ok (.ifCond .eq 28, 3) := by decide +kernel
theorem dX6_runs_133 : decode cX6_runs 133 = .ok (.aload_n 0, 1) := by decide +kernel
theorem dX6_runs_134 : decode cX6_runs 134 = .ok (.iload 4, 2) := by decide +kernel
theorem dX6_runs_136 : decode cX6_runs 136 = .ok (.invokevirtual 120, 3) := by decide +kernel
theorem dX6_runs_139 : decode cX6_runs 139 = .ok (.aload_n 0, 1) := by decide +kernel
theorem dX6_runs_140 : decode cX6_runs 140 = .ok (.getfield 42, 3) := by decide +kernel
theorem dX6_runs_143 : decode cX6_runs 143 = .ok (.bipush 24, 2) := by decide +kernel
theorem dX6_runs_145 : decode cX6_runs 145 = .ok (.iload_n 3, 1) := by decide +kernel
theorem dX6_runs_146 : decode cX6_runs 146 = .ok (.imul, 1) := by decide +kernel
theorem dX6_runs_147 : decode cX6_runs 147 = .ok (.iload 4, 2) := by decide +kernel
theorem dX6_runs_149 : decode cX6_runs 149 = .ok (.iadd, 1) := by decide +kernel
theorem dX6_runs_150 : decode cX6_runs 150 = .ok (.iaload, 1) := by decide +kernel
theorem dX6_runs_151 : decode cX6_runs 151 = .ok (.if_icmp .eq 7, 3) := by decide +kernel
theorem dX6_runs_154 : decode cX6_runs 154 = .ok (.iconst 1, 1) := by decide +kernel
theorem dX6_runs_155 : decode cX6_runs 155 = .ok (.goto 4, 3) := by decide +kernel
theorem dX6_runs_158 : decode cX6_runs 158 = .ok (.iconst 0, 1) := by decide +kernel
theorem dX6_runs_159 : decode cX6_runs 159 = .ok (.ior, 1) := by decide +kernel
theorem dX6_runs_160 : decode cX6_runs 160 = .ok (.istore_n 2, 1) := by decide +kernel
theorem dX6_runs_161 : decode cX6_runs 161 = .ok (.iinc 4 1, 3) := by decide +kernel
theorem dX6_runs_164 : decode cX6_runs 164 = .ok (.goto (-51), 3) := by decide +kernel
theorem dX6_runs_167 : decode cX6_runs 167 = .ok (.aload_n 0, 1) := by decide +kernel
theorem dX6_runs_168 : decode cX6_runs 168 = .ok (.invokevirtual 123, 3) := by decide +kernel
theorem dX6_runs_171 : decode cX6_runs 171 = .ok (.iinc 3 1, 3) := by decide +kernel
theorem dX6_runs_174 : decode cX6_runs 174 = .ok (.goto (-77), 3) := by decide +kernel
theorem dX6_runs_177 : decode cX6_runs 177 = .ok (.iconst 0, 1) := by decide +kernel
theorem dX6_runs_178 : decode cX6_runs 178 = .ok (.istore_n 3, 1) := by decide +kernel
theorem dX6_runs_179 : decode cX6_runs 179 = .ok (.iload_n 3, 1) := by decide +kernel
theorem dX6_runs_180 : decode cX6_runs 180 = .ok (.aload_n 0, 1) := by decide +kernel
theorem dX6_runs_181 : decode cX6_runs 181 = .ok (.getfield 78, 3) := by decide +kernel
theorem dX6_runs_184 : decode cX6_runs 184 = .ok (.if_icmp .ge 74, 3) := by decide +kernel
theorem dX6_runs_187 : decode cX6_runs 187 = .ok (.iconst 0, 1) := by decide +kernel
theorem dX6_runs_188 : decode cX6_runs 188 = .ok (.istore 4, 2) := by decide +kernel
theorem dX6_runs_190 : decode cX6_runs 190 = .ok (.iload 4, 2) := by decide +kernel
theorem dX6_runs_192 : decode cX6_runs 192 = .ok (.aload_n 0, 1) := by decide +kernel
theorem dX6_runs_193 : decode cX6_runs 193 = .ok (.iload_n 3, 1) := by decide +kernel
theorem dX6_runs_194 : decode cX6_runs 194 = .ok (.invokevirtual 114, 3) := by decide +kernel
theorem dX6_runs_197 : decode cX6_runs 197 = .ok (.if_icmp .ge 55, 3) := by decide +kernel
theorem dX6_runs_200 : decode cX6_runs 200 = .ok (.iload_n 2, 1) := by decide +kernel
theorem dX6_runs_201 : decode cX6_runs 201 = .ok (.aload_n 0, 1) := by decide +kernel
theorem dX6_runs_202 : decode cX6_runs 202 = .ok (.getfield 7, 3) := by decide +kernel
theorem dX6_runs_205 : decode cX6_runs 205 = .ok (.iload_n 3, 1) := by decide +kernel
theorem dX6_runs_206 : decode cX6_runs 206 = .ok (.iaload, 1) := by decide +kernel
theorem dX6_runs_207 : decode cX6_runs 207 = .ok (.iconst 5, 1) := by decide +kernel
theorem dX6_runs_208 : decode cX6_runs 208 = .ok (.if_icmp .ne 35, 3) := by decide +kernel
theorem dX6_runs_211 : decode cX6_runs 211 = .ok (.aload_n 0, 1) := by decide +kernel
theorem dX6_runs_212 : decode cX6_runs 212 = .ok (.getfield 45, 3) := by decide +kernel
theorem dX6_runs_215 : decode cX6_runs 215 = .ok (.iconst 3, 1) := by decide +kernel
theorem dX6_runs_216 : decode cX6_runs 216 = .ok (.iload_n 3, 1) := by decide +kernel
theorem dX6_runs_217 : decode cX6_runs 217 = .ok (.imul, 1) := by decide +kernel
theorem dX6_runs_218 : decode cX6_runs 218 = .ok (.iload 4, 2) := by decide +kernel
theorem dX6_runs_220 : decode cX6_runs 220 = .ok (.iadd, 1) := by decide +kernel
theorem dX6_runs_221 : decode cX6_runs 221 = .ok (.iaload, 1) := by decide +kernel
theorem dX6_runs_222 : decode cX6_runs 222 = .ok (.aload_n 0, 1) := by decide +kernel
theorem dX6_runs_223 : decode cX6_runs 223 = .ok (.getfield 42, 3) := by decide +kernel
theorem dX6_runs_226 : decode cX6_runs 226 = .ok (.bipush 24, 2) := by decide +kernel
theorem dX6_runs_228 : decode cX6_runs 228 = .ok (.aload_n 0, 1) := by decide +kernel
theorem dX6_runs_229 : decode cX6_runs 229 = .ok (.getfield 35, 3) := by decide +kernel
theorem dX6_runs_232 : decode cX6_runs 232 = .ok (.imul, 1) := by decide +kernel
theorem dX6_runs_233 : decode cX6_runs 233 = .ok (.iload_n 3, 1) := by decide +kernel
theorem dX6_runs_234 : decode cX6_runs 234 = .ok (.iadd, 1) := by decide +kernel
theorem dX6_runs_235 : decode cX6_runs 235 = .ok (.iaload, 1) := by decide +kernel
theorem dX6_runs_236 : decode cX6_runs 236 = .ok (.if_icmp .eq 7, 3) := by decide +kernel
theorem dX6_runs_239 : decode cX6_runs 239 = .ok (.iconst 2, 1) := by decide +kernel
theorem dX6_runs_240 : decode cX6_runs 240 = .ok (.goto 4, 3) := by decide +kernel
theorem dX6_runs_243 : decode cX6_runs 243 = .ok (.iconst 0, 1) := by decide +kernel
theorem dX6_runs_244 : decode cX6_runs 244 = .ok (.ior, 1) := by decide +kernel
theorem dX6_runs_245 : decode cX6_runs 245 = .ok (.istore_n 2, 1) := by decide +kernel
theorem dX6_runs_246 : decode cX6_runs 246 = .ok (.iinc 4 1, 3) := by decide +kernel
theorem dX6_runs_249 : decode cX6_runs 249 = .ok (.goto (-59), 3) := by decide +kernel
theorem dX6_runs_252 : decode cX6_runs 252 = .ok (.iinc 3 1, 3) := by decide +kernel
theorem dX6_runs_255 : decode cX6_runs 255 = .ok (.goto (-76), 3) := by decide +kernel
theorem dX6_runs_258 : decode cX6_runs 258 = .ok (.iload_n 2, 1) := by decide +kernel
theorem dX6_runs_259 : decode cX6_runs 259 = .ok (.ireturn, 1) := by decide +kernel
set_option maxRecDepth 20000 in
theorem ggX6_passes_X6_copiesOf : GoodIn wsX6_passes wsX6_copiesOf := goodIn_r _ [10, 11, 36, 37, 38, 39, 40, 41, 42, 43, 44, 45, 46, 47, 48, 49, 50, 51, 52, 53, 54, 55, 56, 57, 58, 59, 60, 61] (by decide +kernel) (by decide +kernel)
set_option maxRecDepth 20000 in
theorem gX6_passes_X6_copiesOf : GoodIn wsX6_passes (wsV RX6 114 RX6 yX6_copiesOf wsX6_copiesOf) := goodIn_app (goodIn_of _ (by decide +kernel)) ggX6_passes_X6_copiesOf
set_option maxRecDepth 20000 in
theorem ggX6_passes_X6_flipAt : GoodIn wsX6_passes wsX6_flipAt := goodIn_r _ [15, 16, 36, 37, 38, 39, 40, 41, 42, 43, 44, 45, 46, 47, 48, 49, 50, 51, 52, 53, 54, 55, 56, 57, 58, 59, 60, 61] (by decide +kernel) (by decide +kernel)
set_option maxRecDepth 20000 in
theorem gX6_passes_X6_flipAt : GoodIn wsX6_passes (wsV RX6 126 RX6 yX6_flipAt wsX6_flipAt) := goodIn_app (goodIn_of _ (by decide +kernel)) ggX6_passes_X6_flipAt
set_option maxRecDepth 20000 in
theorem ggX6_passes_X6_inputAt : GoodIn wsX6_passes wsX6_inputAt := goodIn_r _ [20, 21, 22, 23, 24, 36, 37, 38, 39, 40, 41, 42, 43, 44, 45, 46, 47, 48, 49, 50, 51, 52, 53, 54, 55, 56, 57, 58, 59, 60, 61] (by decide +kernel) (by decide +kernel)
set_option maxRecDepth 20000 in
theorem gX6_passes_X6_inputAt : GoodIn wsX6_passes (wsV RX6 98 RX6 yX6_inputAt wsX6_inputAt) := goodIn_app (goodIn_of _ (by decide +kernel)) ggX6_passes_X6_inputAt
set_option maxRecDepth 20000 in
theorem ggX6_passes_X6_takes : GoodIn wsX6_passes wsX6_takes := goodIn_r _ [28, 11, 3, 29, 30, 31, 9, 32, 36, 37, 38, 39, 40, 41, 42, 43, 44, 45, 46, 47, 48, 49, 50, 51, 52, 53, 54, 55, 56, 57, 58, 59, 60, 61] (by decide +kernel) (by decide +kernel)
set_option maxRecDepth 20000 in
theorem gX6_passes_X6_takes : GoodIn wsX6_passes (wsV RX6 129 RX6 yX6_takes wsX6_takes) := goodIn_app (goodIn_of _ (by decide +kernel)) ggX6_passes_X6_takes
set_option maxRecDepth 20000 in
theorem ggX6_passes_X6_gate : GoodIn wsX6_passes wsX6_gate := goodIn_r _ [35] (by decide +kernel) (by decide +kernel)
set_option maxRecDepth 20000 in
theorem gX6_passes_X6_gate : GoodIn wsX6_passes (va_wsS RX6 102 yX6_gate wsX6_gate) := goodIn_app (goodIn_of _ (by decide +kernel)) ggX6_passes_X6_gate
theorem dX6_passes_0 : decode cX6_passes 0 = .ok (.iconst 0, 1) := by decide +kernel
theorem dX6_passes_1 : decode cX6_passes 1 = .ok (.istore_n 2, 1) := by decide +kernel
theorem dX6_passes_2 : decode cX6_passes 2 = .ok (.iload_n 2, 1) := by decide +kernel
theorem dX6_passes_3 : decode cX6_passes 3 = .ok (.aload_n 0, 1) := by decide +kernel
theorem dX6_passes_4 : decode cX6_passes 4 = .ok (.getfield 78, 3) := by decide +kernel
theorem dX6_passes_7 : decode cX6_passes 7 = .ok (.if_icmp .ge 56, 3) := by decide +kernel
theorem dX6_passes_10 : decode cX6_passes 10 = .ok (.iconst 0, 1) := by decide +kernel
theorem dX6_passes_11 : decode cX6_passes 11 = .ok (.istore_n 3, 1) := by decide +kernel
theorem dX6_passes_12 : decode cX6_passes 12 = .ok (.iload_n 3, 1) := by decide +kernel
theorem dX6_passes_13 : decode cX6_passes 13 = .ok (.aload_n 0, 1) := by decide +kernel
theorem dX6_passes_14 : decode cX6_passes 14 = .ok (.iload_n 2, 1) := by decide +kernel
theorem dX6_passes_15 : decode cX6_passes 15 = .ok (.invokevirtual 114, 3) := by decide +kernel
theorem dX6_passes_18 : decode cX6_passes 18 = .ok (.if_icmp .ge 39, 3) := by decide +kernel
theorem dX6_passes_21 : decode cX6_passes 21 = .ok (.aload_n 0, 1) := by decide +kernel
theorem dX6_passes_22 : decode cX6_passes 22 = .ok (.getfield 7, 3) := by decide +kernel
theorem dX6_passes_25 : decode cX6_passes 25 = .ok (.iload_n 2, 1) := by decide +kernel
theorem dX6_passes_26 : decode cX6_passes 26 = .ok (.iaload, 1) := by decide +kernel
theorem dX6_passes_27 : decode cX6_passes 27 = .ok (.iconst 5, 1) := by decide +kernel
theorem dX6_passes_28 : decode cX6_passes 28 = .ok (.if_icmp .ne 29, 3) := by decide +kernel
theorem dX6_passes_31 : decode cX6_passes 31 = .ok (.aload_n 0, 1) := by decide +kernel
theorem dX6_passes_32 : decode cX6_passes 32 = .ok (.getfield 45, 3) := by decide +kernel
theorem dX6_passes_35 : decode cX6_passes 35 = .ok (.iconst 3, 1) := by decide +kernel
theorem dX6_passes_36 : decode cX6_passes 36 = .ok (.iload_n 2, 1) := by decide +kernel
theorem dX6_passes_37 : decode cX6_passes 37 = .ok (.imul, 1) := by decide +kernel
theorem dX6_passes_38 : decode cX6_passes 38 = .ok (.iload_n 3, 1) := by decide +kernel
theorem dX6_passes_39 : decode cX6_passes 39 = .ok (.iadd, 1) := by decide +kernel
theorem dX6_passes_40 : decode cX6_passes 40 = .ok (.dup2, 1) := by decide +kernel
theorem dX6_passes_41 : decode cX6_passes 41 = .ok (.iaload, 1) := by decide +kernel
theorem dX6_passes_42 : decode cX6_passes 42 = .ok (.aload_n 0, 1) := by decide +kernel
theorem dX6_passes_43 : decode cX6_passes 43 = .ok (.iload_n 1, 1) := by decide +kernel
theorem dX6_passes_44 : decode cX6_passes 44 = .ok (.iload_n 2, 1) := by decide +kernel
theorem dX6_passes_45 : decode cX6_passes 45 = .ok (.iload_n 3, 1) := by decide +kernel
theorem dX6_passes_46 : decode cX6_passes 46 = .ok (.invokevirtual 126, 3) := by decide +kernel
theorem dX6_passes_49 : decode cX6_passes 49 = .ok (.ixor, 1) := by decide +kernel
theorem dX6_passes_50 : decode cX6_passes 50 = .ok (.iastore, 1) := by decide +kernel
theorem dX6_passes_51 : decode cX6_passes 51 = .ok (.iinc 3 1, 3) := by decide +kernel
theorem dX6_passes_54 : decode cX6_passes 54 = .ok (.goto (-42), 3) := by decide +kernel
theorem dX6_passes_57 : decode cX6_passes 57 = .ok (.iinc 2 1, 3) := by decide +kernel
theorem dX6_passes_60 : decode cX6_passes 60 = .ok (.goto (-58), 3) := by decide +kernel
theorem dX6_passes_63 : decode cX6_passes 63 = .ok (.iconst 0, 1) := by decide +kernel
theorem dX6_passes_64 : decode cX6_passes 64 = .ok (.istore_n 2, 1) := by decide +kernel
theorem dX6_passes_65 : decode cX6_passes 65 = .ok (.iload_n 2, 1) := by decide +kernel
theorem dX6_passes_66 : decode cX6_passes 66 = .ok (.aload_n 0, 1) := by decide +kernel
theorem dX6_passes_67 : decode cX6_passes 67 = .ok (.getfield 78, 3) := by decide +kernel
theorem dX6_passes_70 : decode cX6_passes 70 = .ok (.if_icmp .ge 109, 3) := by decide +kernel
theorem dX6_passes_73 : decode cX6_passes 73 = .ok (.iconst 0, 1) := by decide +kernel
theorem dX6_passes_74 : decode cX6_passes 74 = .ok (.istore_n 3, 1) := by decide +kernel
theorem dX6_passes_75 : decode cX6_passes 75 = .ok (.iload_n 3, 1) := by decide +kernel
theorem dX6_passes_76 : decode cX6_passes 76 = .ok (.aload_n 0, 1) := by decide +kernel
theorem dX6_passes_77 : decode cX6_passes 77 = .ok (.iload_n 2, 1) := by decide +kernel
theorem dX6_passes_78 : decode cX6_passes 78 = .ok (.invokevirtual 114, 3) := by decide +kernel
theorem dX6_passes_81 : decode cX6_passes 81 = .ok (.if_icmp .ge 92, 3) := by decide +kernel
theorem dX6_passes_84 : decode cX6_passes 84 = .ok (.aload_n 0, 1) := by decide +kernel
theorem dX6_passes_85 : decode cX6_passes 85 = .ok (.getfield 7, 3) := by decide +kernel
theorem dX6_passes_88 : decode cX6_passes 88 = .ok (.iload_n 2, 1) := by decide +kernel
theorem dX6_passes_89 : decode cX6_passes 89 = .ok (.iaload, 1) := by decide +kernel
theorem dX6_passes_90 : decode cX6_passes 90 = .ok (.iconst 5, 1) := by decide +kernel
theorem dX6_passes_91 : decode cX6_passes 91 = .ok (.if_icmp .eq 82, 3) := by decide +kernel
theorem dX6_passes_94 : decode cX6_passes 94 = .ok (.aload_n 0, 1) := by decide +kernel
theorem dX6_passes_95 : decode cX6_passes 95 = .ok (.getfield 7, 3) := by decide +kernel
theorem dX6_passes_98 : decode cX6_passes 98 = .ok (.iload_n 2, 1) := by decide +kernel
theorem dX6_passes_99 : decode cX6_passes 99 = .ok (.iaload, 1) := by decide +kernel
theorem dX6_passes_100 : decode cX6_passes 100 = .ok (.ifCond .ne 12, 3) := by decide +kernel
theorem dX6_passes_103 : decode cX6_passes 103 = .ok (.aload_n 0, 1) := by decide +kernel
theorem dX6_passes_104 : decode cX6_passes 104 = .ok (.iload_n 2, 1) := by decide +kernel
theorem dX6_passes_105 : decode cX6_passes 105 = .ok (.iload_n 1, 1) := by decide +kernel
theorem dX6_passes_106 : decode cX6_passes 106 = .ok (.invokevirtual 98, 3) := by decide +kernel
theorem dX6_passes_109 : decode cX6_passes 109 = .ok (.goto 36, 3) := by decide +kernel
theorem dX6_passes_112 : decode cX6_passes 112 = .ok (.aload_n 0, 1) := by decide +kernel
theorem dX6_passes_113 : decode cX6_passes 113 = .ok (.getfield 7, 3) := by decide +kernel
theorem dX6_passes_116 : decode cX6_passes 116 = .ok (.iload_n 2, 1) := by decide +kernel
theorem dX6_passes_117 : decode cX6_passes 117 = .ok (.iaload, 1) := by decide +kernel
theorem dX6_passes_118 : decode cX6_passes 118 = .ok (.aload_n 0, 1) := by decide +kernel
theorem dX6_passes_119 : decode cX6_passes 119 = .ok (.iload_n 2, 1) := by decide +kernel
theorem dX6_passes_120 : decode cX6_passes 120 = .ok (.iload_n 3, 1) := by decide +kernel
theorem dX6_passes_121 : decode cX6_passes 121 = .ok (.aload_n 0, 1) := by decide +kernel
theorem dX6_passes_122 : decode cX6_passes 122 = .ok (.getfield 13, 3) := by decide +kernel
theorem dX6_passes_125 : decode cX6_passes 125 = .ok (.iload_n 2, 1) := by decide +kernel
theorem dX6_passes_126 : decode cX6_passes 126 = .ok (.iaload, 1) := by decide +kernel
theorem dX6_passes_127 : decode cX6_passes 127 = .ok (.invokevirtual 129, 3) := by decide +kernel
theorem dX6_passes_130 : decode cX6_passes 130 = .ok (.aload_n 0, 1) := by decide +kernel
theorem dX6_passes_131 : decode cX6_passes 131 = .ok (.iload_n 2, 1) := by decide +kernel
theorem dX6_passes_132 : decode cX6_passes 132 = .ok (.iload_n 3, 1) := by decide +kernel
theorem dX6_passes_133 : decode cX6_passes 133 = .ok (.aload_n 0, 1) := by decide +kernel
theorem dX6_passes_134 : decode cX6_passes 134 = .ok (.getfield 16, 3) := by decide +kernel
theorem dX6_passes_137 : decode cX6_passes 137 = .ok (.iload_n 2, 1) := by decide +kernel
theorem dX6_passes_138 : decode cX6_passes 138 = .ok (.iaload, 1) := by decide +kernel
theorem dX6_passes_139 : decode cX6_passes 139 = .ok (.invokevirtual 129, 3) := by decide +kernel
theorem dX6_passes_142 : decode cX6_passes 142 = .ok (.invokestatic 102, 3) := by decide +kernel
theorem dX6_passes_145 : decode cX6_passes 145 = .ok (.istore 4, 2) := by decide +kernel
theorem dX6_passes_147 : decode cX6_passes 147 = .ok (.aload_n 0, 1) := by decide +kernel
theorem dX6_passes_148 : decode cX6_passes 148 = .ok (.getfield 45, 3) := by decide +kernel
theorem dX6_passes_151 : decode cX6_passes 151 = .ok (.iconst 3, 1) := by decide +kernel
theorem dX6_passes_152 : decode cX6_passes 152 = .ok (.iload_n 2, 1) := by decide +kernel
theorem dX6_passes_153 : decode cX6_passes 153 = .ok (.imul, 1) := by decide +kernel
theorem dX6_passes_154 : decode cX6_passes 154 = .ok (.iload_n 3, 1) := by decide +kernel
theorem dX6_passes_155 : decode cX6_passes 155 = .ok (.iadd, 1) := by decide +kernel
theorem dX6_passes_156 : decode cX6_passes 156 = .ok (.iload 4, 2) := by decide +kernel
theorem dX6_passes_158 : decode cX6_passes 158 = .ok (.aload_n 0, 1) := by decide +kernel
theorem dX6_passes_159 : decode cX6_passes 159 = .ok (.iload_n 1, 1) := by decide +kernel
theorem dX6_passes_160 : decode cX6_passes 160 = .ok (.iload_n 2, 1) := by decide +kernel
theorem dX6_passes_161 : decode cX6_passes 161 = .ok (.iload_n 3, 1) := by decide +kernel
theorem dX6_passes_162 : decode cX6_passes 162 = .ok (.invokevirtual 126, 3) := by decide +kernel
theorem dX6_passes_165 : decode cX6_passes 165 = .ok (.ixor, 1) := by decide +kernel
theorem dX6_passes_166 : decode cX6_passes 166 = .ok (.iastore, 1) := by decide +kernel
theorem dX6_passes_167 : decode cX6_passes 167 = .ok (.iinc 3 1, 3) := by decide +kernel
theorem dX6_passes_170 : decode cX6_passes 170 = .ok (.goto (-95), 3) := by decide +kernel
theorem dX6_passes_173 : decode cX6_passes 173 = .ok (.iinc 2 1, 3) := by decide +kernel
theorem dX6_passes_176 : decode cX6_passes 176 = .ok (.goto (-111), 3) := by decide +kernel
theorem dX6_passes_179 : decode cX6_passes 179 = .ok (.return_, 1) := by decide +kernel
set_option maxRecDepth 20000 in
theorem ggX6_takesOver_X6_copiesOf : GoodIn wsX6_takesOver wsX6_copiesOf := goodIn_r _ [11, 12, 21, 22, 23, 24, 25, 26, 27, 28, 29, 30, 31, 32, 33, 34, 35, 36, 37, 38, 39, 40, 41, 42, 43, 44, 45, 46] (by decide +kernel) (by decide +kernel)
set_option maxRecDepth 20000 in
theorem gX6_takesOver_X6_copiesOf : GoodIn wsX6_takesOver (wsV RX6 114 RX6 yX6_copiesOf wsX6_copiesOf) := goodIn_app (goodIn_of _ (by decide +kernel)) ggX6_takesOver_X6_copiesOf
set_option maxRecDepth 20000 in
theorem ggX6_takesOver_X6_takes : GoodIn wsX6_takesOver wsX6_takes := goodIn_r _ [16, 12, 6, 17, 18, 19, 10, 20, 21, 22, 23, 24, 25, 26, 27, 28, 29, 30, 31, 32, 33, 34, 35, 36, 37, 38, 39, 40, 41, 42, 43, 44, 45, 46] (by decide +kernel) (by decide +kernel)
set_option maxRecDepth 20000 in
theorem gX6_takesOver_X6_takes : GoodIn wsX6_takesOver (wsV RX6 129 RX6 yX6_takes wsX6_takes) := goodIn_app (goodIn_of _ (by decide +kernel)) ggX6_takesOver_X6_takes
theorem dX6_takesOver_0 : decode cX6_takesOver 0 = .ok (.iconst 0, 1) := by decide +kernel
theorem dX6_takesOver_1 : decode cX6_takesOver 1 = .ok (.istore_n 1, 1) := by decide +kernel
theorem dX6_takesOver_2 : decode cX6_takesOver 2 = .ok (.iload_n 1, 1) := by decide +kernel
theorem dX6_takesOver_3 : decode cX6_takesOver 3 = .ok (.aload_n 0, 1) := by decide +kernel
theorem dX6_takesOver_4 : decode cX6_takesOver 4 = .ok (.getfield 78, 3) := by decide +kernel
theorem dX6_takesOver_7 : decode cX6_takesOver 7 = .ok (.if_icmp .ge 115, 3) := by decide +kernel
theorem dX6_takesOver_10 : decode cX6_takesOver 10 = .ok (.iconst 0, 1) := by decide +kernel
theorem dX6_takesOver_11 : decode cX6_takesOver 11 = .ok (.istore_n 2, 1) := by decide +kernel
theorem dX6_takesOver_12 : decode cX6_takesOver 12 = .ok (.iconst 0, 1) := by decide +kernel
theorem dX6_takesOver_13 : decode cX6_takesOver 13 = .ok (.istore_n 3, 1) := by decide +kernel
theorem dX6_takesOver_14 : decode cX6_takesOver 14 = .ok (.iload_n 3, 1) := by decide +kernel
theorem dX6_takesOver_15 : decode cX6_takesOver 15 = .ok (.aload_n 0, 1) := by decide +kernel
theorem dX6_takesOver_16 : decode cX6_takesOver 16 = .ok (.iload_n 1, 1) := by decide +kernel
theorem dX6_takesOver_17 : decode cX6_takesOver 17 = .ok (.invokevirtual 114, 3) := by decide +kernel
theorem dX6_takesOver_20 : decode cX6_takesOver 20 = .ok (.if_icmp .ge 54, 3) := by decide +kernel
theorem dX6_takesOver_23 : decode cX6_takesOver 23 = .ok (.aload_n 0, 1) := by decide +kernel
theorem dX6_takesOver_24 : decode cX6_takesOver 24 = .ok (.getfield 7, 3) := by decide +kernel
theorem dX6_takesOver_27 : decode cX6_takesOver 27 = .ok (.iload_n 1, 1) := by decide +kernel
theorem dX6_takesOver_28 : decode cX6_takesOver 28 = .ok (.iaload, 1) := by decide +kernel
theorem dX6_takesOver_29 : decode cX6_takesOver 29 = .ok (.iconst 5, 1) := by decide +kernel
theorem dX6_takesOver_30 : decode cX6_takesOver 30 = .ok (.if_icmp .ne 44, 3) := by decide +kernel
theorem dX6_takesOver_33 : decode cX6_takesOver 33 = .ok (.aload_n 0, 1) := by decide +kernel
theorem dX6_takesOver_34 : decode cX6_takesOver 34 = .ok (.getfield 48, 3) := by decide +kernel
theorem dX6_takesOver_37 : decode cX6_takesOver 37 = .ok (.iconst 3, 1) := by decide +kernel
theorem dX6_takesOver_38 : decode cX6_takesOver 38 = .ok (.iload_n 1, 1) := by decide +kernel
theorem dX6_takesOver_39 : decode cX6_takesOver 39 = .ok (.imul, 1) := by decide +kernel
theorem dX6_takesOver_40 : decode cX6_takesOver 40 = .ok (.iload_n 3, 1) := by decide +kernel
theorem dX6_takesOver_41 : decode cX6_takesOver 41 = .ok (.iadd, 1) := by decide +kernel
theorem dX6_takesOver_42 : decode cX6_takesOver 42 = .ok (.aload_n 0, 1) := by decide +kernel
theorem dX6_takesOver_43 : decode cX6_takesOver 43 = .ok (.iload_n 1, 1) := by decide +kernel
theorem dX6_takesOver_44 : decode cX6_takesOver 44 = .ok (.iload_n 3, 1) := by decide +kernel
theorem dX6_takesOver_45 : decode cX6_takesOver 45 = .ok (.aload_n 0, 1) := by decide +kernel
theorem dX6_takesOver_46 : decode cX6_takesOver 46 = .ok (.getfield 13, 3) := by decide +kernel
theorem dX6_takesOver_49 : decode cX6_takesOver 49 = .ok (.iload_n 1, 1) := by decide +kernel
theorem dX6_takesOver_50 : decode cX6_takesOver 50 = .ok (.iaload, 1) := by decide +kernel
theorem dX6_takesOver_51 : decode cX6_takesOver 51 = .ok (.invokevirtual 129, 3) := by decide +kernel
theorem dX6_takesOver_54 : decode cX6_takesOver 54 = .ok (.iastore, 1) := by decide +kernel
theorem dX6_takesOver_55 : decode cX6_takesOver 55 = .ok (.iload_n 2, 1) := by decide +kernel
theorem dX6_takesOver_56 : decode cX6_takesOver 56 = .ok (.aload_n 0, 1) := by decide +kernel
theorem dX6_takesOver_57 : decode cX6_takesOver 57 = .ok (.getfield 48, 3) := by decide +kernel
theorem dX6_takesOver_60 : decode cX6_takesOver 60 = .ok (.iconst 3, 1) := by decide +kernel
theorem dX6_takesOver_61 : decode cX6_takesOver 61 = .ok (.iload_n 1, 1) := by decide +kernel
theorem dX6_takesOver_62 : decode cX6_takesOver 62 = .ok (.imul, 1) := by decide +kernel
theorem dX6_takesOver_63 : decode cX6_takesOver 63 = .ok (.iload_n 3, 1) := by decide +kernel
theorem dX6_takesOver_64 : decode cX6_takesOver 64 = .ok (.iadd, 1) := by decide +kernel
theorem dX6_takesOver_65 : decode cX6_takesOver 65 = .ok (.iaload, 1) := by decide +kernel
theorem dX6_takesOver_66 : decode cX6_takesOver 66 = .ok (.iadd, 1) := by decide +kernel
theorem dX6_takesOver_67 : decode cX6_takesOver 67 = .ok (.istore_n 2, 1) := by decide +kernel
theorem dX6_takesOver_68 : decode cX6_takesOver 68 = .ok (.iinc 3 1, 3) := by decide +kernel
theorem dX6_takesOver_71 : decode cX6_takesOver 71 = .ok (.goto (-57), 3) := by decide +kernel
theorem dX6_takesOver_74 : decode cX6_takesOver 74 = .ok (.iconst 0, 1) := by decide +kernel
theorem dX6_takesOver_75 : decode cX6_takesOver 75 = .ok (.istore_n 3, 1) := by decide +kernel
theorem dX6_takesOver_76 : decode cX6_takesOver 76 = .ok (.iload_n 3, 1) := by decide +kernel
theorem dX6_takesOver_77 : decode cX6_takesOver 77 = .ok (.iconst 3, 1) := by decide +kernel
theorem dX6_takesOver_78 : decode cX6_takesOver 78 = .ok (.if_icmp .ge 38, 3) := by decide +kernel
theorem dX6_takesOver_81 : decode cX6_takesOver 81 = .ok (.aload_n 0, 1) := by decide +kernel
theorem dX6_takesOver_82 : decode cX6_takesOver 82 = .ok (.getfield 26, 3) := by decide +kernel
theorem dX6_takesOver_85 : decode cX6_takesOver 85 = .ok (.iload_n 1, 1) := by decide +kernel
theorem dX6_takesOver_86 : decode cX6_takesOver 86 = .ok (.baload, 1) := by decide +kernel
theorem dX6_takesOver_87 : decode cX6_takesOver 87 = .ok (.ifCond .eq 29, 3) := by decide +kernel
theorem dX6_takesOver_90 : decode cX6_takesOver 90 = .ok (.aload_n 0, 1) := by decide +kernel
theorem dX6_takesOver_91 : decode cX6_takesOver 91 = .ok (.getfield 48, 3) := by decide +kernel
theorem dX6_takesOver_94 : decode cX6_takesOver 94 = .ok (.iconst 3, 1) := by decide +kernel
theorem dX6_takesOver_95 : decode cX6_takesOver 95 = .ok (.iload_n 1, 1) := by decide +kernel
theorem dX6_takesOver_96 : decode cX6_takesOver 96 = .ok (.imul, 1) := by decide +kernel
theorem dX6_takesOver_97 : decode cX6_takesOver 97 = .ok (.iload_n 3, 1) := by decide +kernel
theorem dX6_takesOver_98 : decode cX6_takesOver 98 = .ok (.iadd, 1) := by decide +kernel
theorem dX6_takesOver_99 : decode cX6_takesOver 99 = .ok (.iload_n 2, 1) := by decide +kernel
theorem dX6_takesOver_100 : decode cX6_takesOver 100 = .ok (.iconst 1, 1) := by decide +kernel
theorem dX6_takesOver_101 : decode cX6_takesOver 101 = .ok (.if_icmp .le 7, 3) := by decide +kernel
theorem dX6_takesOver_104 : decode cX6_takesOver 104 = .ok (.iconst 1, 1) := by decide +kernel
theorem dX6_takesOver_105 : decode cX6_takesOver 105 = .ok (.goto 4, 3) := by decide +kernel
theorem dX6_takesOver_108 : decode cX6_takesOver 108 = .ok (.iconst 0, 1) := by decide +kernel
theorem dX6_takesOver_109 : decode cX6_takesOver 109 = .ok (.iastore, 1) := by decide +kernel
theorem dX6_takesOver_110 : decode cX6_takesOver 110 = .ok (.iinc 3 1, 3) := by decide +kernel
theorem dX6_takesOver_113 : decode cX6_takesOver 113 = .ok (.goto (-37), 3) := by decide +kernel
theorem dX6_takesOver_116 : decode cX6_takesOver 116 = .ok (.iinc 1 1, 3) := by decide +kernel
theorem dX6_takesOver_119 : decode cX6_takesOver 119 = .ok (.goto (-117), 3) := by decide +kernel
theorem dX6_takesOver_122 : decode cX6_takesOver 122 = .ok (.iconst 0, 1) := by decide +kernel
theorem dX6_takesOver_123 : decode cX6_takesOver 123 = .ok (.istore_n 1, 1) := by decide +kernel
theorem dX6_takesOver_124 : decode cX6_takesOver 124 = .ok (.iload_n 1, 1) := by decide +kernel
theorem dX6_takesOver_125 : decode cX6_takesOver 125 = .ok (.aload_n 0, 1) := by decide +kernel
theorem dX6_takesOver_126 : decode cX6_takesOver 126 = .ok (.getfield 78, 3) := by decide +kernel
theorem dX6_takesOver_129 : decode cX6_takesOver 129 = .ok (.if_icmp .ge 56, 3) := by decide +kernel
theorem dX6_takesOver_132 : decode cX6_takesOver 132 = .ok (.iconst 0, 1) := by decide +kernel
theorem dX6_takesOver_133 : decode cX6_takesOver 133 = .ok (.istore_n 2, 1) := by decide +kernel
theorem dX6_takesOver_134 : decode cX6_takesOver 134 = .ok (.iload_n 2, 1) := by decide +kernel
theorem dX6_takesOver_135 : decode cX6_takesOver 135 = .ok (.aload_n 0, 1) := by decide +kernel
theorem dX6_takesOver_136 : decode cX6_takesOver 136 = .ok (.iload_n 1, 1) := by decide +kernel
theorem dX6_takesOver_137 : decode cX6_takesOver 137 = .ok (.invokevirtual 114, 3) := by decide +kernel
theorem dX6_takesOver_140 : decode cX6_takesOver 140 = .ok (.if_icmp .ge 39, 3) := by decide +kernel
theorem dX6_takesOver_143 : decode cX6_takesOver 143 = .ok (.aload_n 0, 1) := by decide +kernel
theorem dX6_takesOver_144 : decode cX6_takesOver 144 = .ok (.getfield 7, 3) := by decide +kernel
theorem dX6_takesOver_147 : decode cX6_takesOver 147 = .ok (.iload_n 1, 1) := by decide +kernel
theorem dX6_takesOver_148 : decode cX6_takesOver 148 = .ok (.iaload, 1) := by decide +kernel
theorem dX6_takesOver_149 : decode cX6_takesOver 149 = .ok (.iconst 5, 1) := by decide +kernel
theorem dX6_takesOver_150 : decode cX6_takesOver 150 = .ok (.if_icmp .ne 29, 3) := by decide +kernel
theorem dX6_takesOver_153 : decode cX6_takesOver 153 = .ok (.aload_n 0, 1) := by decide +kernel
theorem dX6_takesOver_154 : decode cX6_takesOver 154 = .ok (.getfield 45, 3) := by decide +kernel
theorem dX6_takesOver_157 : decode cX6_takesOver 157 = .ok (.iconst 3, 1) := by decide +kernel
theorem dX6_takesOver_158 : decode cX6_takesOver 158 = .ok (.iload_n 1, 1) := by decide +kernel
theorem dX6_takesOver_159 : decode cX6_takesOver 159 = .ok (.imul, 1) := by decide +kernel
theorem dX6_takesOver_160 : decode cX6_takesOver 160 = .ok (.iload_n 2, 1) := by decide +kernel
theorem dX6_takesOver_161 : decode cX6_takesOver 161 = .ok (.iadd, 1) := by decide +kernel
theorem dX6_takesOver_162 : decode cX6_takesOver 162 = .ok (.aload_n 0, 1) := by decide +kernel
theorem dX6_takesOver_163 : decode cX6_takesOver 163 = .ok (.getfield 48, 3) := by decide +kernel
theorem dX6_takesOver_166 : decode cX6_takesOver 166 = .ok (.iconst 3, 1) := by decide +kernel
theorem dX6_takesOver_167 : decode cX6_takesOver 167 = .ok (.iload_n 1, 1) := by decide +kernel
theorem dX6_takesOver_168 : decode cX6_takesOver 168 = .ok (.imul, 1) := by decide +kernel
theorem dX6_takesOver_169 : decode cX6_takesOver 169 = .ok (.iload_n 2, 1) := by decide +kernel
theorem dX6_takesOver_170 : decode cX6_takesOver 170 = .ok (.iadd, 1) := by decide +kernel
theorem dX6_takesOver_171 : decode cX6_takesOver 171 = .ok (.iaload, 1) := by decide +kernel
theorem dX6_takesOver_172 : decode cX6_takesOver 172 = .ok (.iastore, 1) := by decide +kernel
theorem dX6_takesOver_173 : decode cX6_takesOver 173 = .ok (.iinc 2 1, 3) := by decide +kernel
theorem dX6_takesOver_176 : decode cX6_takesOver 176 = .ok (.goto (-42), 3) := by decide +kernel
theorem dX6_takesOver_179 : decode cX6_takesOver 179 = .ok (.iinc 1 1, 3) := by decide +kernel
theorem dX6_takesOver_182 : decode cX6_takesOver 182 = .ok (.goto (-58), 3) := by decide +kernel
theorem dX6_takesOver_185 : decode cX6_takesOver 185 = .ok (.return_, 1) := by decide +kernel
set_option maxRecDepth 20000 in
theorem ggX6_copy_X6_isCopy : GoodIn wsX6_copy wsX6_isCopy := goodIn_r _ [7, 8, 9, 10, 6, 11, 12, 13, 14, 15, 16, 17, 18, 19, 20, 57, 58, 59, 60, 61, 62, 63, 64, 65, 66, 67, 68, 69, 70, 71, 72, 73, 74, 75, 76, 77, 78, 79, 80, 81, 82] (by decide +kernel) (by decide +kernel)
set_option maxRecDepth 20000 in
theorem gX6_copy_X6_isCopy : GoodIn wsX6_copy (wsV RX6 132 RX6 yX6_isCopy wsX6_isCopy) := goodIn_app (goodIn_of _ (by decide +kernel)) ggX6_copy_X6_isCopy
set_option maxRecDepth 20000 in
theorem ggX6_copy_X6_in : GoodIn wsX6_copy wsX6_in := goodIn_r _ [15] (by decide +kernel) (by decide +kernel)
set_option maxRecDepth 20000 in
theorem gX6_copy_X6_in : GoodIn wsX6_copy (va_wsS RX6 81 yX6_in wsX6_in) := goodIn_app (goodIn_of _ (by decide +kernel)) ggX6_copy_X6_in
set_option maxRecDepth 20000 in
theorem ggX6_copy_X6_passes : GoodIn wsX6_copy wsX6_passes := goodIn_r _ [24, 12, 25, 1, 26, 27, 16, 17, 18, 6, 19, 20, 28, 29, 30, 31, 2, 32, 33, 34, 35, 36, 37, 38, 39, 40, 41, 42, 43, 44, 45, 46, 47, 48, 49, 50, 57, 58, 59, 60, 61, 62, 63, 64, 65, 66, 67, 68, 69, 70, 71, 72, 73, 74, 75, 76, 77, 78, 79, 80, 81, 82] (by decide +kernel) (by decide +kernel)
set_option maxRecDepth 20000 in
theorem gX6_copy_X6_passes : GoodIn wsX6_copy (wsV RX6 117 RX6 yX6_passes wsX6_passes) := goodIn_app (goodIn_of _ (by decide +kernel)) ggX6_copy_X6_passes
set_option maxRecDepth 20000 in
theorem ggX6_copy_X6_takesOver : GoodIn wsX6_copy wsX6_takesOver := goodIn_r _ [54, 12, 25, 55, 26, 56, 1, 16, 17, 18, 6, 19, 20, 40, 41, 42, 43, 44, 45, 46, 47, 57, 58, 59, 60, 61, 62, 63, 64, 65, 66, 67, 68, 69, 70, 71, 72, 73, 74, 75, 76, 77, 78, 79, 80, 81, 82] (by decide +kernel) (by decide +kernel)
set_option maxRecDepth 20000 in
theorem gX6_copy_X6_takesOver : GoodIn wsX6_copy (wsV RX6 123 RX6 yX6_takesOver wsX6_takesOver) := goodIn_app (goodIn_of _ (by decide +kernel)) ggX6_copy_X6_takesOver
theorem dX6_copy_0 : decode cX6_copy 0 = .ok (.aload_n 0, 1) := by decide +kernel
theorem dX6_copy_1 : decode cX6_copy 1 = .ok (.iload_n 1, 1) := by decide +kernel
theorem dX6_copy_2 : decode cX6_copy 2 = .ok (.iload_n 2, 1) := by decide +kernel
theorem dX6_copy_3 : decode cX6_copy 3 = .ok (.invokevirtual 132, 3) := by decide +kernel
theorem dX6_copy_6 : decode cX6_copy 6 = .ok (.ifCond .eq 13, 3) := by decide +kernel
theorem dX6_copy_9 : decode cX6_copy 9 = .ok (.iload_n 3, 1) := by decide +kernel
theorem dX6_copy_10 : decode cX6_copy 10 = .ok (.iconst 0, 1) := by decide +kernel
theorem dX6_copy_11 : decode cX6_copy 11 = .ok (.bipush 15, 2) := by decide +kernel
theorem dX6_copy_13 : decode cX6_copy 13 = .ok (.invokestatic 81, 3) := by decide +kernel
theorem dX6_copy_16 : decode cX6_copy 16 = .ok (.ifCond .ne 6, 3) := by decide +kernel
theorem dX6_copy_19 : decode cX6_copy 19 = .ok (.bipush (-2), 2) := by decide +kernel
theorem dX6_copy_21 : decode cX6_copy 21 = .ok (.ireturn, 1) := by decide +kernel
theorem dX6_copy_22 : decode cX6_copy 22 = .ok (.iconst 0, 1) := by decide +kernel
theorem dX6_copy_23 : decode cX6_copy 23 = .ok (.istore 4, 2) := by decide +kernel
theorem dX6_copy_25 : decode cX6_copy 25 = .ok (.iload 4, 2) := by decide +kernel
theorem dX6_copy_27 : decode cX6_copy 27 = .ok (.bipush 72, 2) := by decide +kernel
theorem dX6_copy_29 : decode cX6_copy 29 = .ok (.if_icmp .ge 17, 3) := by decide +kernel
theorem dX6_copy_32 : decode cX6_copy 32 = .ok (.aload_n 0, 1) := by decide +kernel
theorem dX6_copy_33 : decode cX6_copy 33 = .ok (.getfield 45, 3) := by decide +kernel
theorem dX6_copy_36 : decode cX6_copy 36 = .ok (.iload 4, 2) := by decide +kernel
theorem dX6_copy_38 : decode cX6_copy 38 = .ok (.iconst 0, 1) := by decide +kernel
theorem dX6_copy_39 : decode cX6_copy 39 = .ok (.iastore, 1) := by decide +kernel
theorem dX6_copy_40 : decode cX6_copy 40 = .ok (.iinc 4 1, 3) := by decide +kernel
theorem dX6_copy_43 : decode cX6_copy 43 = .ok (.goto (-18), 3) := by decide +kernel
theorem dX6_copy_46 : decode cX6_copy 46 = .ok (.aload_n 0, 1) := by decide +kernel
theorem dX6_copy_47 : decode cX6_copy 47 = .ok (.getfield 51, 3) := by decide +kernel
theorem dX6_copy_50 : decode cX6_copy 50 = .ok (.iconst 0, 1) := by decide +kernel
theorem dX6_copy_51 : decode cX6_copy 51 = .ok (.iconst (-1), 1) := by decide +kernel
theorem dX6_copy_52 : decode cX6_copy 52 = .ok (.iastore, 1) := by decide +kernel
theorem dX6_copy_53 : decode cX6_copy 53 = .ok (.aload_n 0, 1) := by decide +kernel
theorem dX6_copy_54 : decode cX6_copy 54 = .ok (.getfield 51, 3) := by decide +kernel
theorem dX6_copy_57 : decode cX6_copy 57 = .ok (.iconst 3, 1) := by decide +kernel
theorem dX6_copy_58 : decode cX6_copy 58 = .ok (.iconst (-1), 1) := by decide +kernel
theorem dX6_copy_59 : decode cX6_copy 59 = .ok (.iastore, 1) := by decide +kernel
theorem dX6_copy_60 : decode cX6_copy 60 = .ok (.iconst 0, 1) := by decide +kernel
theorem dX6_copy_61 : decode cX6_copy 61 = .ok (.istore 4, 2) := by decide +kernel
theorem dX6_copy_63 : decode cX6_copy 63 = .ok (.iload 4, 2) := by decide +kernel
theorem dX6_copy_65 : decode cX6_copy 65 = .ok (.iload_n 3, 1) := by decide +kernel
theorem dX6_copy_66 : decode cX6_copy 66 = .ok (.if_icmp .ge 19, 3) := by decide +kernel
theorem dX6_copy_69 : decode cX6_copy 69 = .ok (.aload_n 0, 1) := by decide +kernel
theorem dX6_copy_70 : decode cX6_copy 70 = .ok (.iload 4, 2) := by decide +kernel
theorem dX6_copy_72 : decode cX6_copy 72 = .ok (.invokevirtual 117, 3) := by decide +kernel
theorem dX6_copy_75 : decode cX6_copy 75 = .ok (.aload_n 0, 1) := by decide +kernel
theorem dX6_copy_76 : decode cX6_copy 76 = .ok (.invokevirtual 123, 3) := by decide +kernel
theorem dX6_copy_79 : decode cX6_copy 79 = .ok (.iinc 4 1, 3) := by decide +kernel
theorem dX6_copy_82 : decode cX6_copy 82 = .ok (.goto (-19), 3) := by decide +kernel
theorem dX6_copy_85 : decode cX6_copy 85 = .ok (.aload_n 0, 1) := by decide +kernel
theorem dX6_copy_86 : decode cX6_copy 86 = .ok (.iload_n 3, 1) := by decide +kernel
theorem dX6_copy_87 : decode cX6_copy 87 = .ok (.invokevirtual 117, 3) := by decide +kernel
theorem dX6_copy_90 : decode cX6_copy 90 = .ok (.aload_n 0, 1) := by decide +kernel
theorem dX6_copy_91 : decode cX6_copy 91 = .ok (.getfield 45, 3) := by decide +kernel
theorem dX6_copy_94 : decode cX6_copy 94 = .ok (.iconst 3, 1) := by decide +kernel
theorem dX6_copy_95 : decode cX6_copy 95 = .ok (.iload_n 1, 1) := by decide +kernel
theorem dX6_copy_96 : decode cX6_copy 96 = .ok (.imul, 1) := by decide +kernel
theorem dX6_copy_97 : decode cX6_copy 97 = .ok (.iload_n 2, 1) := by decide +kernel
theorem dX6_copy_98 : decode cX6_copy 98 = .ok (.iadd, 1) := by decide +kernel
theorem dX6_copy_99 : decode cX6_copy 99 = .ok (.iaload, 1) := by decide +kernel
theorem dX6_copy_100 : decode cX6_copy 100 = .ok (.ireturn, 1) := by decide +kernel
set_option maxRecDepth 20000 in
theorem ggX6_runsOne_X6_runs : GoodIn wsX6_runsOne wsX6_runs := goodIn_r _ [6, 1, 7, 8, 9, 10, 11, 12, 13, 14, 15, 5, 16, 17, 18, 19, 20, 21, 22, 23, 24, 25, 26, 27, 28, 29, 30, 31, 32, 33, 34, 35, 36, 37, 38, 39, 40, 41, 42, 43, 44, 45, 46, 47, 48, 49, 50, 51, 52, 53, 54, 55, 56, 57, 58, 59, 60, 61, 62, 63, 64, 65, 66, 67, 68, 69, 70, 71, 72, 73, 74, 75, 76, 77, 78, 79, 80, 81, 82] (by decide +kernel) (by decide +kernel)
set_option maxRecDepth 20000 in
theorem gX6_runsOne_X6_runs : GoodIn wsX6_runsOne (wsV RX6 136 RX6 yX6_runs wsX6_runs) := goodIn_app (goodIn_of _ (by decide +kernel)) ggX6_runsOne_X6_runs
theorem dX6_runsOne_0 : decode cX6_runsOne 0 = .ok (.aload_n 0, 1) := by decide +kernel
theorem dX6_runsOne_1 : decode cX6_runsOne 1 = .ok (.getfield 51, 3) := by decide +kernel
theorem dX6_runsOne_4 : decode cX6_runsOne 4 = .ok (.iconst 0, 1) := by decide +kernel
theorem dX6_runsOne_5 : decode cX6_runsOne 5 = .ok (.iload_n 1, 1) := by decide +kernel
theorem dX6_runsOne_6 : decode cX6_runsOne 6 = .ok (.iastore, 1) := by decide +kernel
theorem dX6_runsOne_7 : decode cX6_runsOne 7 = .ok (.aload_n 0, 1) := by decide +kernel
theorem dX6_runsOne_8 : decode cX6_runsOne 8 = .ok (.getfield 51, 3) := by decide +kernel
theorem dX6_runsOne_11 : decode cX6_runsOne 11 = .ok (.iconst 1, 1) := by decide +kernel
theorem dX6_runsOne_12 : decode cX6_runsOne 12 = .ok (.iload_n 2, 1) := by decide +kernel
theorem dX6_runsOne_13 : decode cX6_runsOne 13 = .ok (.iastore, 1) := by decide +kernel
theorem dX6_runsOne_14 : decode cX6_runsOne 14 = .ok (.aload_n 0, 1) := by decide +kernel
theorem dX6_runsOne_15 : decode cX6_runsOne 15 = .ok (.getfield 51, 3) := by decide +kernel
theorem dX6_runsOne_18 : decode cX6_runsOne 18 = .ok (.iconst 2, 1) := by decide +kernel
theorem dX6_runsOne_19 : decode cX6_runsOne 19 = .ok (.iload_n 3, 1) := by decide +kernel
theorem dX6_runsOne_20 : decode cX6_runsOne 20 = .ok (.iastore, 1) := by decide +kernel
theorem dX6_runsOne_21 : decode cX6_runsOne 21 = .ok (.aload_n 0, 1) := by decide +kernel
theorem dX6_runsOne_22 : decode cX6_runsOne 22 = .ok (.getfield 51, 3) := by decide +kernel
theorem dX6_runsOne_25 : decode cX6_runsOne 25 = .ok (.iconst 3, 1) := by decide +kernel
theorem dX6_runsOne_26 : decode cX6_runsOne 26 = .ok (.iconst (-1), 1) := by decide +kernel
theorem dX6_runsOne_27 : decode cX6_runsOne 27 = .ok (.iastore, 1) := by decide +kernel
theorem dX6_runsOne_28 : decode cX6_runsOne 28 = .ok (.aload_n 0, 1) := by decide +kernel
theorem dX6_runsOne_29 : decode cX6_runsOne 29 = .ok (.invokevirtual 136, 3) := by decide +kernel
theorem dX6_runsOne_32 : decode cX6_runsOne 32 = .ok (.ireturn, 1) := by decide +kernel
set_option maxRecDepth 20000 in
theorem ggX6_runsTwo_X6_runs : GoodIn wsX6_runsTwo wsX6_runs := goodIn_r _ [6, 1, 7, 8, 9, 10, 11, 12, 13, 14, 15, 5, 16, 17, 18, 19, 20, 21, 22, 23, 24, 25, 26, 27, 28, 29, 30, 31, 32, 33, 34, 35, 36, 37, 38, 39, 40, 41, 42, 43, 44, 45, 46, 47, 48, 49, 50, 51, 52, 53, 54, 55, 56, 57, 58, 59, 60, 61, 62, 63, 64, 65, 66, 67, 68, 69, 70, 71, 72, 73, 74, 75, 76, 77, 78, 79, 80, 81, 82] (by decide +kernel) (by decide +kernel)
set_option maxRecDepth 20000 in
theorem gX6_runsTwo_X6_runs : GoodIn wsX6_runsTwo (wsV RX6 136 RX6 yX6_runs wsX6_runs) := goodIn_app (goodIn_of _ (by decide +kernel)) ggX6_runsTwo_X6_runs
theorem dX6_runsTwo_0 : decode cX6_runsTwo 0 = .ok (.aload_n 0, 1) := by decide +kernel
theorem dX6_runsTwo_1 : decode cX6_runsTwo 1 = .ok (.getfield 51, 3) := by decide +kernel
theorem dX6_runsTwo_4 : decode cX6_runsTwo 4 = .ok (.iconst 0, 1) := by decide +kernel
theorem dX6_runsTwo_5 : decode cX6_runsTwo 5 = .ok (.iload_n 3, 1) := by decide +kernel
theorem dX6_runsTwo_6 : decode cX6_runsTwo 6 = .ok (.iastore, 1) := by decide +kernel
theorem dX6_runsTwo_7 : decode cX6_runsTwo 7 = .ok (.aload_n 0, 1) := by decide +kernel
theorem dX6_runsTwo_8 : decode cX6_runsTwo 8 = .ok (.getfield 51, 3) := by decide +kernel
theorem dX6_runsTwo_11 : decode cX6_runsTwo 11 = .ok (.iconst 1, 1) := by decide +kernel
theorem dX6_runsTwo_12 : decode cX6_runsTwo 12 = .ok (.iload_n 1, 1) := by decide +kernel
theorem dX6_runsTwo_13 : decode cX6_runsTwo 13 = .ok (.iastore, 1) := by decide +kernel
theorem dX6_runsTwo_14 : decode cX6_runsTwo 14 = .ok (.aload_n 0, 1) := by decide +kernel
theorem dX6_runsTwo_15 : decode cX6_runsTwo 15 = .ok (.getfield 51, 3) := by decide +kernel
theorem dX6_runsTwo_18 : decode cX6_runsTwo 18 = .ok (.iconst 2, 1) := by decide +kernel
theorem dX6_runsTwo_19 : decode cX6_runsTwo 19 = .ok (.iload_n 2, 1) := by decide +kernel
theorem dX6_runsTwo_20 : decode cX6_runsTwo 20 = .ok (.iastore, 1) := by decide +kernel
theorem dX6_runsTwo_21 : decode cX6_runsTwo 21 = .ok (.aload_n 0, 1) := by decide +kernel
theorem dX6_runsTwo_22 : decode cX6_runsTwo 22 = .ok (.getfield 51, 3) := by decide +kernel
theorem dX6_runsTwo_25 : decode cX6_runsTwo 25 = .ok (.iconst 3, 1) := by decide +kernel
theorem dX6_runsTwo_26 : decode cX6_runsTwo 26 = .ok (.iload 6, 2) := by decide +kernel
theorem dX6_runsTwo_28 : decode cX6_runsTwo 28 = .ok (.iastore, 1) := by decide +kernel
theorem dX6_runsTwo_29 : decode cX6_runsTwo 29 = .ok (.aload_n 0, 1) := by decide +kernel
theorem dX6_runsTwo_30 : decode cX6_runsTwo 30 = .ok (.getfield 51, 3) := by decide +kernel
theorem dX6_runsTwo_33 : decode cX6_runsTwo 33 = .ok (.iconst 4, 1) := by decide +kernel
theorem dX6_runsTwo_34 : decode cX6_runsTwo 34 = .ok (.iload 4, 2) := by decide +kernel
theorem dX6_runsTwo_36 : decode cX6_runsTwo 36 = .ok (.iastore, 1) := by decide +kernel
theorem dX6_runsTwo_37 : decode cX6_runsTwo 37 = .ok (.aload_n 0, 1) := by decide +kernel
theorem dX6_runsTwo_38 : decode cX6_runsTwo 38 = .ok (.getfield 51, 3) := by decide +kernel
theorem dX6_runsTwo_41 : decode cX6_runsTwo 41 = .ok (.iconst 5, 1) := by decide +kernel
theorem dX6_runsTwo_42 : decode cX6_runsTwo 42 = .ok (.iload 5, 2) := by decide +kernel
theorem dX6_runsTwo_44 : decode cX6_runsTwo 44 = .ok (.iastore, 1) := by decide +kernel
theorem dX6_runsTwo_45 : decode cX6_runsTwo 45 = .ok (.aload_n 0, 1) := by decide +kernel
theorem dX6_runsTwo_46 : decode cX6_runsTwo 46 = .ok (.invokevirtual 136, 3) := by decide +kernel
theorem dX6_runsTwo_49 : decode cX6_runsTwo 49 = .ok (.ireturn, 1) := by decide +kernel
set_option maxRecDepth 20000 in
theorem ggX6_flip_X6_in : GoodIn wsX6_flip wsX6_in := goodIn_r _ [5] (by decide +kernel) (by decide +kernel)
set_option maxRecDepth 20000 in
theorem gX6_flip_X6_in : GoodIn wsX6_flip (va_wsS RX6 81 yX6_in wsX6_in) := goodIn_app (goodIn_of _ (by decide +kernel)) ggX6_flip_X6_in
set_option maxRecDepth 20000 in
theorem ggX6_flip_X6_isCopy : GoodIn wsX6_flip wsX6_isCopy := goodIn_r _ [9, 10, 11, 12, 4, 13, 14, 2, 3, 5, 15, 16, 17, 18, 19, 76, 77, 78, 79, 80, 81, 82, 83, 84, 85, 86, 87, 88, 89, 90, 91, 92, 93, 94, 95, 96, 97, 98, 99, 100, 101] (by decide +kernel) (by decide +kernel)
set_option maxRecDepth 20000 in
theorem gX6_flip_X6_isCopy : GoodIn wsX6_flip (wsV RX6 132 RX6 yX6_isCopy wsX6_isCopy) := goodIn_app (goodIn_of _ (by decide +kernel)) ggX6_flip_X6_isCopy
set_option maxRecDepth 20000 in
theorem ggX6_flip_X6_runsBare : GoodIn wsX6_flip wsX6_runsBare := goodIn_r _ [23, 14, 24, 25, 26, 27, 28, 29, 30, 4, 31, 32, 33, 34, 35, 36, 37, 38, 76, 77, 78, 79, 80, 81, 82, 83, 84, 85, 86, 87, 88, 89, 90, 91, 92, 93, 94, 95, 96, 97, 98, 99, 100, 101] (by decide +kernel) (by decide +kernel)
set_option maxRecDepth 20000 in
theorem gX6_flip_X6_runsBare : GoodIn wsX6_flip (wsV RX6 106 RX6 yX6_runsBare wsX6_runsBare) := goodIn_app (goodIn_of _ (by decide +kernel)) ggX6_flip_X6_runsBare
set_option maxRecDepth 20000 in
theorem ggX6_flip_X6_runsOne : GoodIn wsX6_flip wsX6_runsOne := goodIn_r _ [42, 43, 44, 45, 46, 4, 47, 14, 48, 24, 1, 49, 25, 50, 51, 52, 53, 26, 27, 15, 16, 17, 18, 19, 54, 55, 56, 57, 28, 29, 30, 31, 32, 33, 34, 35, 58, 59, 60, 61, 62, 63, 64, 65, 36, 37, 38, 66, 67, 68, 69, 70, 71, 72, 73, 74, 75, 76, 77, 78, 79, 80, 81, 82, 83, 84, 85, 86, 87, 88, 89, 90, 91, 92, 93, 94, 95, 96, 97, 98, 99, 100, 101] (by decide +kernel) (by decide +kernel)
set_option maxRecDepth 20000 in
theorem gX6_flip_X6_runsOne : GoodIn wsX6_flip (wsV RX6 140 RX6 yX6_runsOne wsX6_runsOne) := goodIn_app (goodIn_of _ (by decide +kernel)) ggX6_flip_X6_runsOne
theorem dX6_flip_0 : decode cX6_flip 0 = .ok (.iload_n 1, 1) := by decide +kernel
theorem dX6_flip_1 : decode cX6_flip 1 = .ok (.iconst 0, 1) := by decide +kernel
theorem dX6_flip_2 : decode cX6_flip 2 = .ok (.aload_n 0, 1) := by decide +kernel
theorem dX6_flip_3 : decode cX6_flip 3 = .ok (.getfield 35, 3) := by decide +kernel
theorem dX6_flip_6 : decode cX6_flip 6 = .ok (.iconst 1, 1) := by decide +kernel
theorem dX6_flip_7 : decode cX6_flip 7 = .ok (.isub, 1) := by decide +kernel
theorem dX6_flip_8 : decode cX6_flip 8 = .ok (.invokestatic 81, 3) := by decide +kernel
theorem dX6_flip_11 : decode cX6_flip 11 = .ok (.ifCond .eq 12, 3) := by decide +kernel
theorem dX6_flip_14 : decode cX6_flip 14 = .ok (.aload_n 0, 1) := by decide +kernel
theorem dX6_flip_15 : decode cX6_flip 15 = .ok (.iload_n 2, 1) := by decide +kernel
theorem dX6_flip_16 : decode cX6_flip 16 = .ok (.iload_n 3, 1) := by decide +kernel
theorem dX6_flip_17 : decode cX6_flip 17 = .ok (.invokevirtual 132, 3) := by decide +kernel
theorem dX6_flip_20 : decode cX6_flip 20 = .ok (.ifCond .ne 6, 3) := by decide +kernel
theorem dX6_flip_23 : decode cX6_flip 23 = .ok (.bipush (-2), 2) := by decide +kernel
theorem dX6_flip_25 : decode cX6_flip 25 = .ok (.ireturn, 1) := by decide +kernel
theorem dX6_flip_26 : decode cX6_flip 26 = .ok (.aload_n 0, 1) := by decide +kernel
theorem dX6_flip_27 : decode cX6_flip 27 = .ok (.aload_n 0, 1) := by decide +kernel
theorem dX6_flip_28 : decode cX6_flip 28 = .ok (.getfield 35, 3) := by decide +kernel
theorem dX6_flip_31 : decode cX6_flip 31 = .ok (.invokevirtual 106, 3) := by decide +kernel
theorem dX6_flip_34 : decode cX6_flip 34 = .ok (.aload_n 0, 1) := by decide +kernel
theorem dX6_flip_35 : decode cX6_flip 35 = .ok (.iload_n 1, 1) := by decide +kernel
theorem dX6_flip_36 : decode cX6_flip 36 = .ok (.iload_n 2, 1) := by decide +kernel
theorem dX6_flip_37 : decode cX6_flip 37 = .ok (.iload_n 3, 1) := by decide +kernel
theorem dX6_flip_38 : decode cX6_flip 38 = .ok (.invokevirtual 140, 3) := by decide +kernel
theorem dX6_flip_41 : decode cX6_flip 41 = .ok (.ireturn, 1) := by decide +kernel
set_option maxRecDepth 20000 in
theorem ggX6_flips_X6_in : GoodIn wsX6_flips wsX6_in := goodIn_r _ [5] (by decide +kernel) (by decide +kernel)
set_option maxRecDepth 20000 in
theorem gX6_flips_X6_in : GoodIn wsX6_flips (va_wsS RX6 81 yX6_in wsX6_in) := goodIn_app (goodIn_of _ (by decide +kernel)) ggX6_flips_X6_in
set_option maxRecDepth 20000 in
theorem ggX6_flips_X6_isCopy : GoodIn wsX6_flips wsX6_isCopy := goodIn_r _ [9, 10, 11, 12, 4, 13, 14, 2, 3, 5, 15, 16, 17, 18, 19, 76, 77, 78, 79, 80, 81, 82, 83, 84, 85, 86, 87, 88, 89, 90, 91, 92, 93, 94, 95, 96, 97, 98, 99, 100, 101] (by decide +kernel) (by decide +kernel)
set_option maxRecDepth 20000 in
theorem gX6_flips_X6_isCopy : GoodIn wsX6_flips (wsV RX6 132 RX6 yX6_isCopy wsX6_isCopy) := goodIn_app (goodIn_of _ (by decide +kernel)) ggX6_flips_X6_isCopy
set_option maxRecDepth 20000 in
theorem ggX6_flips_X6_runsBare : GoodIn wsX6_flips wsX6_runsBare := goodIn_r _ [23, 14, 24, 25, 26, 27, 28, 29, 30, 4, 31, 32, 33, 34, 35, 36, 37, 38, 76, 77, 78, 79, 80, 81, 82, 83, 84, 85, 86, 87, 88, 89, 90, 91, 92, 93, 94, 95, 96, 97, 98, 99, 100, 101] (by decide +kernel) (by decide +kernel)
set_option maxRecDepth 20000 in
theorem gX6_flips_X6_runsBare : GoodIn wsX6_flips (wsV RX6 106 RX6 yX6_runsBare wsX6_runsBare) := goodIn_app (goodIn_of _ (by decide +kernel)) ggX6_flips_X6_runsBare
set_option maxRecDepth 20000 in
theorem ggX6_flips_X6_runsTwo : GoodIn wsX6_flips wsX6_runsTwo := goodIn_r _ [42, 43, 44, 45, 46, 4, 47, 14, 48, 24, 1, 49, 25, 50, 51, 52, 53, 26, 27, 15, 16, 17, 18, 19, 54, 55, 56, 57, 28, 29, 30, 31, 32, 33, 34, 35, 58, 59, 60, 61, 62, 63, 64, 65, 36, 37, 38, 66, 67, 68, 69, 70, 71, 72, 73, 74, 75, 76, 77, 78, 79, 80, 81, 82, 83, 84, 85, 86, 87, 88, 89, 90, 91, 92, 93, 94, 95, 96, 97, 98, 99, 100, 101] (by decide +kernel) (by decide +kernel)
set_option maxRecDepth 20000 in
theorem gX6_flips_X6_runsTwo : GoodIn wsX6_flips (wsV RX6 143 RX6 yX6_runsTwo wsX6_runsTwo) := goodIn_app (goodIn_of _ (by decide +kernel)) ggX6_flips_X6_runsTwo
