theorem dX5_move_39 : decode cX5_move 39 = .ok (.ifCond .eq 6, 3) := by decide +kernel
theorem dX5_move_42 : decode cX5_move 42 = .ok (.bipush (-5), 2) := by decide +kernel
theorem dX5_move_44 : decode cX5_move 44 = .ok (.ireturn, 1) := by decide +kernel
theorem dX5_move_45 : decode cX5_move 45 = .ok (.aload_n 0, 1) := by decide +kernel
theorem dX5_move_46 : decode cX5_move 46 = .ok (.getfield 10, 3) := by decide +kernel
theorem dX5_move_49 : decode cX5_move 49 = .ok (.iload 4, 2) := by decide +kernel
theorem dX5_move_51 : decode cX5_move 51 = .ok (.invokevirtual 75, 3) := by decide +kernel
theorem dX5_move_54 : decode cX5_move 54 = .ok (.aload_n 0, 1) := by decide +kernel
theorem dX5_move_55 : decode cX5_move 55 = .ok (.getfield 10, 3) := by decide +kernel
theorem dX5_move_58 : decode cX5_move 58 = .ok (.iload_n 1, 1) := by decide +kernel
theorem dX5_move_59 : decode cX5_move 59 = .ok (.iload_n 2, 1) := by decide +kernel
theorem dX5_move_60 : decode cX5_move 60 = .ok (.iload_n 3, 1) := by decide +kernel
theorem dX5_move_61 : decode cX5_move 61 = .ok (.invokevirtual 59, 3) := by decide +kernel
theorem dX5_move_64 : decode cX5_move 64 = .ok (.iconst 1, 1) := by decide +kernel
theorem dX5_move_65 : decode cX5_move 65 = .ok (.ireturn, 1) := by decide +kernel
set_option maxRecDepth 20000 in
theorem ggX5_point_X3_rankOf : GoodIn wsX5_point wsX3_rankOf := goodIn_r _ [8, 9, 10, 83, 84, 85, 86] (by decide +kernel) (by decide +kernel)
set_option maxRecDepth 20000 in
theorem gX5_point_X3_rankOf : GoodIn wsX5_point (wsV RX5 71 RX3 yX3_rankOf wsX3_rankOf) := goodIn_app (goodIn_of _ (by decide +kernel)) ggX5_point_X3_rankOf
set_option maxRecDepth 20000 in
theorem ggX5_point_X5_topOf : GoodIn wsX5_point wsX5_topOf := goodIn_r _ [15, 16, 17, 18, 19, 20, 21, 22, 23, 24, 25, 26, 27, 28, 29, 30, 31, 14, 32, 1, 33, 34, 35, 36, 37, 38, 39, 40, 41, 42, 43, 44, 45, 46, 47, 48, 49, 50, 51, 52, 53, 54, 55, 56, 7, 57, 58, 59, 60, 61, 62, 63, 64, 65, 66, 67, 68, 69, 70, 71, 72, 73, 74, 75, 76, 77, 78, 79, 80, 81, 82, 87, 88, 89, 90, 91, 92, 83, 84, 85, 86] (by decide +kernel) (by decide +kernel)
set_option maxRecDepth 20000 in
theorem gX5_point_X5_topOf : GoodIn wsX5_point (wsV RX5 85 RX5 yX5_topOf wsX5_topOf) := goodIn_app (goodIn_of _ (by decide +kernel)) ggX5_point_X5_topOf
theorem dX5_point_0 : decode cX5_point 0 = .ok (.aload_n 0, 1) := by decide +kernel
theorem dX5_point_1 : decode cX5_point 1 = .ok (.getfield 10, 3) := by decide +kernel
theorem dX5_point_4 : decode cX5_point 4 = .ok (.iload_n 1, 1) := by decide +kernel
theorem dX5_point_5 : decode cX5_point 5 = .ok (.invokevirtual 71, 3) := by decide +kernel
theorem dX5_point_8 : decode cX5_point 8 = .ok (.istore_n 3, 1) := by decide +kernel
theorem dX5_point_9 : decode cX5_point 9 = .ok (.iload_n 3, 1) := by decide +kernel
theorem dX5_point_10 : decode cX5_point 10 = .ok (.bipush (-6), 2) := by decide +kernel
theorem dX5_point_12 : decode cX5_point 12 = .ok (.if_icmp .ne 5, 3) := by decide +kernel
theorem dX5_point_15 : decode cX5_point 15 = .ok (.iconst (-1), 1) := by decide +kernel
theorem dX5_point_16 : decode cX5_point 16 = .ok (.ireturn, 1) := by decide +kernel
theorem dX5_point_17 : decode cX5_point 17 = .ok (.iload_n 2, 1) := by decide +kernel
theorem dX5_point_18 : decode cX5_point 18 = .ok (.tableswitch 70 0 4 #[34, 44, 54, 56, 63], 34) := by decide +kernel
theorem dX5_point_52 : decode cX5_point 52 = .ok (.aload_n 0, 1) := by decide +kernel
theorem dX5_point_53 : decode cX5_point 53 = .ok (.getfield 10, 3) := by decide +kernel
theorem dX5_point_56 : decode cX5_point 56 = .ok (.getfield 78, 3) := by decide +kernel
theorem dX5_point_59 : decode cX5_point 59 = .ok (.iload_n 3, 1) := by decide +kernel
theorem dX5_point_60 : decode cX5_point 60 = .ok (.iaload, 1) := by decide +kernel
theorem dX5_point_61 : decode cX5_point 61 = .ok (.ireturn, 1) := by decide +kernel
theorem dX5_point_62 : decode cX5_point 62 = .ok (.aload_n 0, 1) := by decide +kernel
theorem dX5_point_63 : decode cX5_point 63 = .ok (.getfield 10, 3) := by decide +kernel
theorem dX5_point_66 : decode cX5_point 66 = .ok (.getfield 82, 3) := by decide +kernel
theorem dX5_point_69 : decode cX5_point 69 = .ok (.iload_n 3, 1) := by decide +kernel
theorem dX5_point_70 : decode cX5_point 70 = .ok (.iaload, 1) := by decide +kernel
theorem dX5_point_71 : decode cX5_point 71 = .ok (.ireturn, 1) := by decide +kernel
theorem dX5_point_72 : decode cX5_point 72 = .ok (.iload_n 3, 1) := by decide +kernel
theorem dX5_point_73 : decode cX5_point 73 = .ok (.ireturn, 1) := by decide +kernel
theorem dX5_point_74 : decode cX5_point 74 = .ok (.aload_n 0, 1) := by decide +kernel
theorem dX5_point_75 : decode cX5_point 75 = .ok (.iload_n 3, 1) := by decide +kernel
theorem dX5_point_76 : decode cX5_point 76 = .ok (.iconst 0, 1) := by decide +kernel
theorem dX5_point_77 : decode cX5_point 77 = .ok (.invokevirtual 85, 3) := by decide +kernel
theorem dX5_point_80 : decode cX5_point 80 = .ok (.ireturn, 1) := by decide +kernel
theorem dX5_point_81 : decode cX5_point 81 = .ok (.aload_n 0, 1) := by decide +kernel
theorem dX5_point_82 : decode cX5_point 82 = .ok (.iload_n 3, 1) := by decide +kernel
theorem dX5_point_83 : decode cX5_point 83 = .ok (.iconst 1, 1) := by decide +kernel
theorem dX5_point_84 : decode cX5_point 84 = .ok (.invokevirtual 85, 3) := by decide +kernel
theorem dX5_point_87 : decode cX5_point 87 = .ok (.ireturn, 1) := by decide +kernel
theorem dX5_point_88 : decode cX5_point 88 = .ok (.bipush (-2), 2) := by decide +kernel
theorem dX5_point_90 : decode cX5_point 90 = .ok (.ireturn, 1) := by decide +kernel
set_option maxRecDepth 20000 in
theorem ggX5_ranked_X3_idAt : GoodIn wsX5_ranked wsX3_idAt := goodIn_r _ [6, 7, 8, 16, 17, 18, 19] (by decide +kernel) (by decide +kernel)
set_option maxRecDepth 20000 in
theorem gX5_ranked_X3_idAt : GoodIn wsX5_ranked (wsV RX5 89 RX3 yX3_idAt wsX3_idAt) := goodIn_app (goodIn_of _ (by decide +kernel)) ggX5_ranked_X3_idAt
theorem dX5_ranked_0 : decode cX5_ranked 0 = .ok (.aload_n 0, 1) := by decide +kernel
theorem dX5_ranked_1 : decode cX5_ranked 1 = .ok (.getfield 10, 3) := by decide +kernel
theorem dX5_ranked_4 : decode cX5_ranked 4 = .ok (.iload_n 1, 1) := by decide +kernel
theorem dX5_ranked_5 : decode cX5_ranked 5 = .ok (.invokevirtual 89, 3) := by decide +kernel
theorem dX5_ranked_8 : decode cX5_ranked 8 = .ok (.ireturn, 1) := by decide +kernel
set_option maxRecDepth 20000 in
theorem ggX5_part_X2_has : GoodIn wsX5_part wsX2_has := goodIn_r _ [8, 9, 74, 75] (by decide +kernel) (by decide +kernel)
set_option maxRecDepth 20000 in
theorem gX5_part_X2_has : GoodIn wsX5_part (wsV RX5 92 RX2 yX2_has wsX2_has) := goodIn_app (goodIn_of _ (by decide +kernel)) ggX5_part_X2_has
set_option maxRecDepth 20000 in
theorem ggX5_part_X5_cornersOf : GoodIn wsX5_part wsX5_cornersOf := goodIn_r _ [14, 15, 16, 17, 18, 19, 20, 13, 21, 22, 1, 3, 2, 23, 24, 25, 26, 27, 28, 29, 30, 31, 32, 33, 34, 35, 36, 37, 38, 39, 40, 41, 42, 43, 44, 45, 46, 47, 48, 49, 50, 51, 52, 53, 54, 55, 67, 68, 69, 70, 71, 72, 73, 76, 77, 78, 79, 74, 75, 80, 81, 82, 83] (by decide +kernel) (by decide +kernel)
set_option maxRecDepth 20000 in
theorem gX5_part_X5_cornersOf : GoodIn wsX5_part (wsV RX5 102 RX5 yX5_cornersOf wsX5_cornersOf) := goodIn_app (goodIn_of _ (by decide +kernel)) ggX5_part_X5_cornersOf
set_option maxRecDepth 20000 in
theorem ggX5_part_X5_restOf : GoodIn wsX5_part wsX5_restOf := goodIn_r _ [59, 15, 60, 16, 17, 61, 35, 18, 19, 20, 13, 21, 22, 1, 3, 2, 23, 24, 25, 26, 27, 28, 29, 30, 31, 32, 33, 34, 36, 37, 38, 39, 40, 41, 42, 43, 44, 45, 46, 47, 48, 49, 50, 51, 52, 53, 54, 55, 62, 63, 64, 65, 66, 67, 68, 69, 70, 71, 72, 73, 76, 77, 78, 79, 74, 75, 80, 81, 82, 83] (by decide +kernel) (by decide +kernel)
set_option maxRecDepth 20000 in
theorem gX5_part_X5_restOf : GoodIn wsX5_part (wsV RX5 105 RX5 yX5_restOf wsX5_restOf) := goodIn_app (goodIn_of _ (by decide +kernel)) ggX5_part_X5_restOf
theorem dX5_part_0 : decode cX5_part 0 = .ok (.aload_n 0, 1) := by decide +kernel
theorem dX5_part_1 : decode cX5_part 1 = .ok (.getfield 19, 3) := by decide +kernel
theorem dX5_part_4 : decode cX5_part 4 = .ok (.iload_n 1, 1) := by decide +kernel
theorem dX5_part_5 : decode cX5_part 5 = .ok (.invokevirtual 92, 3) := by decide +kernel
theorem dX5_part_8 : decode cX5_part 8 = .ok (.ifCond .ne 5, 3) := by decide +kernel
theorem dX5_part_11 : decode cX5_part 11 = .ok (.iconst (-1), 1) := by decide +kernel
theorem dX5_part_12 : decode cX5_part 12 = .ok (.ireturn, 1) := by decide +kernel
theorem dX5_part_13 : decode cX5_part 13 = .ok (.iload_n 2, 1) := by decide +kernel
theorem dX5_part_14 : decode cX5_part 14 = .ok (.tableswitch 106 0 5 #[38, 48, 58, 65, 72, 89], 38) := by decide +kernel
theorem dX5_part_52 : decode cX5_part 52 = .ok (.aload_n 0, 1) := by decide +kernel
theorem dX5_part_53 : decode cX5_part 53 = .ok (.getfield 19, 3) := by decide +kernel
theorem dX5_part_56 : decode cX5_part 56 = .ok (.getfield 96, 3) := by decide +kernel
theorem dX5_part_59 : decode cX5_part 59 = .ok (.iload_n 1, 1) := by decide +kernel
theorem dX5_part_60 : decode cX5_part 60 = .ok (.iaload, 1) := by decide +kernel
theorem dX5_part_61 : decode cX5_part 61 = .ok (.ireturn, 1) := by decide +kernel
theorem dX5_part_62 : decode cX5_part 62 = .ok (.aload_n 0, 1) := by decide +kernel
theorem dX5_part_63 : decode cX5_part 63 = .ok (.getfield 19, 3) := by decide +kernel
theorem dX5_part_66 : decode cX5_part 66 = .ok (.getfield 99, 3) := by decide +kernel
theorem dX5_part_69 : decode cX5_part 69 = .ok (.iload_n 1, 1) := by decide +kernel
theorem dX5_part_70 : decode cX5_part 70 = .ok (.iaload, 1) := by decide +kernel
theorem dX5_part_71 : decode cX5_part 71 = .ok (.ireturn, 1) := by decide +kernel
theorem dX5_part_72 : decode cX5_part 72 = .ok (.aload_n 0, 1) := by decide +kernel
theorem dX5_part_73 : decode cX5_part 73 = .ok (.iload_n 1, 1) := by decide +kernel
theorem dX5_part_74 : decode cX5_part 74 = .ok (.iconst 0, 1) := by decide +kernel
theorem dX5_part_75 : decode cX5_part 75 = .ok (.invokevirtual 102, 3) := by decide +kernel
theorem dX5_part_78 : decode cX5_part 78 = .ok (.ireturn, 1) := by decide +kernel
theorem dX5_part_79 : decode cX5_part 79 = .ok (.aload_n 0, 1) := by decide +kernel
theorem dX5_part_80 : decode cX5_part 80 = .ok (.iload_n 1, 1) := by decide +kernel
theorem dX5_part_81 : decode cX5_part 81 = .ok (.iconst 1, 1) := by decide +kernel
theorem dX5_part_82 : decode cX5_part 82 = .ok (.invokevirtual 102, 3) := by decide +kernel
theorem dX5_part_85 : decode cX5_part 85 = .ok (.ireturn, 1) := by decide +kernel
theorem dX5_part_86 : decode cX5_part 86 = .ok (.iload_n 1, 1) := by decide +kernel
theorem dX5_part_87 : decode cX5_part 87 = .ok (.iconst 1, 1) := by decide +kernel
theorem dX5_part_88 : decode cX5_part 88 = .ok (.if_icmp .ne 8, 3) := by decide +kernel
theorem dX5_part_91 : decode cX5_part 91 = .ok (.bipush (-6), 2) := by decide +kernel
theorem dX5_part_93 : decode cX5_part 93 = .ok (.goto 9, 3) := by decide +kernel
theorem dX5_part_96 : decode cX5_part 96 = .ok (.aload_n 0, 1) := by decide +kernel
theorem dX5_part_97 : decode cX5_part 97 = .ok (.iload_n 1, 1) := by decide +kernel
theorem dX5_part_98 : decode cX5_part 98 = .ok (.iconst 0, 1) := by decide +kernel
theorem dX5_part_99 : decode cX5_part 99 = .ok (.invokevirtual 105, 3) := by decide +kernel
theorem dX5_part_102 : decode cX5_part 102 = .ok (.ireturn, 1) := by decide +kernel
theorem dX5_part_103 : decode cX5_part 103 = .ok (.iload_n 1, 1) := by decide +kernel
theorem dX5_part_104 : decode cX5_part 104 = .ok (.iconst 1, 1) := by decide +kernel
theorem dX5_part_105 : decode cX5_part 105 = .ok (.if_icmp .ne 8, 3) := by decide +kernel
theorem dX5_part_108 : decode cX5_part 108 = .ok (.bipush (-6), 2) := by decide +kernel
theorem dX5_part_110 : decode cX5_part 110 = .ok (.goto 9, 3) := by decide +kernel
theorem dX5_part_113 : decode cX5_part 113 = .ok (.aload_n 0, 1) := by decide +kernel
theorem dX5_part_114 : decode cX5_part 114 = .ok (.iload_n 1, 1) := by decide +kernel
theorem dX5_part_115 : decode cX5_part 115 = .ok (.iconst 1, 1) := by decide +kernel
theorem dX5_part_116 : decode cX5_part 116 = .ok (.invokevirtual 105, 3) := by decide +kernel
theorem dX5_part_119 : decode cX5_part 119 = .ok (.ireturn, 1) := by decide +kernel
theorem dX5_part_120 : decode cX5_part 120 = .ok (.bipush (-2), 2) := by decide +kernel
theorem dX5_part_122 : decode cX5_part 122 = .ok (.ireturn, 1) := by decide +kernel
set_option maxRecDepth 20000 in
theorem ggX5_chain_X2_has : GoodIn wsX5_chain wsX2_has := goodIn_r _ [8, 9, 72, 73] (by decide +kernel) (by decide +kernel)
set_option maxRecDepth 20000 in
theorem gX5_chain_X2_has : GoodIn wsX5_chain (wsV RX5 92 RX2 yX2_has wsX2_has) := goodIn_app (goodIn_of _ (by decide +kernel)) ggX5_chain_X2_has
set_option maxRecDepth 20000 in
theorem ggX5_chain_X5_isSide : GoodIn wsX5_chain wsX5_isSide := goodIn_r _ [13] (by decide +kernel) (by decide +kernel)
set_option maxRecDepth 20000 in
theorem gX5_chain_X5_isSide : GoodIn wsX5_chain (va_wsS RX5 108 yX5_isSide wsX5_isSide) := goodIn_app (goodIn_of _ (by decide +kernel)) ggX5_chain_X5_isSide
set_option maxRecDepth 20000 in
theorem ggX5_chain_X5_trace : GoodIn wsX5_chain wsX5_trace := goodIn_r _ [17, 3, 1, 18, 19, 20, 21, 22, 23, 24, 25, 26, 27, 28, 29, 30, 31, 32, 33, 34, 35, 36, 37, 38, 39, 40, 41, 42, 43, 44, 45, 46, 47, 48, 49, 50, 51, 52, 53, 65, 66, 67, 68, 69, 70, 71, 72, 73, 74, 75, 76, 77, 78, 79, 80, 81] (by decide +kernel) (by decide +kernel)
set_option maxRecDepth 20000 in
theorem gX5_chain_X5_trace : GoodIn wsX5_chain (wsV RX5 111 RX5 yX5_trace wsX5_trace) := goodIn_app (goodIn_of _ (by decide +kernel)) ggX5_chain_X5_trace
set_option maxRecDepth 20000 in
theorem ggX5_chain_X1_rankAt : GoodIn wsX5_chain wsX1_rankAt := goodIn_r _ [58, 52, 53, 74, 75, 76, 77] (by decide +kernel) (by decide +kernel)
set_option maxRecDepth 20000 in
theorem gX5_chain_X1_rankAt_u115X0 : GoodIn wsX5_chain (va_wsU RX5 115 RX0 "LiveHull$Corners" ⟨"LiveHull$Chain", "rankAt", "(I)I"⟩ yX1_rankAt wsX1_rankAt) := goodIn_app (goodIn_of _ (by decide +kernel)) ggX5_chain_X1_rankAt
set_option maxRecDepth 20000 in
theorem ggX5_chain_X3_idAt : GoodIn wsX5_chain wsX3_idAt := goodIn_r _ [62, 63, 64, 78, 79, 80, 81] (by decide +kernel) (by decide +kernel)
set_option maxRecDepth 20000 in
theorem gX5_chain_X3_idAt : GoodIn wsX5_chain (wsV RX5 89 RX3 yX3_idAt wsX3_idAt) := goodIn_app (goodIn_of _ (by decide +kernel)) ggX5_chain_X3_idAt
theorem dX5_chain_0 : decode cX5_chain 0 = .ok (.aload_n 0, 1) := by decide +kernel
theorem dX5_chain_1 : decode cX5_chain 1 = .ok (.getfield 19, 3) := by decide +kernel
theorem dX5_chain_4 : decode cX5_chain 4 = .ok (.iload_n 1, 1) := by decide +kernel
theorem dX5_chain_5 : decode cX5_chain 5 = .ok (.invokevirtual 92, 3) := by decide +kernel
theorem dX5_chain_8 : decode cX5_chain 8 = .ok (.ifCond .ne 5, 3) := by decide +kernel
theorem dX5_chain_11 : decode cX5_chain 11 = .ok (.iconst (-1), 1) := by decide +kernel
theorem dX5_chain_12 : decode cX5_chain 12 = .ok (.ireturn, 1) := by decide +kernel
theorem dX5_chain_13 : decode cX5_chain 13 = .ok (.iload_n 2, 1) := by decide +kernel
theorem dX5_chain_14 : decode cX5_chain 14 = .ok (.invokestatic 108, 3) := by decide +kernel
theorem dX5_chain_17 : decode cX5_chain 17 = .ok (.ifCond .ne 6, 3) := by decide +kernel
theorem dX5_chain_20 : decode cX5_chain 20 = .ok (.bipush (-2), 2) := by decide +kernel
theorem dX5_chain_22 : decode cX5_chain 22 = .ok (.ireturn, 1) := by decide +kernel
theorem dX5_chain_23 : decode cX5_chain 23 = .ok (.aload_n 0, 1) := by decide +kernel
theorem dX5_chain_24 : decode cX5_chain 24 = .ok (.aload_n 0, 1) := by decide +kernel
theorem dX5_chain_25 : decode cX5_chain 25 = .ok (.getfield 26, 3) := by decide +kernel
theorem dX5_chain_28 : decode cX5_chain 28 = .ok (.iload_n 1, 1) := by decide +kernel
theorem dX5_chain_29 : decode cX5_chain 29 = .ok (.iload_n 2, 1) := by decide +kernel
theorem dX5_chain_30 : decode cX5_chain 30 = .ok (.invokevirtual 111, 3) := by decide +kernel
theorem dX5_chain_33 : decode cX5_chain 33 = .ok (.aload_n 0, 1) := by decide +kernel
theorem dX5_chain_34 : decode cX5_chain 34 = .ok (.getfield 10, 3) := by decide +kernel
theorem dX5_chain_37 : decode cX5_chain 37 = .ok (.aload_n 0, 1) := by decide +kernel
theorem dX5_chain_38 : decode cX5_chain 38 = .ok (.getfield 26, 3) := by decide +kernel
theorem dX5_chain_41 : decode cX5_chain 41 = .ok (.iload_n 3, 1) := by decide +kernel
theorem dX5_chain_42 : decode cX5_chain 42 = .ok (.invokevirtual 115, 3) := by decide +kernel
theorem dX5_chain_45 : decode cX5_chain 45 = .ok (.invokevirtual 89, 3) := by decide +kernel
theorem dX5_chain_48 : decode cX5_chain 48 = .ok (.ireturn, 1) := by decide +kernel
set_option maxRecDepth 20000 in
theorem ggX5_bridge_X2_has : GoodIn wsX5_bridge wsX2_has := goodIn_r _ [9, 10, 80, 81] (by decide +kernel) (by decide +kernel)
set_option maxRecDepth 20000 in
theorem gX5_bridge_X2_has : GoodIn wsX5_bridge (wsV RX5 92 RX2 yX2_has wsX2_has) := goodIn_app (goodIn_of _ (by decide +kernel)) ggX5_bridge_X2_has
set_option maxRecDepth 20000 in
theorem ggX5_bridge_X2_hasHalves : GoodIn wsX5_bridge wsX2_hasHalves := goodIn_r _ [14, 10, 15, 6, 7, 8, 9, 80, 81] (by decide +kernel) (by decide +kernel)
set_option maxRecDepth 20000 in
theorem gX5_bridge_X2_hasHalves : GoodIn wsX5_bridge (wsV RX5 118 RX2 yX2_hasHalves wsX2_hasHalves) := goodIn_app (goodIn_of _ (by decide +kernel)) ggX5_bridge_X2_hasHalves
set_option maxRecDepth 20000 in
theorem ggX5_bridge_X5_isSide : GoodIn wsX5_bridge wsX5_isSide := goodIn_r _ [19] (by decide +kernel) (by decide +kernel)
set_option maxRecDepth 20000 in
theorem gX5_bridge_X5_isSide : GoodIn wsX5_bridge (va_wsS RX5 108 yX5_isSide wsX5_isSide) := goodIn_app (goodIn_of _ (by decide +kernel)) ggX5_bridge_X5_isSide
set_option maxRecDepth 20000 in
theorem ggX5_bridge_X5_trace : GoodIn wsX5_bridge wsX5_trace := goodIn_r _ [23, 4, 1, 3, 24, 25, 26, 27, 28, 29, 30, 31, 32, 33, 34, 35, 36, 37, 38, 39, 40, 41, 42, 43, 44, 45, 46, 47, 48, 49, 50, 51, 52, 53, 54, 55, 56, 57, 58, 73, 74, 75, 76, 77, 78, 79, 80, 81, 82, 83, 84, 85, 86, 87, 88, 89] (by decide +kernel) (by decide +kernel)
set_option maxRecDepth 20000 in
theorem gX5_bridge_X5_trace : GoodIn wsX5_bridge (wsV RX5 111 RX5 yX5_trace wsX5_trace) := goodIn_app (goodIn_of _ (by decide +kernel)) ggX5_bridge_X5_trace
set_option maxRecDepth 20000 in
theorem ggX5_bridge_X0_lastBefore : GoodIn wsX5_bridge wsX0_lastBefore := goodIn_r _ [62, 30, 31, 37, 38, 82, 83, 84, 85] (by decide +kernel) (by decide +kernel)
set_option maxRecDepth 20000 in
theorem gX5_bridge_X0_lastBefore : GoodIn wsX5_bridge (wsV RX5 121 RX0 yX0_lastBefore wsX0_lastBefore) := goodIn_app (goodIn_of _ (by decide +kernel)) ggX5_bridge_X0_lastBefore
set_option maxRecDepth 20000 in
theorem ggX5_bridge_X0_firstFrom : GoodIn wsX5_bridge wsX0_firstFrom := goodIn_r _ [66, 30, 31, 37, 38, 82, 83, 84, 85] (by decide +kernel) (by decide +kernel)
set_option maxRecDepth 20000 in
theorem gX5_bridge_X0_firstFrom : GoodIn wsX5_bridge (wsV RX5 124 RX0 yX0_firstFrom wsX0_firstFrom) := goodIn_app (goodIn_of _ (by decide +kernel)) ggX5_bridge_X0_firstFrom
set_option maxRecDepth 20000 in
theorem ggX5_bridge_X3_idAt : GoodIn wsX5_bridge wsX3_idAt := goodIn_r _ [70, 71, 72, 86, 87, 88, 89] (by decide +kernel) (by decide +kernel)
set_option maxRecDepth 20000 in
theorem gX5_bridge_X3_idAt : GoodIn wsX5_bridge (wsV RX5 89 RX3 yX3_idAt wsX3_idAt) := goodIn_app (goodIn_of _ (by decide +kernel)) ggX5_bridge_X3_idAt
theorem dX5_bridge_0 : decode cX5_bridge 0 = .ok (.aload_n 0, 1) := by decide +kernel
theorem dX5_bridge_1 : decode cX5_bridge 1 = .ok (.getfield 19, 3) := by decide +kernel
theorem dX5_bridge_4 : decode cX5_bridge 4 = .ok (.iload_n 1, 1) := by decide +kernel
theorem dX5_bridge_5 : decode cX5_bridge 5 = .ok (.invokevirtual 92, 3) := by decide +kernel
theorem dX5_bridge_8 : decode cX5_bridge 8 = .ok (.ifCond .ne 5, 3) := by decide +kernel
theorem dX5_bridge_11 : decode cX5_bridge 11 = .ok (.iconst (-1), 1) := by decide +kernel
theorem dX5_bridge_12 : decode cX5_bridge 12 = .ok (.ireturn, 1) := by decide +kernel
theorem dX5_bridge_13 : decode cX5_bridge 13 = .ok (.aload_n 0, 1) := by decide +kernel
theorem dX5_bridge_14 : decode cX5_bridge 14 = .ok (.getfield 19, 3) := by decide +kernel
theorem dX5_bridge_17 : decode cX5_bridge 17 = .ok (.iload_n 1, 1) := by decide +kernel
theorem dX5_bridge_18 : decode cX5_bridge 18 = .ok (.invokevirtual 118, 3) := by decide +kernel
theorem dX5_bridge_21 : decode cX5_bridge 21 = .ok (.ifCond .ne 6, 3) := by decide +kernel
theorem dX5_bridge_24 : decode cX5_bridge 24 = .ok (.bipush (-5), 2) := by decide +kernel
theorem dX5_bridge_26 : decode cX5_bridge 26 = .ok (.ireturn, 1) := by decide +kernel
theorem dX5_bridge_27 : decode cX5_bridge 27 = .ok (.iload_n 2, 1) := by decide +kernel
theorem dX5_bridge_28 : decode cX5_bridge 28 = .ok (.invokestatic 108, 3) := by decide +kernel
theorem dX5_bridge_31 : decode cX5_bridge 31 = .ok (.ifCond .eq 12, 3) := by decide +kernel
theorem dX5_bridge_34 : decode cX5_bridge 34 = .ok (.iload_n 3, 1) := by decide +kernel
theorem dX5_bridge_35 : decode cX5_bridge 35 = .ok (.ifCond .lt 8, 3) := by decide +kernel
theorem dX5_bridge_38 : decode cX5_bridge 38 = .ok (.iload_n 3, 1) := by decide +kernel
theorem dX5_bridge_39 : decode cX5_bridge 39 = .ok (.iconst 1, 1) := by decide +kernel
theorem dX5_bridge_40 : decode cX5_bridge 40 = .ok (.if_icmp .le 6, 3) := by decide +kernel
theorem dX5_bridge_43 : decode cX5_bridge 43 = .ok (.bipush (-2), 2) := by decide +kernel
theorem dX5_bridge_45 : decode cX5_bridge 45 = .ok (.ireturn, 1) := by decide +kernel
theorem dX5_bridge_46 : decode cX5_bridge 46 = .ok (.aload_n 0, 1) := by decide +kernel
theorem dX5_bridge_47 : decode cX5_bridge 47 = .ok (.aload_n 0, 1) := by decide +kernel
theorem dX5_bridge_48 : decode cX5_bridge 48 = .ok (.getfield 26, 3) := by decide +kernel
theorem dX5_bridge_51 : decode cX5_bridge 51 = .ok (.iload_n 1, 1) := by decide +kernel
theorem dX5_bridge_52 : decode cX5_bridge 52 = .ok (.iload_n 2, 1) := by decide +kernel
theorem dX5_bridge_53 : decode cX5_bridge 53 = .ok (.invokevirtual 111, 3) := by decide +kernel
theorem dX5_bridge_56 : decode cX5_bridge 56 = .ok (.aload_n 0, 1) := by decide +kernel
theorem dX5_bridge_57 : decode cX5_bridge 57 = .ok (.getfield 19, 3) := by decide +kernel
theorem dX5_bridge_60 : decode cX5_bridge 60 = .ok (.getfield 99, 3) := by decide +kernel
theorem dX5_bridge_63 : decode cX5_bridge 63 = .ok (.iconst 2, 1) := by decide +kernel
theorem dX5_bridge_64 : decode cX5_bridge 64 = .ok (.iload_n 1, 1) := by decide +kernel
theorem dX5_bridge_65 : decode cX5_bridge 65 = .ok (.imul, 1) := by decide +kernel
theorem dX5_bridge_66 : decode cX5_bridge 66 = .ok (.iconst 1, 1) := by decide +kernel
theorem dX5_bridge_67 : decode cX5_bridge 67 = .ok (.iadd, 1) := by decide +kernel
theorem dX5_bridge_68 : decode cX5_bridge 68 = .ok (.iaload, 1) := by decide +kernel
theorem dX5_bridge_69 : decode cX5_bridge 69 = .ok (.istore 4, 2) := by decide +kernel
theorem dX5_bridge_71 : decode cX5_bridge 71 = .ok (.aload_n 0, 1) := by decide +kernel
theorem dX5_bridge_72 : decode cX5_bridge 72 = .ok (.getfield 10, 3) := by decide +kernel
theorem dX5_bridge_75 : decode cX5_bridge 75 = .ok (.iload_n 3, 1) := by decide +kernel
theorem dX5_bridge_76 : decode cX5_bridge 76 = .ok (.ifCond .ne 15, 3) := by decide +kernel
theorem dX5_bridge_79 : decode cX5_bridge 79 = .ok (.aload_n 0, 1) := by decide +kernel
theorem dX5_bridge_80 : decode cX5_bridge 80 = .ok (.getfield 26, 3) := by decide +kernel
theorem dX5_bridge_83 : decode cX5_bridge 83 = .ok (.iload 4, 2) := by decide +kernel
theorem dX5_bridge_85 : decode cX5_bridge 85 = .ok (.invokevirtual 121, 3) := by decide +kernel
theorem dX5_bridge_88 : decode cX5_bridge 88 = .ok (.goto 12, 3) := by decide +kernel
theorem dX5_bridge_91 : decode cX5_bridge 91 = .ok (.aload_n 0, 1) := by decide +kernel
theorem dX5_bridge_92 : decode cX5_bridge 92 = .ok (.getfield 26, 3) := by decide +kernel
theorem dX5_bridge_95 : decode cX5_bridge 95 = .ok (.iload 4, 2) := by decide +kernel
theorem dX5_bridge_97 : decode cX5_bridge 97 = .ok (.invokevirtual 124, 3) := by decide +kernel
theorem dX5_bridge_100 : decode cX5_bridge 100 = .ok (.invokevirtual 89, 3) := by decide +kernel
theorem dX5_bridge_103 : decode cX5_bridge 103 = .ok (.ireturn, 1) := by decide +kernel
set_option maxRecDepth 20000 in
theorem ggX5_round_X5_gatherRing : GoodIn wsX5_round wsX5_gatherRing := goodIn_r _ [9, 1, 10, 4, 11, 12, 13, 14, 15, 16, 17, 3, 18, 19, 20, 21, 22, 23, 24, 25, 26, 27, 28, 29, 30, 31, 32, 33, 34, 35, 36, 37, 38, 39, 40, 41, 42, 43, 44, 45, 46, 47, 48, 49, 50, 51, 52, 53, 54, 55, 56, 57, 58, 59, 60, 61, 62, 63, 64, 65, 66, 67, 68, 69, 70, 71, 72, 73, 85, 86, 87, 88, 89, 90, 91, 96, 97, 98, 99, 92, 93, 94, 95] (by decide +kernel) (by decide +kernel)
set_option maxRecDepth 20000 in
theorem gX5_round_X5_gatherRing : GoodIn wsX5_round (wsV RX5 127 RX5 yX5_gatherRing wsX5_gatherRing) := goodIn_app (goodIn_of _ (by decide +kernel)) ggX5_round_X5_gatherRing
set_option maxRecDepth 20000 in
theorem ggX5_round_X1_rankAt : GoodIn wsX5_round wsX1_rankAt := goodIn_r _ [78, 50, 51, 92, 93, 94, 95] (by decide +kernel) (by decide +kernel)
set_option maxRecDepth 20000 in
theorem gX5_round_X1_rankAt_u133X4 : GoodIn wsX5_round (va_wsU RX5 133 RX4 "LiveHull$Corners" ⟨"LiveHull$Ring", "rankAt", "(I)I"⟩ yX1_rankAt wsX1_rankAt) := goodIn_app (goodIn_of _ (by decide +kernel)) ggX5_round_X1_rankAt
set_option maxRecDepth 20000 in
theorem ggX5_round_X3_idAt : GoodIn wsX5_round wsX3_idAt := goodIn_r _ [82, 83, 84, 96, 97, 98, 99] (by decide +kernel) (by decide +kernel)
set_option maxRecDepth 20000 in
theorem gX5_round_X3_idAt : GoodIn wsX5_round (wsV RX5 89 RX3 yX3_idAt wsX3_idAt) := goodIn_app (goodIn_of _ (by decide +kernel)) ggX5_round_X3_idAt
theorem dX5_round_0 : decode cX5_round 0 = .ok (.aload_n 0, 1) := by decide +kernel
theorem dX5_round_1 : decode cX5_round 1 = .ok (.invokevirtual 127, 3) := by decide +kernel
theorem dX5_round_4 : decode cX5_round 4 = .ok (.iload_n 1, 1) := by decide +kernel
theorem dX5_round_5 : decode cX5_round 5 = .ok (.iconst (-1), 1) := by decide +kernel
theorem dX5_round_6 : decode cX5_round 6 = .ok (.if_icmp .ne 13, 3) := by decide +kernel
theorem dX5_round_9 : decode cX5_round 9 = .ok (.aload_n 0, 1) := by decide +kernel
theorem dX5_round_10 : decode cX5_round 10 = .ok (.getfield 36, 3) := by decide +kernel
theorem dX5_round_13 : decode cX5_round 13 = .ok (.getfield 130, 3) := by decide +kernel
theorem dX5_round_16 : decode cX5_round 16 = .ok (.goto 18, 3) := by decide +kernel
theorem dX5_round_19 : decode cX5_round 19 = .ok (.aload_n 0, 1) := by decide +kernel
theorem dX5_round_20 : decode cX5_round 20 = .ok (.getfield 10, 3) := by decide +kernel
theorem dX5_round_23 : decode cX5_round 23 = .ok (.aload_n 0, 1) := by decide +kernel
theorem dX5_round_24 : decode cX5_round 24 = .ok (.getfield 36, 3) := by decide +kernel
theorem dX5_round_27 : decode cX5_round 27 = .ok (.iload_n 1, 1) := by decide +kernel
theorem dX5_round_28 : decode cX5_round 28 = .ok (.invokevirtual 133, 3) := by decide +kernel
theorem dX5_round_31 : decode cX5_round 31 = .ok (.invokevirtual 89, 3) := by decide +kernel
theorem dX5_round_34 : decode cX5_round 34 = .ok (.ireturn, 1) := by decide +kernel
set_option maxRecDepth 20000 in
theorem ggX5_extreme_X5_isPlace : GoodIn wsX5_extreme wsX5_isPlace := goodIn_r _ [7, 8, 9] (by decide +kernel) (by decide +kernel)
set_option maxRecDepth 20000 in
theorem gX5_extreme_X5_isPlace : GoodIn wsX5_extreme (va_wsS RX5 48 yX5_isPlace wsX5_isPlace) := goodIn_app (goodIn_of _ (by decide +kernel)) ggX5_extreme_X5_isPlace
set_option maxRecDepth 20000 in
theorem ggX5_extreme_X5_gatherRing : GoodIn wsX5_extreme wsX5_gatherRing := goodIn_r _ [13, 3, 14, 1, 2, 15, 16, 17, 18, 19, 20, 21, 22, 23, 24, 25, 26, 27, 28, 29, 30, 31, 32, 33, 34, 35, 36, 37, 38, 39, 40, 41, 42, 43, 44, 45, 46, 47, 48, 49, 50, 51, 52, 53, 54, 55, 56, 57, 58, 59, 60, 61, 62, 63, 64, 65, 66, 67, 68, 69, 70, 71, 72, 73, 74, 75, 76, 77, 97, 98, 99, 100, 101, 102, 103, 104, 105, 106, 107, 108, 109, 110, 111] (by decide +kernel) (by decide +kernel)
set_option maxRecDepth 20000 in
theorem gX5_extreme_X5_gatherRing : GoodIn wsX5_extreme (wsV RX5 127 RX5 yX5_gatherRing wsX5_gatherRing) := goodIn_app (goodIn_of _ (by decide +kernel)) ggX5_extreme_X5_gatherRing
set_option maxRecDepth 20000 in
theorem ggX5_extreme_X4_farthest : GoodIn wsX5_extreme wsX4_farthest := goodIn_r _ [81, 20, 21, 82, 83, 84, 85, 18, 86, 87, 88, 89, 44, 90, 46, 47, 108, 109, 110, 111, 104, 105, 106, 107] (by decide +kernel) (by decide +kernel)
set_option maxRecDepth 20000 in
theorem gX5_extreme_X4_farthest : GoodIn wsX5_extreme (wsV RX5 134 RX4 yX4_farthest wsX4_farthest) := goodIn_app (goodIn_of _ (by decide +kernel)) ggX5_extreme_X4_farthest
set_option maxRecDepth 20000 in
theorem ggX5_extreme_X3_idAt : GoodIn wsX5_extreme wsX3_idAt := goodIn_r _ [94, 95, 96, 104, 105, 106, 107] (by decide +kernel) (by decide +kernel)
set_option maxRecDepth 20000 in
theorem gX5_extreme_X3_idAt : GoodIn wsX5_extreme (wsV RX5 89 RX3 yX3_idAt wsX3_idAt) := goodIn_app (goodIn_of _ (by decide +kernel)) ggX5_extreme_X3_idAt
theorem dX5_extreme_0 : decode cX5_extreme 0 = .ok (.iload_n 1, 1) := by decide +kernel
theorem dX5_extreme_1 : decode cX5_extreme 1 = .ok (.iload_n 2, 1) := by decide +kernel
theorem dX5_extreme_2 : decode cX5_extreme 2 = .ok (.invokestatic 48, 3) := by decide +kernel
theorem dX5_extreme_5 : decode cX5_extreme 5 = .ok (.ifCond .ne 6, 3) := by decide +kernel
theorem dX5_extreme_8 : decode cX5_extreme 8 = .ok (.bipush (-2), 2) := by decide +kernel
theorem dX5_extreme_10 : decode cX5_extreme 10 = .ok (.ireturn, 1) := by decide +kernel
theorem dX5_extreme_11 : decode cX5_extreme 11 = .ok (.aload_n 0, 1) := by decide +kernel
theorem dX5_extreme_12 : decode cX5_extreme 12 = .ok (.getfield 10, 3) := by decide +kernel
theorem dX5_extreme_15 : decode cX5_extreme 15 = .ok (.getfield 63, 3) := by decide +kernel
theorem dX5_extreme_18 : decode cX5_extreme 18 = .ok (.ifCond .eq 11, 3) := by decide +kernel
theorem dX5_extreme_21 : decode cX5_extreme 21 = .ok (.iload_n 1, 1) := by decide +kernel
theorem dX5_extreme_22 : decode cX5_extreme 22 = .ok (.ifCond .ne 10, 3) := by decide +kernel
theorem dX5_extreme_25 : decode cX5_extreme 25 = .ok (.iload_n 2, 1) := by decide +kernel
theorem dX5_extreme_26 : decode cX5_extreme 26 = .ok (.ifCond .ne 6, 3) := by decide +kernel
theorem dX5_extreme_29 : decode cX5_extreme 29 = .ok (.bipush (-5), 2) := by decide +kernel
theorem dX5_extreme_31 : decode cX5_extreme 31 = .ok (.ireturn, 1) := by decide +kernel
theorem dX5_extreme_32 : decode cX5_extreme 32 = .ok (.aload_n 0, 1) := by decide +kernel
theorem dX5_extreme_33 : decode cX5_extreme 33 = .ok (.invokevirtual 127, 3) := by decide +kernel
theorem dX5_extreme_36 : decode cX5_extreme 36 = .ok (.aload_n 0, 1) := by decide +kernel
theorem dX5_extreme_37 : decode cX5_extreme 37 = .ok (.getfield 10, 3) := by decide +kernel
theorem dX5_extreme_40 : decode cX5_extreme 40 = .ok (.aload_n 0, 1) := by decide +kernel
theorem dX5_extreme_41 : decode cX5_extreme 41 = .ok (.getfield 36, 3) := by decide +kernel
theorem dX5_extreme_44 : decode cX5_extreme 44 = .ok (.aload_n 0, 1) := by decide +kernel
theorem dX5_extreme_45 : decode cX5_extreme 45 = .ok (.getfield 10, 3) := by decide +kernel
theorem dX5_extreme_48 : decode cX5_extreme 48 = .ok (.iload_n 1, 1) := by decide +kernel
theorem dX5_extreme_49 : decode cX5_extreme 49 = .ok (.iload_n 2, 1) := by decide +kernel
theorem dX5_extreme_50 : decode cX5_extreme 50 = .ok (.invokevirtual 134, 3) := by decide +kernel
theorem dX5_extreme_53 : decode cX5_extreme 53 = .ok (.invokevirtual 89, 3) := by decide +kernel
theorem dX5_extreme_56 : decode cX5_extreme 56 = .ok (.ireturn, 1) := by decide +kernel
set_option maxRecDepth 20000 in
theorem ggX5_where_X5_isPlace : GoodIn wsX5_where wsX5_isPlace := goodIn_r _ [6, 7, 8] (by decide +kernel) (by decide +kernel)
set_option maxRecDepth 20000 in
theorem gX5_where_X5_isPlace : GoodIn wsX5_where (va_wsS RX5 48 yX5_isPlace wsX5_isPlace) := goodIn_app (goodIn_of _ (by decide +kernel)) ggX5_where_X5_isPlace
set_option maxRecDepth 20000 in
theorem ggX5_where_X5_gatherRing : GoodIn wsX5_where wsX5_gatherRing := goodIn_r _ [12, 1, 13, 2, 14, 15, 16, 17, 18, 19, 20, 21, 22, 23, 24, 25, 26, 27, 28, 29, 30, 31, 32, 33, 34, 35, 36, 37, 38, 39, 40, 41, 42, 43, 44, 45, 46, 47, 48, 49, 50, 51, 52, 53, 54, 55, 56, 57, 58, 59, 60, 61, 62, 63, 64, 65, 66, 67, 68, 69, 70, 71, 72, 73, 74, 75, 76, 77, 104, 105, 106, 107, 108, 109, 110, 111, 112, 113, 114, 115, 116, 117, 118] (by decide +kernel) (by decide +kernel)
set_option maxRecDepth 20000 in
theorem gX5_where_X5_gatherRing : GoodIn wsX5_where (wsV RX5 127 RX5 yX5_gatherRing wsX5_gatherRing) := goodIn_app (goodIn_of _ (by decide +kernel)) ggX5_where_X5_gatherRing
set_option maxRecDepth 20000 in
theorem ggX5_where_X4_locate : GoodIn wsX5_where wsX4_locate := goodIn_r _ [81, 20, 21, 82, 83, 84, 85, 86, 18, 87, 88, 89, 90, 44, 91, 46, 47, 92, 42, 43, 45, 93, 94, 95, 96, 97, 98, 99, 100, 101, 102, 103, 115, 116, 117, 118, 111, 112, 113, 114] (by decide +kernel) (by decide +kernel)
set_option maxRecDepth 20000 in
theorem gX5_where_X4_locate : GoodIn wsX5_where (wsV RX5 138 RX4 yX4_locate wsX4_locate) := goodIn_app (goodIn_of _ (by decide +kernel)) ggX5_where_X4_locate
theorem dX5_where_0 : decode cX5_where 0 = .ok (.iload_n 1, 1) := by decide +kernel
theorem dX5_where_1 : decode cX5_where 1 = .ok (.iload_n 2, 1) := by decide +kernel
theorem dX5_where_2 : decode cX5_where 2 = .ok (.invokestatic 48, 3) := by decide +kernel
theorem dX5_where_5 : decode cX5_where 5 = .ok (.ifCond .ne 6, 3) := by decide +kernel
theorem dX5_where_8 : decode cX5_where 8 = .ok (.bipush (-2), 2) := by decide +kernel
theorem dX5_where_10 : decode cX5_where 10 = .ok (.ireturn, 1) := by decide +kernel
theorem dX5_where_11 : decode cX5_where 11 = .ok (.aload_n 0, 1) := by decide +kernel
theorem dX5_where_12 : decode cX5_where 12 = .ok (.invokevirtual 127, 3) := by decide +kernel
theorem dX5_where_15 : decode cX5_where 15 = .ok (.aload_n 0, 1) := by decide +kernel
theorem dX5_where_16 : decode cX5_where 16 = .ok (.getfield 36, 3) := by decide +kernel
theorem dX5_where_19 : decode cX5_where 19 = .ok (.aload_n 0, 1) := by decide +kernel
theorem dX5_where_20 : decode cX5_where 20 = .ok (.getfield 10, 3) := by decide +kernel
theorem dX5_where_23 : decode cX5_where 23 = .ok (.iload_n 1, 1) := by decide +kernel
theorem dX5_where_24 : decode cX5_where 24 = .ok (.iload_n 2, 1) := by decide +kernel
theorem dX5_where_25 : decode cX5_where 25 = .ok (.invokevirtual 138, 3) := by decide +kernel
theorem dX5_where_28 : decode cX5_where 28 = .ok (.ireturn, 1) := by decide +kernel
set_option maxRecDepth 20000 in
theorem ggX5_touch_X5_isPlace : GoodIn wsX5_touch wsX5_isPlace := goodIn_r _ [7, 8, 9] (by decide +kernel) (by decide +kernel)
set_option maxRecDepth 20000 in
theorem gX5_touch_X5_isPlace : GoodIn wsX5_touch (va_wsS RX5 48 yX5_isPlace wsX5_isPlace) := goodIn_app (goodIn_of _ (by decide +kernel)) ggX5_touch_X5_isPlace
set_option maxRecDepth 20000 in
theorem ggX5_touch_X5_isSide : GoodIn wsX5_touch wsX5_isSide := goodIn_r _ [12] (by decide +kernel) (by decide +kernel)
set_option maxRecDepth 20000 in
theorem gX5_touch_X5_isSide : GoodIn wsX5_touch (va_wsS RX5 108 yX5_isSide wsX5_isSide) := goodIn_app (goodIn_of _ (by decide +kernel)) ggX5_touch_X5_isSide
set_option maxRecDepth 20000 in
theorem ggX5_touch_X5_gatherRing : GoodIn wsX5_touch wsX5_gatherRing := goodIn_r _ [16, 3, 17, 1, 2, 18, 19, 20, 21, 22, 23, 24, 25, 26, 27, 28, 29, 30, 31, 32, 33, 34, 35, 36, 37, 38, 39, 40, 41, 42, 43, 44, 45, 46, 47, 48, 49, 50, 51, 52, 53, 54, 55, 56, 57, 58, 59, 60, 61, 62, 63, 64, 65, 66, 67, 68, 69, 70, 71, 72, 73, 74, 75, 76, 77, 78, 79, 80, 128, 129, 130, 131, 132, 133, 134, 135, 136, 137, 138, 139, 140, 141, 142] (by decide +kernel) (by decide +kernel)
set_option maxRecDepth 20000 in
theorem gX5_touch_X5_gatherRing : GoodIn wsX5_touch (wsV RX5 127 RX5 yX5_gatherRing wsX5_gatherRing) := goodIn_app (goodIn_of _ (by decide +kernel)) ggX5_touch_X5_gatherRing
set_option maxRecDepth 20000 in
theorem ggX5_touch_X4_locate : GoodIn wsX5_touch wsX4_locate := goodIn_r _ [84, 23, 24, 85, 86, 87, 88, 89, 21, 90, 91, 92, 93, 47, 94, 49, 50, 95, 45, 46, 48, 96, 97, 98, 99, 100, 101, 102, 103, 104, 105, 106, 139, 140, 141, 142, 135, 136, 137, 138] (by decide +kernel) (by decide +kernel)
set_option maxRecDepth 20000 in
theorem gX5_touch_X4_locate : GoodIn wsX5_touch (wsV RX5 138 RX4 yX4_locate wsX4_locate) := goodIn_app (goodIn_of _ (by decide +kernel)) ggX5_touch_X4_locate
set_option maxRecDepth 20000 in
theorem ggX5_touch_X4_nearestTouching : GoodIn wsX5_touch wsX4_nearestTouching := goodIn_r _ [110, 23, 24, 85, 86, 111, 112, 113, 21, 114, 95, 45, 46, 47, 48, 49, 50, 115, 116, 117, 118, 119, 120, 121, 139, 140, 141, 142, 135, 136, 137, 138] (by decide +kernel) (by decide +kernel)
set_option maxRecDepth 20000 in
theorem gX5_touch_X4_nearestTouching : GoodIn wsX5_touch (wsV RX5 141 RX4 yX4_nearestTouching wsX4_nearestTouching) := goodIn_app (goodIn_of _ (by decide +kernel)) ggX5_touch_X4_nearestTouching
set_option maxRecDepth 20000 in
theorem ggX5_touch_X3_idAt : GoodIn wsX5_touch wsX3_idAt := goodIn_r _ [125, 126, 127, 135, 136, 137, 138] (by decide +kernel) (by decide +kernel)
set_option maxRecDepth 20000 in
theorem gX5_touch_X3_idAt : GoodIn wsX5_touch (wsV RX5 89 RX3 yX3_idAt wsX3_idAt) := goodIn_app (goodIn_of _ (by decide +kernel)) ggX5_touch_X3_idAt
theorem dX5_touch_0 : decode cX5_touch 0 = .ok (.iload_n 1, 1) := by decide +kernel
theorem dX5_touch_1 : decode cX5_touch 1 = .ok (.iload_n 2, 1) := by decide +kernel
theorem dX5_touch_2 : decode cX5_touch 2 = .ok (.invokestatic 48, 3) := by decide +kernel
theorem dX5_touch_5 : decode cX5_touch 5 = .ok (.ifCond .eq 10, 3) := by decide +kernel
theorem dX5_touch_8 : decode cX5_touch 8 = .ok (.iload_n 3, 1) := by decide +kernel
theorem dX5_touch_9 : decode cX5_touch 9 = .ok (.invokestatic 108, 3) := by decide +kernel
theorem dX5_touch_12 : decode cX5_touch 12 = .ok (.ifCond .ne 6, 3) := by decide +kernel
theorem dX5_touch_15 : decode cX5_touch 15 = .ok (.bipush (-2), 2) := by decide +kernel
theorem dX5_touch_17 : decode cX5_touch 17 = .ok (.ireturn, 1) := by decide +kernel
theorem dX5_touch_18 : decode cX5_touch 18 = .ok (.aload_n 0, 1) := by decide +kernel
theorem dX5_touch_19 : decode cX5_touch 19 = .ok (.getfield 10, 3) := by decide +kernel
theorem dX5_touch_22 : decode cX5_touch 22 = .ok (.getfield 63, 3) := by decide +kernel
theorem dX5_touch_25 : decode cX5_touch 25 = .ok (.ifCond .ne 6, 3) := by decide +kernel
theorem dX5_touch_28 : decode cX5_touch 28 = .ok (.bipush (-5), 2) := by decide +kernel
theorem dX5_touch_30 : decode cX5_touch 30 = .ok (.ireturn, 1) := by decide +kernel
theorem dX5_touch_31 : decode cX5_touch 31 = .ok (.aload_n 0, 1) := by decide +kernel
theorem dX5_touch_32 : decode cX5_touch 32 = .ok (.invokevirtual 127, 3) := by decide +kernel
theorem dX5_touch_35 : decode cX5_touch 35 = .ok (.aload_n 0, 1) := by decide +kernel
theorem dX5_touch_36 : decode cX5_touch 36 = .ok (.getfield 36, 3) := by decide +kernel
theorem dX5_touch_39 : decode cX5_touch 39 = .ok (.aload_n 0, 1) := by decide +kernel
theorem dX5_touch_40 : decode cX5_touch 40 = .ok (.getfield 10, 3) := by decide +kernel
theorem dX5_touch_43 : decode cX5_touch 43 = .ok (.iload_n 1, 1) := by decide +kernel
theorem dX5_touch_44 : decode cX5_touch 44 = .ok (.iload_n 2, 1) := by decide +kernel
theorem dX5_touch_45 : decode cX5_touch 45 = .ok (.invokevirtual 138, 3) := by decide +kernel
theorem dX5_touch_48 : decode cX5_touch 48 = .ok (.ifCond .eq 6, 3) := by decide +kernel
theorem dX5_touch_51 : decode cX5_touch 51 = .ok (.bipush (-3), 2) := by decide +kernel
theorem dX5_touch_53 : decode cX5_touch 53 = .ok (.ireturn, 1) := by decide +kernel
theorem dX5_touch_54 : decode cX5_touch 54 = .ok (.aload_n 0, 1) := by decide +kernel
theorem dX5_touch_55 : decode cX5_touch 55 = .ok (.getfield 10, 3) := by decide +kernel
theorem dX5_touch_58 : decode cX5_touch 58 = .ok (.aload_n 0, 1) := by decide +kernel
theorem dX5_touch_59 : decode cX5_touch 59 = .ok (.getfield 36, 3) := by decide +kernel
theorem dX5_touch_62 : decode cX5_touch 62 = .ok (.aload_n 0, 1) := by decide +kernel
theorem dX5_touch_63 : decode cX5_touch 63 = .ok (.getfield 10, 3) := by decide +kernel
theorem dX5_touch_66 : decode cX5_touch 66 = .ok (.iload_n 1, 1) := by decide +kernel
theorem dX5_touch_67 : decode cX5_touch 67 = .ok (.iload_n 2, 1) := by decide +kernel
theorem dX5_touch_68 : decode cX5_touch 68 = .ok (.iload_n 3, 1) := by decide +kernel
theorem dX5_touch_69 : decode cX5_touch 69 = .ok (.invokevirtual 141, 3) := by decide +kernel
theorem dX5_touch_72 : decode cX5_touch 72 = .ok (.invokevirtual 89, 3) := by decide +kernel
theorem dX5_touch_75 : decode cX5_touch 75 = .ok (.ireturn, 1) := by decide +kernel
set_option maxRecDepth 20000 in
theorem ggX5_area_X5_gatherRing : GoodIn wsX5_area wsX5_gatherRing := goodIn_r _ [7, 1, 8, 2, 9, 10, 11, 12, 13, 14, 15, 16, 17, 18, 19, 20, 21, 22, 23, 24, 25, 26, 27, 28, 29, 30, 31, 32, 33, 34, 35, 36, 37, 38, 39, 40, 41, 42, 43, 44, 45, 46, 47, 48, 49, 50, 51, 52, 53, 54, 55, 56, 57, 58, 59, 60, 61, 62, 63, 64, 65, 66, 67, 68, 69, 70, 71, 72, 82, 83, 84, 85, 86, 87, 88, 89, 90, 91, 92, 93, 94, 95, 96] (by decide +kernel) (by decide +kernel)
set_option maxRecDepth 20000 in
theorem gX5_area_X5_gatherRing : GoodIn wsX5_area (wsV RX5 127 RX5 yX5_gatherRing wsX5_gatherRing) := goodIn_app (goodIn_of _ (by decide +kernel)) ggX5_area_X5_gatherRing
set_option maxRecDepth 20000 in
theorem ggX5_area_X4_doubleArea : GoodIn wsX5_area wsX4_doubleArea := goodIn_r _ [76, 15, 16, 77, 78, 79, 80, 81, 37, 38, 39, 40, 41, 42, 93, 94, 95, 96, 89, 90, 91, 92] (by decide +kernel) (by decide +kernel)
set_option maxRecDepth 20000 in
theorem gX5_area_X4_doubleArea : GoodIn wsX5_area (wsV RX5 145 RX4 yX4_doubleArea wsX4_doubleArea) := goodIn_app (goodIn_of _ (by decide +kernel)) ggX5_area_X4_doubleArea
theorem dX5_area_0 : decode cX5_area 0 = .ok (.aload_n 0, 1) := by decide +kernel
theorem dX5_area_1 : decode cX5_area 1 = .ok (.invokevirtual 127, 3) := by decide +kernel
theorem dX5_area_4 : decode cX5_area 4 = .ok (.aload_n 0, 1) := by decide +kernel
theorem dX5_area_5 : decode cX5_area 5 = .ok (.getfield 36, 3) := by decide +kernel
theorem dX5_area_8 : decode cX5_area 8 = .ok (.aload_n 0, 1) := by decide +kernel
theorem dX5_area_9 : decode cX5_area 9 = .ok (.getfield 10, 3) := by decide +kernel
theorem dX5_area_12 : decode cX5_area 12 = .ok (.invokevirtual 145, 3) := by decide +kernel
theorem dX5_area_15 : decode cX5_area 15 = .ok (.lreturn, 1) := by decide +kernel
set_option maxRecDepth 20000 in
theorem ggX5_image_X5_isImage : GoodIn wsX5_image wsX5_isImage := goodIn_r _ [7] (by decide +kernel) (by decide +kernel)
set_option maxRecDepth 20000 in
theorem gX5_image_X5_isImage : GoodIn wsX5_image (va_wsS RX5 149 yX5_isImage wsX5_isImage) := goodIn_app (goodIn_of _ (by decide +kernel)) ggX5_image_X5_isImage
set_option maxRecDepth 20000 in
theorem ggX5_image_X3_copyFrom : GoodIn wsX5_image wsX3_copyFrom := goodIn_r _ [12, 13, 14, 15, 16, 17, 18, 19, 11, 20, 28, 29, 30, 31] (by decide +kernel) (by decide +kernel)
set_option maxRecDepth 20000 in
theorem gX5_image_X3_copyFrom : GoodIn wsX5_image (wsV RX5 152 RX3 yX3_copyFrom wsX3_copyFrom) := goodIn_app (goodIn_of _ (by decide +kernel)) ggX5_image_X3_copyFrom
theorem dX5_image_0 : decode cX5_image 0 = .ok (.iload_n 1, 1) := by decide +kernel
theorem dX5_image_1 : decode cX5_image 1 = .ok (.invokestatic 149, 3) := by decide +kernel
theorem dX5_image_4 : decode cX5_image 4 = .ok (.ifCond .ne 6, 3) := by decide +kernel
theorem dX5_image_7 : decode cX5_image 7 = .ok (.bipush (-2), 2) := by decide +kernel
theorem dX5_image_9 : decode cX5_image 9 = .ok (.ireturn, 1) := by decide +kernel
theorem dX5_image_10 : decode cX5_image 10 = .ok (.aload_n 0, 1) := by decide +kernel
theorem dX5_image_11 : decode cX5_image 11 = .ok (.getfield 40, 3) := by decide +kernel
theorem dX5_image_14 : decode cX5_image 14 = .ok (.iload_n 1, 1) := by decide +kernel
theorem dX5_image_15 : decode cX5_image 15 = .ok (.aaload, 1) := by decide +kernel
theorem dX5_image_16 : decode cX5_image 16 = .ok (.aload_n 0, 1) := by decide +kernel
theorem dX5_image_17 : decode cX5_image 17 = .ok (.getfield 10, 3) := by decide +kernel
theorem dX5_image_20 : decode cX5_image 20 = .ok (.invokevirtual 152, 3) := by decide +kernel
theorem dX5_image_23 : decode cX5_image 23 = .ok (.aload_n 0, 1) := by decide +kernel
theorem dX5_image_24 : decode cX5_image 24 = .ok (.getfield 44, 3) := by decide +kernel
theorem dX5_image_27 : decode cX5_image 27 = .ok (.iload_n 1, 1) := by decide +kernel
theorem dX5_image_28 : decode cX5_image 28 = .ok (.iconst 1, 1) := by decide +kernel
theorem dX5_image_29 : decode cX5_image 29 = .ok (.bastore, 1) := by decide +kernel
theorem dX5_image_30 : decode cX5_image 30 = .ok (.iconst 1, 1) := by decide +kernel
theorem dX5_image_31 : decode cX5_image 31 = .ok (.ireturn, 1) := by decide +kernel
set_option maxRecDepth 20000 in
theorem ggX5_restore_X5_isImage : GoodIn wsX5_restore wsX5_isImage := goodIn_r _ [9] (by decide +kernel) (by decide +kernel)
set_option maxRecDepth 20000 in
theorem gX5_restore_X5_isImage : GoodIn wsX5_restore (va_wsS RX5 149 yX5_isImage wsX5_isImage) := goodIn_app (goodIn_of _ (by decide +kernel)) ggX5_restore_X5_isImage
set_option maxRecDepth 20000 in
theorem ggX5_restore_X3_copyFrom : GoodIn wsX5_restore wsX3_copyFrom := goodIn_r _ [14, 15, 16, 17, 18, 19, 20, 21, 13, 22, 41, 42, 43, 44] (by decide +kernel) (by decide +kernel)
set_option maxRecDepth 20000 in
theorem gX5_restore_X3_copyFrom : GoodIn wsX5_restore (wsV RX5 152 RX3 yX3_copyFrom wsX3_copyFrom) := goodIn_app (goodIn_of _ (by decide +kernel)) ggX5_restore_X3_copyFrom
set_option maxRecDepth 20000 in
theorem ggX5_restore_X2_split : GoodIn wsX5_restore wsX2_split := goodIn_r _ [27, 28, 29, 30, 31, 32, 26, 33, 45, 46] (by decide +kernel) (by decide +kernel)
set_option maxRecDepth 20000 in
theorem gX5_restore_X2_split : GoodIn wsX5_restore (wsV RX5 67 RX2 yX2_split wsX2_split) := goodIn_app (goodIn_of _ (by decide +kernel)) ggX5_restore_X2_split
theorem dX5_restore_0 : decode cX5_restore 0 = .ok (.iload_n 1, 1) := by decide +kernel
theorem dX5_restore_1 : decode cX5_restore 1 = .ok (.invokestatic 149, 3) := by decide +kernel
theorem dX5_restore_4 : decode cX5_restore 4 = .ok (.ifCond .ne 6, 3) := by decide +kernel
theorem dX5_restore_7 : decode cX5_restore 7 = .ok (.bipush (-2), 2) := by decide +kernel
theorem dX5_restore_9 : decode cX5_restore 9 = .ok (.ireturn, 1) := by decide +kernel
theorem dX5_restore_10 : decode cX5_restore 10 = .ok (.aload_n 0, 1) := by decide +kernel
theorem dX5_restore_11 : decode cX5_restore 11 = .ok (.getfield 44, 3) := by decide +kernel
theorem dX5_restore_14 : decode cX5_restore 14 = .ok (.iload_n 1, 1) := by decide +kernel
theorem dX5_restore_15 : decode cX5_restore 15 = .ok (.baload, 1) := by decide +kernel
theorem dX5_restore_16 : decode cX5_restore 16 = .ok (.ifCond .ne 6, 3) := by decide +kernel
theorem dX5_restore_19 : decode cX5_restore 19 = .ok (.bipush (-3), 2) := by decide +kernel
theorem dX5_restore_21 : decode cX5_restore 21 = .ok (.ireturn, 1) := by decide +kernel
theorem dX5_restore_22 : decode cX5_restore 22 = .ok (.aload_n 0, 1) := by decide +kernel
theorem dX5_restore_23 : decode cX5_restore 23 = .ok (.getfield 10, 3) := by decide +kernel
theorem dX5_restore_26 : decode cX5_restore 26 = .ok (.aload_n 0, 1) := by decide +kernel
theorem dX5_restore_27 : decode cX5_restore 27 = .ok (.getfield 40, 3) := by decide +kernel
theorem dX5_restore_30 : decode cX5_restore 30 = .ok (.iload_n 1, 1) := by decide +kernel
theorem dX5_restore_31 : decode cX5_restore 31 = .ok (.aaload, 1) := by decide +kernel
theorem dX5_restore_32 : decode cX5_restore 32 = .ok (.invokevirtual 152, 3) := by decide +kernel
theorem dX5_restore_35 : decode cX5_restore 35 = .ok (.aload_n 0, 1) := by decide +kernel
theorem dX5_restore_36 : decode cX5_restore 36 = .ok (.getfield 19, 3) := by decide +kernel
theorem dX5_restore_39 : decode cX5_restore 39 = .ok (.aload_n 0, 1) := by decide +kernel
theorem dX5_restore_40 : decode cX5_restore 40 = .ok (.getfield 10, 3) := by decide +kernel
theorem dX5_restore_43 : decode cX5_restore 43 = .ok (.getfield 63, 3) := by decide +kernel
theorem dX5_restore_46 : decode cX5_restore 46 = .ok (.invokevirtual 67, 3) := by decide +kernel
theorem dX5_restore_49 : decode cX5_restore 49 = .ok (.iconst 1, 1) := by decide +kernel
theorem dX5_restore_50 : decode cX5_restore 50 = .ok (.ireturn, 1) := by decide +kernel
set_option maxRecDepth 20000 in
theorem ggX5_told_X2_howMany : GoodIn wsX5_told wsX2_howMany := goodIn_r _ [8, 9, 10, 11, 7, 12, 13, 99, 100] (by decide +kernel) (by decide +kernel)
set_option maxRecDepth 20000 in
theorem gX5_told_X2_howMany : GoodIn wsX5_told (wsV RX5 156 RX2 yX2_howMany wsX2_howMany) := goodIn_app (goodIn_of _ (by decide +kernel)) ggX5_told_X2_howMany
set_option maxRecDepth 20000 in
theorem ggX5_told_X5_cornersOfAll : GoodIn wsX5_told wsX5_cornersOfAll := goodIn_r _ [18, 3, 19, 10, 11, 7, 12, 13, 20, 21, 22, 17, 23, 24, 25, 26, 27, 28, 29, 30, 1, 31, 32, 33, 34, 35, 36, 37, 38, 39, 40, 41, 42, 43, 44, 45, 46, 47, 48, 49, 50, 51, 52, 53, 54, 55, 56, 57, 58, 59, 60, 61, 62, 63, 64, 65, 88, 89, 90, 91, 92, 93, 94, 99, 100, 101, 102, 103, 104, 95, 96, 97, 98] (by decide +kernel) (by decide +kernel)
set_option maxRecDepth 20000 in
theorem gX5_told_X5_cornersOfAll : GoodIn wsX5_told (wsV RX5 159 RX5 yX5_cornersOfAll wsX5_cornersOfAll) := goodIn_app (goodIn_of _ (by decide +kernel)) ggX5_told_X5_cornersOfAll
set_option maxRecDepth 20000 in
theorem ggX5_told_X5_restsOfAll : GoodIn wsX5_told wsX5_restsOfAll := goodIn_r _ [69, 3, 19, 10, 11, 7, 12, 13, 70, 71, 72, 17, 73, 24, 74, 25, 26, 75, 45, 27, 28, 29, 30, 1, 31, 32, 33, 34, 35, 36, 37, 38, 39, 40, 41, 42, 43, 44, 46, 47, 48, 49, 50, 51, 52, 53, 54, 55, 56, 57, 58, 59, 60, 61, 62, 63, 64, 65, 76, 77, 78, 79, 80, 88, 89, 90, 91, 92, 93, 94, 99, 100, 101, 102, 103, 104, 95, 96, 97, 98] (by decide +kernel) (by decide +kernel)
set_option maxRecDepth 20000 in
theorem gX5_told_X5_restsOfAll : GoodIn wsX5_told (wsV RX5 162 RX5 yX5_restsOfAll wsX5_restsOfAll) := goodIn_app (goodIn_of _ (by decide +kernel)) ggX5_told_X5_restsOfAll
set_option maxRecDepth 20000 in
theorem ggX5_told_X2_greatestDepth : GoodIn wsX5_told wsX2_greatestDepth := goodIn_r _ [84, 9, 10, 11, 7, 12, 13, 85, 86, 87, 99, 100] (by decide +kernel) (by decide +kernel)
set_option maxRecDepth 20000 in
theorem gX5_told_X2_greatestDepth : GoodIn wsX5_told (wsV RX5 165 RX2 yX2_greatestDepth wsX2_greatestDepth) := goodIn_app (goodIn_of _ (by decide +kernel)) ggX5_told_X2_greatestDepth
theorem dX5_told_0 : decode cX5_told 0 = .ok (.iload_n 1, 1) := by decide +kernel
theorem dX5_told_1 : decode cX5_told 1 = .ok (.tableswitch 69 0 4 #[35, 43, 51, 56, 61], 35) := by decide +kernel
theorem dX5_told_36 : decode cX5_told 36 = .ok (.aload_n 0, 1) := by decide +kernel
theorem dX5_told_37 : decode cX5_told 37 = .ok (.getfield 10, 3) := by decide +kernel
theorem dX5_told_40 : decode cX5_told 40 = .ok (.getfield 63, 3) := by decide +kernel
theorem dX5_told_43 : decode cX5_told 43 = .ok (.ireturn, 1) := by decide +kernel
theorem dX5_told_44 : decode cX5_told 44 = .ok (.aload_n 0, 1) := by decide +kernel
theorem dX5_told_45 : decode cX5_told 45 = .ok (.getfield 19, 3) := by decide +kernel
theorem dX5_told_48 : decode cX5_told 48 = .ok (.invokevirtual 156, 3) := by decide +kernel
theorem dX5_told_51 : decode cX5_told 51 = .ok (.ireturn, 1) := by decide +kernel
theorem dX5_told_52 : decode cX5_told 52 = .ok (.aload_n 0, 1) := by decide +kernel
theorem dX5_told_53 : decode cX5_told 53 = .ok (.invokevirtual 159, 3) := by decide +kernel
theorem dX5_told_56 : decode cX5_told 56 = .ok (.ireturn, 1) := by decide +kernel
theorem dX5_told_57 : decode cX5_told 57 = .ok (.aload_n 0, 1) := by decide +kernel
theorem dX5_told_58 : decode cX5_told 58 = .ok (.invokevirtual 162, 3) := by decide +kernel
theorem dX5_told_61 : decode cX5_told 61 = .ok (.ireturn, 1) := by decide +kernel
theorem dX5_told_62 : decode cX5_told 62 = .ok (.aload_n 0, 1) := by decide +kernel
theorem dX5_told_63 : decode cX5_told 63 = .ok (.getfield 19, 3) := by decide +kernel
theorem dX5_told_66 : decode cX5_told 66 = .ok (.invokevirtual 165, 3) := by decide +kernel
theorem dX5_told_69 : decode cX5_told 69 = .ok (.ireturn, 1) := by decide +kernel
theorem dX5_told_70 : decode cX5_told 70 = .ok (.bipush (-2), 2) := by decide +kernel
theorem dX5_told_72 : decode cX5_told 72 = .ok (.ireturn, 1) := by decide +kernel
theorem dX5_isPlace_0 : decode cX5_isPlace 0 = .ok (.iload_n 0, 1) := by decide +kernel
theorem dX5_isPlace_1 : decode cX5_isPlace 1 = .ok (.ldc 168, 2) := by decide +kernel
theorem dX5_isPlace_3 : decode cX5_isPlace 3 = .ok (.if_icmp .lt 25, 3) := by decide +kernel
theorem dX5_isPlace_6 : decode cX5_isPlace 6 = .ok (.iload_n 0, 1) := by decide +kernel
theorem dX5_isPlace_7 : decode cX5_isPlace 7 = .ok (.ldc 169, 2) := by decide +kernel
theorem dX5_isPlace_9 : decode cX5_isPlace 9 = .ok (.if_icmp .gt 19, 3) := by decide +kernel
theorem dX5_isPlace_12 : decode cX5_isPlace 12 = .ok (.iload_n 1, 1) := by decide +kernel
theorem dX5_isPlace_13 : decode cX5_isPlace 13 = .ok (.ldc 168, 2) := by decide +kernel
theorem dX5_isPlace_15 : decode cX5_isPlace 15 = .ok (.if_icmp .lt 13, 3) := by decide +kernel
theorem dX5_isPlace_18 : decode cX5_isPlace 18 = .ok (.iload_n 1, 1) := by decide +kernel
theorem dX5_isPlace_19 : decode cX5_isPlace 19 = .ok (.ldc 169, 2) := by decide +kernel
theorem dX5_isPlace_21 : decode cX5_isPlace 21 = .ok (.if_icmp .gt 7, 3) := by decide +kernel
theorem dX5_isPlace_24 : decode cX5_isPlace 24 = .ok (.iconst 1, 1) := by decide +kernel
theorem dX5_isPlace_25 : decode cX5_isPlace 25 = .ok (.goto 4, 3) := by decide +kernel
theorem dX5_isPlace_28 : decode cX5_isPlace 28 = .ok (.iconst 0, 1) := by decide +kernel
theorem dX5_isPlace_29 : decode cX5_isPlace 29 = .ok (.ireturn, 1) := by decide +kernel
theorem dX5_isSide_0 : decode cX5_isSide 0 = .ok (.iload_n 0, 1) := by decide +kernel
theorem dX5_isSide_1 : decode cX5_isSide 1 = .ok (.ifCond .eq 8, 3) := by decide +kernel
theorem dX5_isSide_4 : decode cX5_isSide 4 = .ok (.iload_n 0, 1) := by decide +kernel
theorem dX5_isSide_5 : decode cX5_isSide 5 = .ok (.iconst 1, 1) := by decide +kernel
theorem dX5_isSide_6 : decode cX5_isSide 6 = .ok (.if_icmp .ne 7, 3) := by decide +kernel
theorem dX5_isSide_9 : decode cX5_isSide 9 = .ok (.iconst 1, 1) := by decide +kernel
theorem dX5_isSide_10 : decode cX5_isSide 10 = .ok (.goto 4, 3) := by decide +kernel
theorem dX5_isSide_13 : decode cX5_isSide 13 = .ok (.iconst 0, 1) := by decide +kernel
theorem dX5_isSide_14 : decode cX5_isSide 14 = .ok (.ireturn, 1) := by decide +kernel
theorem dX5_isImage_0 : decode cX5_isImage 0 = .ok (.iload_n 0, 1) := by decide +kernel
theorem dX5_isImage_1 : decode cX5_isImage 1 = .ok (.ifCond .lt 12, 3) := by decide +kernel
theorem dX5_isImage_4 : decode cX5_isImage 4 = .ok (.iload_n 0, 1) := by decide +kernel
theorem dX5_isImage_5 : decode cX5_isImage 5 = .ok (.iconst 2, 1) := by decide +kernel
theorem dX5_isImage_6 : decode cX5_isImage 6 = .ok (.if_icmp .ge 7, 3) := by decide +kernel
theorem dX5_isImage_9 : decode cX5_isImage 9 = .ok (.iconst 1, 1) := by decide +kernel
theorem dX5_isImage_10 : decode cX5_isImage 10 = .ok (.goto 4, 3) := by decide +kernel
theorem dX5_isImage_13 : decode cX5_isImage 13 = .ok (.iconst 0, 1) := by decide +kernel
theorem dX5_isImage_14 : decode cX5_isImage 14 = .ok (.ireturn, 1) := by decide +kernel
set_option maxRecDepth 20000 in
theorem ggX5_trace_X0_trace : GoodIn wsX5_trace wsX0_trace := goodIn_r _ [9, 10, 11, 12, 13, 14, 8, 15, 16, 17, 18, 19, 20, 21, 22, 23, 24, 25, 26, 27, 28, 29, 30, 31, 32, 33, 34, 35, 36, 37, 38, 48, 49, 50, 51, 52, 53, 54, 55] (by decide +kernel) (by decide +kernel)
set_option maxRecDepth 20000 in
theorem gX5_trace_X0_trace : GoodIn wsX5_trace (wsV RX5 170 RX0 yX0_trace wsX0_trace) := goodIn_app (goodIn_of _ (by decide +kernel)) ggX5_trace_X0_trace
theorem dX5_trace_0 : decode cX5_trace 0 = .ok (.aload_n 1, 1) := by decide +kernel
theorem dX5_trace_1 : decode cX5_trace 1 = .ok (.aload_n 0, 1) := by decide +kernel
theorem dX5_trace_2 : decode cX5_trace 2 = .ok (.getfield 10, 3) := by decide +kernel
theorem dX5_trace_5 : decode cX5_trace 5 = .ok (.aload_n 0, 1) := by decide +kernel
theorem dX5_trace_6 : decode cX5_trace 6 = .ok (.getfield 19, 3) := by decide +kernel
theorem dX5_trace_9 : decode cX5_trace 9 = .ok (.getfield 99, 3) := by decide +kernel
theorem dX5_trace_12 : decode cX5_trace 12 = .ok (.iload_n 2, 1) := by decide +kernel
theorem dX5_trace_13 : decode cX5_trace 13 = .ok (.iaload, 1) := by decide +kernel
theorem dX5_trace_14 : decode cX5_trace 14 = .ok (.aload_n 0, 1) := by decide +kernel
theorem dX5_trace_15 : decode cX5_trace 15 = .ok (.getfield 19, 3) := by decide +kernel
theorem dX5_trace_18 : decode cX5_trace 18 = .ok (.getfield 96, 3) := by decide +kernel
theorem dX5_trace_21 : decode cX5_trace 21 = .ok (.iload_n 2, 1) := by decide +kernel
theorem dX5_trace_22 : decode cX5_trace 22 = .ok (.iaload, 1) := by decide +kernel
theorem dX5_trace_23 : decode cX5_trace 23 = .ok (.iload_n 3, 1) := by decide +kernel
theorem dX5_trace_24 : decode cX5_trace 24 = .ok (.invokevirtual 170, 3) := by decide +kernel
theorem dX5_trace_27 : decode cX5_trace 27 = .ok (.return_, 1) := by decide +kernel
set_option maxRecDepth 20000 in
theorem ggX5_cornersOf_X5_trace : GoodIn wsX5_cornersOf wsX5_trace := goodIn_r _ [8, 9, 10, 11, 12, 13, 14, 15, 16, 17, 18, 3, 19, 20, 21, 22, 23, 24, 25, 26, 27, 28, 29, 30, 31, 32, 33, 34, 35, 36, 37, 38, 39, 40, 41, 42, 43, 44, 45, 46, 47, 48, 49, 50, 51, 52, 57, 58, 53, 54, 55, 56, 59, 60, 61, 62] (by decide +kernel) (by decide +kernel)
set_option maxRecDepth 20000 in
theorem gX5_cornersOf_X5_trace : GoodIn wsX5_cornersOf (wsV RX5 111 RX5 yX5_trace wsX5_trace) := goodIn_app (goodIn_of _ (by decide +kernel)) ggX5_cornersOf_X5_trace
theorem dX5_cornersOf_0 : decode cX5_cornersOf 0 = .ok (.aload_n 0, 1) := by decide +kernel
theorem dX5_cornersOf_1 : decode cX5_cornersOf 1 = .ok (.aload_n 0, 1) := by decide +kernel
theorem dX5_cornersOf_2 : decode cX5_cornersOf 2 = .ok (.getfield 26, 3) := by decide +kernel
theorem dX5_cornersOf_5 : decode cX5_cornersOf 5 = .ok (.iload_n 1, 1) := by decide +kernel
theorem dX5_cornersOf_6 : decode cX5_cornersOf 6 = .ok (.iload_n 2, 1) := by decide +kernel
theorem dX5_cornersOf_7 : decode cX5_cornersOf 7 = .ok (.invokevirtual 111, 3) := by decide +kernel
theorem dX5_cornersOf_10 : decode cX5_cornersOf 10 = .ok (.aload_n 0, 1) := by decide +kernel
theorem dX5_cornersOf_11 : decode cX5_cornersOf 11 = .ok (.getfield 26, 3) := by decide +kernel
theorem dX5_cornersOf_14 : decode cX5_cornersOf 14 = .ok (.getfield 173, 3) := by decide +kernel
theorem dX5_cornersOf_17 : decode cX5_cornersOf 17 = .ok (.ireturn, 1) := by decide +kernel
set_option maxRecDepth 20000 in
theorem ggX5_restOf_X5_trace : GoodIn wsX5_restOf wsX5_trace := goodIn_r _ [11, 12, 13, 14, 15, 16, 17, 18, 19, 20, 21, 4, 22, 23, 24, 25, 26, 27, 6, 28, 29, 30, 31, 32, 33, 34, 35, 36, 37, 38, 39, 40, 41, 42, 43, 44, 45, 46, 47, 53, 54, 55, 56, 57, 58, 59, 64, 65, 60, 61, 62, 63, 66, 67, 68, 69] (by decide +kernel) (by decide +kernel)
set_option maxRecDepth 20000 in
theorem gX5_restOf_X5_trace : GoodIn wsX5_restOf (wsV RX5 111 RX5 yX5_trace wsX5_trace) := goodIn_app (goodIn_of _ (by decide +kernel)) ggX5_restOf_X5_trace
set_option maxRecDepth 20000 in
theorem ggX5_restOf_X1_has : GoodIn wsX5_restOf wsX1_has := goodIn_r _ [52, 46, 47, 60, 61, 62, 63] (by decide +kernel) (by decide +kernel)
set_option maxRecDepth 20000 in
theorem gX5_restOf_X1_has_u177X0 : GoodIn wsX5_restOf (va_wsU RX5 177 RX0 "LiveHull$Corners" ⟨"LiveHull$Chain", "has", "(I)Z"⟩ yX1_has wsX1_has) := goodIn_app (goodIn_of _ (by decide +kernel)) ggX5_restOf_X1_has
theorem dX5_restOf_0 : decode cX5_restOf 0 = .ok (.aload_n 0, 1) := by decide +kernel
theorem dX5_restOf_1 : decode cX5_restOf 1 = .ok (.aload_n 0, 1) := by decide +kernel
theorem dX5_restOf_2 : decode cX5_restOf 2 = .ok (.getfield 26, 3) := by decide +kernel
theorem dX5_restOf_5 : decode cX5_restOf 5 = .ok (.iload_n 1, 1) := by decide +kernel
theorem dX5_restOf_6 : decode cX5_restOf 6 = .ok (.iload_n 2, 1) := by decide +kernel
theorem dX5_restOf_7 : decode cX5_restOf 7 = .ok (.invokevirtual 111, 3) := by decide +kernel
theorem dX5_restOf_10 : decode cX5_restOf 10 = .ok (.aload_n 0, 1) := by decide +kernel
theorem dX5_restOf_11 : decode cX5_restOf 11 = .ok (.aload_n 0, 1) := by decide +kernel
theorem dX5_restOf_12 : decode cX5_restOf 12 = .ok (.getfield 30, 3) := by decide +kernel
theorem dX5_restOf_15 : decode cX5_restOf 15 = .ok (.iload_n 1, 1) := by decide +kernel
theorem dX5_restOf_16 : decode cX5_restOf 16 = .ok (.iconst 2, 1) := by decide +kernel
theorem dX5_restOf_17 : decode cX5_restOf 17 = .ok (.idiv, 1) := by decide +kernel
theorem dX5_restOf_18 : decode cX5_restOf 18 = .ok (.iload_n 2, 1) := by decide +kernel
theorem dX5_restOf_19 : decode cX5_restOf 19 = .ok (.invokevirtual 111, 3) := by decide +kernel
theorem dX5_restOf_22 : decode cX5_restOf 22 = .ok (.iconst 0, 1) := by decide +kernel
theorem dX5_restOf_23 : decode cX5_restOf 23 = .ok (.istore_n 3, 1) := by decide +kernel
theorem dX5_restOf_24 : decode cX5_restOf 24 = .ok (.iconst 0, 1) := by decide +kernel
theorem dX5_restOf_25 : decode cX5_restOf 25 = .ok (.istore 4, 2) := by decide +kernel
theorem dX5_restOf_27 : decode cX5_restOf 27 = .ok (.iload 4, 2) := by decide +kernel
theorem dX5_restOf_29 : decode cX5_restOf 29 = .ok (.aload_n 0, 1) := by decide +kernel
theorem dX5_restOf_30 : decode cX5_restOf 30 = .ok (.getfield 26, 3) := by decide +kernel
theorem dX5_restOf_33 : decode cX5_restOf 33 = .ok (.getfield 173, 3) := by decide +kernel
theorem dX5_restOf_36 : decode cX5_restOf 36 = .ok (.if_icmp .ge 32, 3) := by decide +kernel
theorem dX5_restOf_39 : decode cX5_restOf 39 = .ok (.aload_n 0, 1) := by decide +kernel
theorem dX5_restOf_40 : decode cX5_restOf 40 = .ok (.getfield 30, 3) := by decide +kernel
theorem dX5_restOf_43 : decode cX5_restOf 43 = .ok (.aload_n 0, 1) := by decide +kernel
theorem dX5_restOf_44 : decode cX5_restOf 44 = .ok (.getfield 26, 3) := by decide +kernel
theorem dX5_restOf_47 : decode cX5_restOf 47 = .ok (.getfield 174, 3) := by decide +kernel
theorem dX5_restOf_50 : decode cX5_restOf 50 = .ok (.iload 4, 2) := by decide +kernel
theorem dX5_restOf_52 : decode cX5_restOf 52 = .ok (.iaload, 1) := by decide +kernel
theorem dX5_restOf_53 : decode cX5_restOf 53 = .ok (.invokevirtual 177, 3) := by decide +kernel
theorem dX5_restOf_56 : decode cX5_restOf 56 = .ok (.ifCond .ne 6, 3) := by decide +kernel
theorem dX5_restOf_59 : decode cX5_restOf 59 = .ok (.iinc 3 1, 3) := by decide +kernel
theorem dX5_restOf_62 : decode cX5_restOf 62 = .ok (.iinc 4 1, 3) := by decide +kernel
theorem dX5_restOf_65 : decode cX5_restOf 65 = .ok (.goto (-38), 3) := by decide +kernel
theorem dX5_restOf_68 : decode cX5_restOf 68 = .ok (.iload_n 3, 1) := by decide +kernel
theorem dX5_restOf_69 : decode cX5_restOf 69 = .ok (.ireturn, 1) := by decide +kernel
set_option maxRecDepth 20000 in
theorem ggX5_topOf_X2_holds : GoodIn wsX5_topOf wsX2_holds := goodIn_r _ [7, 8, 9, 10, 11, 12, 6, 13, 71, 72] (by decide +kernel) (by decide +kernel)
set_option maxRecDepth 20000 in
theorem gX5_topOf_X2_holds : GoodIn wsX5_topOf (wsV RX5 178 RX2 yX2_holds wsX2_holds) := goodIn_app (goodIn_of _ (by decide +kernel)) ggX5_topOf_X2_holds
set_option maxRecDepth 20000 in
theorem ggX5_topOf_X5_trace : GoodIn wsX5_topOf wsX5_trace := goodIn_r _ [18, 19, 1, 20, 21, 22, 23, 24, 25, 26, 27, 28, 29, 30, 31, 32, 33, 34, 35, 36, 37, 38, 39, 40, 41, 42, 43, 44, 45, 46, 47, 48, 49, 50, 51, 52, 53, 54, 55, 64, 65, 66, 67, 68, 69, 70, 71, 72, 73, 74, 75, 76, 77, 78, 79, 80] (by decide +kernel) (by decide +kernel)
set_option maxRecDepth 20000 in
theorem gX5_topOf_X5_trace : GoodIn wsX5_topOf (wsV RX5 111 RX5 yX5_trace wsX5_trace) := goodIn_app (goodIn_of _ (by decide +kernel)) ggX5_topOf_X5_trace
set_option maxRecDepth 20000 in
theorem ggX5_topOf_X1_has : GoodIn wsX5_topOf wsX1_has := goodIn_r _ [60, 54, 55, 73, 74, 75, 76] (by decide +kernel) (by decide +kernel)
set_option maxRecDepth 20000 in
theorem gX5_topOf_X1_has_u177X0 : GoodIn wsX5_topOf (va_wsU RX5 177 RX0 "LiveHull$Corners" ⟨"LiveHull$Chain", "has", "(I)Z"⟩ yX1_has wsX1_has) := goodIn_app (goodIn_of _ (by decide +kernel)) ggX5_topOf_X1_has
set_option maxRecDepth 20000 in
theorem ggX5_topOf_X2_depthOf : GoodIn wsX5_topOf wsX2_depthOf := goodIn_r _ [63] (by decide +kernel) (by decide +kernel)
set_option maxRecDepth 20000 in
theorem gX5_topOf_X2_depthOf : GoodIn wsX5_topOf (va_wsS RX5 181 yX2_depthOf wsX2_depthOf) := goodIn_app (goodIn_of _ (by decide +kernel)) ggX5_topOf_X2_depthOf
theorem dX5_topOf_0 : decode cX5_topOf 0 = .ok (.iconst 1, 1) := by decide +kernel
theorem dX5_topOf_1 : decode cX5_topOf 1 = .ok (.istore_n 3, 1) := by decide +kernel
theorem dX5_topOf_2 : decode cX5_topOf 2 = .ok (.iload_n 3, 1) := by decide +kernel
theorem dX5_topOf_3 : decode cX5_topOf 3 = .ok (.bipush 63, 2) := by decide +kernel
theorem dX5_topOf_5 : decode cX5_topOf 5 = .ok (.if_icmp .gt 47, 3) := by decide +kernel
theorem dX5_topOf_8 : decode cX5_topOf 8 = .ok (.aload_n 0, 1) := by decide +kernel
theorem dX5_topOf_9 : decode cX5_topOf 9 = .ok (.getfield 19, 3) := by decide +kernel
theorem dX5_topOf_12 : decode cX5_topOf 12 = .ok (.iload_n 3, 1) := by decide +kernel
theorem dX5_topOf_13 : decode cX5_topOf 13 = .ok (.iload_n 1, 1) := by decide +kernel
theorem dX5_topOf_14 : decode cX5_topOf 14 = .ok (.invokevirtual 178, 3) := by decide +kernel
theorem dX5_topOf_17 : decode cX5_topOf 17 = .ok (.ifCond .eq 29, 3) := by decide +kernel
theorem dX5_topOf_20 : decode cX5_topOf 20 = .ok (.aload_n 0, 1) := by decide +kernel
theorem dX5_topOf_21 : decode cX5_topOf 21 = .ok (.aload_n 0, 1) := by decide +kernel
theorem dX5_topOf_22 : decode cX5_topOf 22 = .ok (.getfield 26, 3) := by decide +kernel
theorem dX5_topOf_25 : decode cX5_topOf 25 = .ok (.iload_n 3, 1) := by decide +kernel
theorem dX5_topOf_26 : decode cX5_topOf 26 = .ok (.iload_n 2, 1) := by decide +kernel
theorem dX5_topOf_27 : decode cX5_topOf 27 = .ok (.invokevirtual 111, 3) := by decide +kernel
theorem dX5_topOf_30 : decode cX5_topOf 30 = .ok (.aload_n 0, 1) := by decide +kernel
theorem dX5_topOf_31 : decode cX5_topOf 31 = .ok (.getfield 26, 3) := by decide +kernel
theorem dX5_topOf_34 : decode cX5_topOf 34 = .ok (.iload_n 1, 1) := by decide +kernel
theorem dX5_topOf_35 : decode cX5_topOf 35 = .ok (.invokevirtual 177, 3) := by decide +kernel
theorem dX5_topOf_38 : decode cX5_topOf 38 = .ok (.ifCond .eq 8, 3) := by decide +kernel
theorem dX5_topOf_41 : decode cX5_topOf 41 = .ok (.iload_n 3, 1) := by decide +kernel
theorem dX5_topOf_42 : decode cX5_topOf 42 = .ok (.invokestatic 181, 3) := by decide +kernel
theorem dX5_topOf_45 : decode cX5_topOf 45 = .ok (.ireturn, 1) := by decide +kernel
theorem dX5_topOf_46 : decode cX5_topOf 46 = .ok (.iinc 3 1, 3) := by decide +kernel
theorem dX5_topOf_49 : decode cX5_topOf 49 = .ok (.goto (-47), 3) := by decide +kernel
theorem dX5_topOf_52 : decode cX5_topOf 52 = .ok (.bipush (-6), 2) := by decide +kernel
theorem dX5_topOf_54 : decode cX5_topOf 54 = .ok (.ireturn, 1) := by decide +kernel
set_option maxRecDepth 20000 in
theorem ggX5_cornersOfAll_X2_has : GoodIn wsX5_cornersOfAll wsX2_has := goodIn_r _ [6, 7, 63, 64] (by decide +kernel) (by decide +kernel)
set_option maxRecDepth 20000 in
theorem gX5_cornersOfAll_X2_has : GoodIn wsX5_cornersOfAll (wsV RX5 92 RX2 yX2_has wsX2_has) := goodIn_app (goodIn_of _ (by decide +kernel)) ggX5_cornersOfAll_X2_has
set_option maxRecDepth 20000 in
theorem ggX5_cornersOfAll_X5_cornersOf : GoodIn wsX5_cornersOfAll wsX5_cornersOf := goodIn_r _ [12, 13, 14, 15, 16, 17, 18, 11, 19, 20, 1, 21, 22, 23, 24, 25, 26, 27, 28, 29, 30, 31, 32, 33, 34, 35, 36, 37, 38, 39, 40, 41, 42, 43, 44, 45, 46, 47, 48, 49, 50, 51, 52, 53, 54, 55, 56, 57, 58, 59, 60, 61, 62, 65, 66, 67, 68, 63, 64, 69, 70, 71, 72] (by decide +kernel) (by decide +kernel)
set_option maxRecDepth 20000 in
theorem gX5_cornersOfAll_X5_cornersOf : GoodIn wsX5_cornersOfAll (wsV RX5 102 RX5 yX5_cornersOf wsX5_cornersOf) := goodIn_app (goodIn_of _ (by decide +kernel)) ggX5_cornersOfAll_X5_cornersOf
theorem dX5_cornersOfAll_0 : decode cX5_cornersOfAll 0 = .ok (.iconst 0, 1) := by decide +kernel
theorem dX5_cornersOfAll_1 : decode cX5_cornersOfAll 1 = .ok (.istore_n 1, 1) := by decide +kernel
theorem dX5_cornersOfAll_2 : decode cX5_cornersOfAll 2 = .ok (.iconst 1, 1) := by decide +kernel
theorem dX5_cornersOfAll_3 : decode cX5_cornersOfAll 3 = .ok (.istore_n 2, 1) := by decide +kernel
theorem dX5_cornersOfAll_4 : decode cX5_cornersOfAll 4 = .ok (.iload_n 2, 1) := by decide +kernel
theorem dX5_cornersOfAll_5 : decode cX5_cornersOfAll 5 = .ok (.bipush 63, 2) := by decide +kernel
theorem dX5_cornersOfAll_7 : decode cX5_cornersOfAll 7 = .ok (.if_icmp .gt 36, 3) := by decide +kernel
theorem dX5_cornersOfAll_10 : decode cX5_cornersOfAll 10 = .ok (.aload_n 0, 1) := by decide +kernel
theorem dX5_cornersOfAll_11 : decode cX5_cornersOfAll 11 = .ok (.getfield 19, 3) := by decide +kernel
theorem dX5_cornersOfAll_14 : decode cX5_cornersOfAll 14 = .ok (.iload_n 2, 1) := by decide +kernel
theorem dX5_cornersOfAll_15 : decode cX5_cornersOfAll 15 = .ok (.invokevirtual 92, 3) := by decide +kernel
theorem dX5_cornersOfAll_18 : decode cX5_cornersOfAll 18 = .ok (.ifCond .eq 19, 3) := by decide +kernel
theorem dX5_cornersOfAll_21 : decode cX5_cornersOfAll 21 = .ok (.iload_n 1, 1) := by decide +kernel
theorem dX5_cornersOfAll_22 : decode cX5_cornersOfAll 22 = .ok (.aload_n 0, 1) := by decide +kernel
theorem dX5_cornersOfAll_23 : decode cX5_cornersOfAll 23 = .ok (.iload_n 2, 1) := by decide +kernel
theorem dX5_cornersOfAll_24 : decode cX5_cornersOfAll 24 = .ok (.iconst 0, 1) := by decide +kernel
theorem dX5_cornersOfAll_25 : decode cX5_cornersOfAll 25 = .ok (.invokevirtual 102, 3) := by decide +kernel
theorem dX5_cornersOfAll_28 : decode cX5_cornersOfAll 28 = .ok (.aload_n 0, 1) := by decide +kernel
theorem dX5_cornersOfAll_29 : decode cX5_cornersOfAll 29 = .ok (.iload_n 2, 1) := by decide +kernel
theorem dX5_cornersOfAll_30 : decode cX5_cornersOfAll 30 = .ok (.iconst 1, 1) := by decide +kernel
theorem dX5_cornersOfAll_31 : decode cX5_cornersOfAll 31 = .ok (.invokevirtual 102, 3) := by decide +kernel
theorem dX5_cornersOfAll_34 : decode cX5_cornersOfAll 34 = .ok (.iadd, 1) := by decide +kernel
theorem dX5_cornersOfAll_35 : decode cX5_cornersOfAll 35 = .ok (.iadd, 1) := by decide +kernel
theorem dX5_cornersOfAll_36 : decode cX5_cornersOfAll 36 = .ok (.istore_n 1, 1) := by decide +kernel
theorem dX5_cornersOfAll_37 : decode cX5_cornersOfAll 37 = .ok (.iinc 2 1, 3) := by decide +kernel
theorem dX5_cornersOfAll_40 : decode cX5_cornersOfAll 40 = .ok (.goto (-36), 3) := by decide +kernel
theorem dX5_cornersOfAll_43 : decode cX5_cornersOfAll 43 = .ok (.iload_n 1, 1) := by decide +kernel
theorem dX5_cornersOfAll_44 : decode cX5_cornersOfAll 44 = .ok (.ireturn, 1) := by decide +kernel
set_option maxRecDepth 20000 in
theorem ggX5_restsOfAll_X2_has : GoodIn wsX5_restsOfAll wsX2_has := goodIn_r _ [6, 7, 70, 71] (by decide +kernel) (by decide +kernel)
set_option maxRecDepth 20000 in
theorem gX5_restsOfAll_X2_has : GoodIn wsX5_restsOfAll (wsV RX5 92 RX2 yX2_has wsX2_has) := goodIn_app (goodIn_of _ (by decide +kernel)) ggX5_restsOfAll_X2_has
set_option maxRecDepth 20000 in
theorem ggX5_restsOfAll_X5_restOf : GoodIn wsX5_restsOfAll wsX5_restOf := goodIn_r _ [12, 13, 14, 15, 16, 17, 18, 19, 20, 21, 11, 22, 23, 1, 24, 25, 26, 27, 28, 29, 30, 31, 32, 33, 34, 35, 36, 37, 38, 39, 40, 41, 42, 43, 44, 45, 46, 47, 48, 49, 50, 51, 52, 53, 54, 55, 56, 57, 58, 59, 60, 61, 62, 63, 64, 65, 66, 67, 68, 69, 72, 73, 74, 75, 70, 71, 76, 77, 78, 79] (by decide +kernel) (by decide +kernel)
set_option maxRecDepth 20000 in
theorem gX5_restsOfAll_X5_restOf : GoodIn wsX5_restsOfAll (wsV RX5 105 RX5 yX5_restOf wsX5_restOf) := goodIn_app (goodIn_of _ (by decide +kernel)) ggX5_restsOfAll_X5_restOf
theorem dX5_restsOfAll_0 : decode cX5_restsOfAll 0 = .ok (.iconst 0, 1) := by decide +kernel
theorem dX5_restsOfAll_1 : decode cX5_restsOfAll 1 = .ok (.istore_n 1, 1) := by decide +kernel
theorem dX5_restsOfAll_2 : decode cX5_restsOfAll 2 = .ok (.iconst 2, 1) := by decide +kernel
theorem dX5_restsOfAll_3 : decode cX5_restsOfAll 3 = .ok (.istore_n 2, 1) := by decide +kernel
theorem dX5_restsOfAll_4 : decode cX5_restsOfAll 4 = .ok (.iload_n 2, 1) := by decide +kernel
theorem dX5_restsOfAll_5 : decode cX5_restsOfAll 5 = .ok (.bipush 63, 2) := by decide +kernel
theorem dX5_restsOfAll_7 : decode cX5_restsOfAll 7 = .ok (.if_icmp .gt 36, 3) := by decide +kernel
theorem dX5_restsOfAll_10 : decode cX5_restsOfAll 10 = .ok (.aload_n 0, 1) := by decide +kernel
theorem dX5_restsOfAll_11 : decode cX5_restsOfAll 11 = .ok (.getfield 19, 3) := by decide +kernel
theorem dX5_restsOfAll_14 : decode cX5_restsOfAll 14 = .ok (.iload_n 2, 1) := by decide +kernel
theorem dX5_restsOfAll_15 : decode cX5_restsOfAll 15 = .ok (.invokevirtual 92, 3) := by decide +kernel
theorem dX5_restsOfAll_18 : decode cX5_restsOfAll 18 = .ok (.ifCond .eq 19, 3) := by decide +kernel
theorem dX5_restsOfAll_21 : decode cX5_restsOfAll 21 = .ok (.iload_n 1, 1) := by decide +kernel
theorem dX5_restsOfAll_22 : decode cX5_restsOfAll 22 = .ok (.aload_n 0, 1) := by decide +kernel
theorem dX5_restsOfAll_23 : decode cX5_restsOfAll 23 = .ok (.iload_n 2, 1) := by decide +kernel
theorem dX5_restsOfAll_24 : decode cX5_restsOfAll 24 = .ok (.iconst 0, 1) := by decide +kernel
theorem dX5_restsOfAll_25 : decode cX5_restsOfAll 25 = .ok (.invokevirtual 105, 3) := by decide +kernel
theorem dX5_restsOfAll_28 : decode cX5_restsOfAll 28 = .ok (.aload_n 0, 1) := by decide +kernel
theorem dX5_restsOfAll_29 : decode cX5_restsOfAll 29 = .ok (.iload_n 2, 1) := by decide +kernel
theorem dX5_restsOfAll_30 : decode cX5_restsOfAll 30 = .ok (.iconst 1, 1) := by decide +kernel
theorem dX5_restsOfAll_31 : decode cX5_restsOfAll 31 = .ok (.invokevirtual 105, 3) := by decide +kernel
theorem dX5_restsOfAll_34 : decode cX5_restsOfAll 34 = .ok (.iadd, 1) := by decide +kernel
theorem dX5_restsOfAll_35 : decode cX5_restsOfAll 35 = .ok (.iadd, 1) := by decide +kernel
theorem dX5_restsOfAll_36 : decode cX5_restsOfAll 36 = .ok (.istore_n 1, 1) := by decide +kernel
theorem dX5_restsOfAll_37 : decode cX5_restsOfAll 37 = .ok (.iinc 2 1, 3) := by decide +kernel
theorem dX5_restsOfAll_40 : decode cX5_restsOfAll 40 = .ok (.goto (-36), 3) := by decide +kernel
theorem dX5_restsOfAll_43 : decode cX5_restsOfAll 43 = .ok (.iload_n 1, 1) := by decide +kernel
theorem dX5_restsOfAll_44 : decode cX5_restsOfAll 44 = .ok (.ireturn, 1) := by decide +kernel
set_option maxRecDepth 20000 in
theorem ggX5_gatherRing_X4_clear : GoodIn wsX5_gatherRing wsX4_clear := goodIn_r _ [9, 10, 11, 79, 80, 81, 82] (by decide +kernel) (by decide +kernel)
set_option maxRecDepth 20000 in
theorem gX5_gatherRing_X4_clear : GoodIn wsX5_gatherRing (wsV RX5 184 RX4 yX4_clear wsX4_clear) := goodIn_app (goodIn_of _ (by decide +kernel)) ggX5_gatherRing_X4_clear
set_option maxRecDepth 20000 in
theorem ggX5_gatherRing_X0_trace : GoodIn wsX5_gatherRing wsX0_trace := goodIn_r _ [16, 17, 18, 19, 20, 21, 15, 22, 23, 24, 25, 26, 27, 28, 29, 30, 31, 32, 33, 34, 35, 36, 37, 38, 39, 40, 41, 42, 43, 44, 45, 79, 80, 81, 82, 75, 76, 77, 78] (by decide +kernel) (by decide +kernel)
set_option maxRecDepth 20000 in
theorem gX5_gatherRing_X0_trace : GoodIn wsX5_gatherRing (wsV RX5 170 RX0 yX0_trace wsX0_trace) := goodIn_app (goodIn_of _ (by decide +kernel)) ggX5_gatherRing_X0_trace
set_option maxRecDepth 20000 in
theorem ggX5_gatherRing_X4_takeRightward : GoodIn wsX5_gatherRing wsX4_takeRightward := goodIn_r _ [49, 50, 18, 51, 25, 52, 53, 54, 8, 55, 56, 57, 58, 59, 42, 60, 44, 45, 61, 62, 63, 41, 43, 79, 80, 81, 82] (by decide +kernel) (by decide +kernel)
set_option maxRecDepth 20000 in
theorem gX5_gatherRing_X4_takeRightward : GoodIn wsX5_gatherRing (wsV RX5 187 RX4 yX4_takeRightward wsX4_takeRightward) := goodIn_app (goodIn_of _ (by decide +kernel)) ggX5_gatherRing_X4_takeRightward
set_option maxRecDepth 20000 in
theorem ggX5_gatherRing_X4_takeLeftward : GoodIn wsX5_gatherRing wsX4_takeLeftward := goodIn_r _ [67, 50, 18, 51, 25, 52, 53, 54, 8, 55, 56, 57, 58, 59, 42, 60, 44, 45, 61, 62, 63, 41, 43, 79, 80, 81, 82] (by decide +kernel) (by decide +kernel)
set_option maxRecDepth 20000 in
theorem gX5_gatherRing_X4_takeLeftward : GoodIn wsX5_gatherRing (wsV RX5 191 RX4 yX4_takeLeftward wsX4_takeLeftward) := goodIn_app (goodIn_of _ (by decide +kernel)) ggX5_gatherRing_X4_takeLeftward
theorem dX5_gatherRing_0 : decode cX5_gatherRing 0 = .ok (.aload_n 0, 1) := by decide +kernel
theorem dX5_gatherRing_1 : decode cX5_gatherRing 1 = .ok (.getfield 36, 3) := by decide +kernel
theorem dX5_gatherRing_4 : decode cX5_gatherRing 4 = .ok (.invokevirtual 184, 3) := by decide +kernel
theorem dX5_gatherRing_7 : decode cX5_gatherRing 7 = .ok (.aload_n 0, 1) := by decide +kernel
theorem dX5_gatherRing_8 : decode cX5_gatherRing 8 = .ok (.getfield 26, 3) := by decide +kernel
theorem dX5_gatherRing_11 : decode cX5_gatherRing 11 = .ok (.aload_n 0, 1) := by decide +kernel
theorem dX5_gatherRing_12 : decode cX5_gatherRing 12 = .ok (.getfield 10, 3) := by decide +kernel
theorem dX5_gatherRing_15 : decode cX5_gatherRing 15 = .ok (.iconst 0, 1) := by decide +kernel
theorem dX5_gatherRing_16 : decode cX5_gatherRing 16 = .ok (.aload_n 0, 1) := by decide +kernel
theorem dX5_gatherRing_17 : decode cX5_gatherRing 17 = .ok (.getfield 10, 3) := by decide +kernel
theorem dX5_gatherRing_20 : decode cX5_gatherRing 20 = .ok (.getfield 63, 3) := by decide +kernel
theorem dX5_gatherRing_23 : decode cX5_gatherRing 23 = .ok (.iconst 1, 1) := by decide +kernel
theorem dX5_gatherRing_24 : decode cX5_gatherRing 24 = .ok (.invokevirtual 170, 3) := by decide +kernel
theorem dX5_gatherRing_27 : decode cX5_gatherRing 27 = .ok (.aload_n 0, 1) := by decide +kernel
theorem dX5_gatherRing_28 : decode cX5_gatherRing 28 = .ok (.getfield 36, 3) := by decide +kernel
theorem dX5_gatherRing_31 : decode cX5_gatherRing 31 = .ok (.aload_n 0, 1) := by decide +kernel
theorem dX5_gatherRing_32 : decode cX5_gatherRing 32 = .ok (.getfield 26, 3) := by decide +kernel
theorem dX5_gatherRing_35 : decode cX5_gatherRing 35 = .ok (.invokevirtual 187, 3) := by decide +kernel
theorem dX5_gatherRing_38 : decode cX5_gatherRing 38 = .ok (.aload_n 0, 1) := by decide +kernel
theorem dX5_gatherRing_39 : decode cX5_gatherRing 39 = .ok (.getfield 26, 3) := by decide +kernel
theorem dX5_gatherRing_42 : decode cX5_gatherRing 42 = .ok (.aload_n 0, 1) := by decide +kernel
theorem dX5_gatherRing_43 : decode cX5_gatherRing 43 = .ok (.getfield 10, 3) := by decide +kernel
theorem dX5_gatherRing_46 : decode cX5_gatherRing 46 = .ok (.iconst 0, 1) := by decide +kernel
theorem dX5_gatherRing_47 : decode cX5_gatherRing 47 = .ok (.aload_n 0, 1) := by decide +kernel
theorem dX5_gatherRing_48 : decode cX5_gatherRing 48 = .ok (.getfield 10, 3) := by decide +kernel
theorem dX5_gatherRing_51 : decode cX5_gatherRing 51 = .ok (.getfield 63, 3) := by decide +kernel
theorem dX5_gatherRing_54 : decode cX5_gatherRing 54 = .ok (.iconst 0, 1) := by decide +kernel
theorem dX5_gatherRing_55 : decode cX5_gatherRing 55 = .ok (.invokevirtual 170, 3) := by decide +kernel
theorem dX5_gatherRing_58 : decode cX5_gatherRing 58 = .ok (.aload_n 0, 1) := by decide +kernel
theorem dX5_gatherRing_59 : decode cX5_gatherRing 59 = .ok (.getfield 36, 3) := by decide +kernel
theorem dX5_gatherRing_62 : decode cX5_gatherRing 62 = .ok (.aload_n 0, 1) := by decide +kernel
theorem dX5_gatherRing_63 : decode cX5_gatherRing 63 = .ok (.getfield 26, 3) := by decide +kernel
theorem dX5_gatherRing_66 : decode cX5_gatherRing 66 = .ok (.invokevirtual 191, 3) := by decide +kernel
theorem dX5_gatherRing_69 : decode cX5_gatherRing 69 = .ok (.return_, 1) := by decide +kernel
theorem dX6_init_0 : decode cX6_init 0 = .ok (.aload_n 0, 1) := by decide +kernel
theorem dX6_init_1 : decode cX6_init 1 = .ok (.invokespecial 1, 3) := by decide +kernel
theorem dX6_init_4 : decode cX6_init 4 = .ok (.aload_n 0, 1) := by decide +kernel
theorem dX6_init_5 : decode cX6_init 5 = .ok (.bipush 32, 2) := by decide +kernel
theorem dX6_init_7 : decode cX6_init 7 = .ok (.newarray .int, 2) := by decide +kernel
theorem dX6_init_9 : decode cX6_init 9 = .ok (.putfield 7, 3) := by decide +kernel
theorem dX6_init_12 : decode cX6_init 12 = .ok (.aload_n 0, 1) := by decide +kernel
theorem dX6_init_13 : decode cX6_init 13 = .ok (.bipush 32, 2) := by decide +kernel
theorem dX6_init_15 : decode cX6_init 15 = .ok (.newarray .int, 2) := by decide +kernel
theorem dX6_init_17 : decode cX6_init 17 = .ok (.putfield 13, 3) := by decide +kernel
theorem dX6_init_20 : decode cX6_init 20 = .ok (.aload_n 0, 1) := by decide +kernel
theorem dX6_init_21 : decode cX6_init 21 = .ok (.bipush 32, 2) := by decide +kernel
theorem dX6_init_23 : decode cX6_init 23 = .ok (.newarray .boolean, 2) := by decide +kernel
theorem dX6_init_25 : decode cX6_init 25 = .ok (.putfield 16, 3) := by decide +kernel
theorem dX6_init_28 : decode cX6_init 28 = .ok (.aload_n 0, 1) := by decide +kernel
theorem dX6_init_29 : decode cX6_init 29 = .ok (.bipush 32, 2) := by decide +kernel
theorem dX6_init_31 : decode cX6_init 31 = .ok (.newarray .int, 2) := by decide +kernel
theorem dX6_init_33 : decode cX6_init 33 = .ok (.putfield 20, 3) := by decide +kernel
theorem dX6_init_36 : decode cX6_init 36 = .ok (.aload_n 0, 1) := by decide +kernel
theorem dX6_init_37 : decode cX6_init 37 = .ok (.bipush 32, 2) := by decide +kernel
theorem dX6_init_39 : decode cX6_init 39 = .ok (.newarray .int, 2) := by decide +kernel
theorem dX6_init_41 : decode cX6_init 41 = .ok (.putfield 23, 3) := by decide +kernel
theorem dX6_init_44 : decode cX6_init 44 = .ok (.aload_n 0, 1) := by decide +kernel
theorem dX6_init_45 : decode cX6_init 45 = .ok (.bipush 34, 2) := by decide +kernel
theorem dX6_init_47 : decode cX6_init 47 = .ok (.newarray .int, 2) := by decide +kernel
theorem dX6_init_49 : decode cX6_init 49 = .ok (.putfield 26, 3) := by decide +kernel
theorem dX6_init_52 : decode cX6_init 52 = .ok (.aload_n 0, 1) := by decide +kernel
theorem dX6_init_53 : decode cX6_init 53 = .ok (.bipush 34, 2) := by decide +kernel
theorem dX6_init_55 : decode cX6_init 55 = .ok (.newarray .int, 2) := by decide +kernel
theorem dX6_init_57 : decode cX6_init 57 = .ok (.putfield 29, 3) := by decide +kernel
theorem dX6_init_60 : decode cX6_init 60 = .ok (.aload_n 0, 1) := by decide +kernel
theorem dX6_init_61 : decode cX6_init 61 = .ok (.sipush 128, 3) := by decide +kernel
theorem dX6_init_64 : decode cX6_init 64 = .ok (.newarray .int, 2) := by decide +kernel
theorem dX6_init_66 : decode cX6_init 66 = .ok (.putfield 32, 3) := by decide +kernel
theorem dX6_init_69 : decode cX6_init 69 = .ok (.aload_n 0, 1) := by decide +kernel
theorem dX6_init_70 : decode cX6_init 70 = .ok (.iconst 2, 1) := by decide +kernel
theorem dX6_init_71 : decode cX6_init 71 = .ok (.newarray .long, 2) := by decide +kernel
theorem dX6_init_73 : decode cX6_init 73 = .ok (.putfield 35, 3) := by decide +kernel
theorem dX6_init_76 : decode cX6_init 76 = .ok (.aload_n 0, 1) := by decide +kernel
theorem dX6_init_77 : decode cX6_init 77 = .ok (.iconst 2, 1) := by decide +kernel
theorem dX6_init_78 : decode cX6_init 78 = .ok (.newarray .boolean, 2) := by decide +kernel
theorem dX6_init_80 : decode cX6_init 80 = .ok (.putfield 39, 3) := by decide +kernel
theorem dX6_init_83 : decode cX6_init 83 = .ok (.return_, 1) := by decide +kernel
theorem dX6_in_0 : decode cX6_in 0 = .ok (.iload_n 0, 1) := by decide +kernel
theorem dX6_in_1 : decode cX6_in 1 = .ok (.iload_n 1, 1) := by decide +kernel
theorem dX6_in_2 : decode cX6_in 2 = .ok (.if_icmp .lt 12, 3) := by decide +kernel
theorem dX6_in_5 : decode cX6_in 5 = .ok (.iload_n 0, 1) := by decide +kernel
theorem dX6_in_6 : decode cX6_in 6 = .ok (.iload_n 2, 1) := by decide +kernel
theorem dX6_in_7 : decode cX6_in 7 = .ok (.if_icmp .gt 7, 3) := by decide +kernel
theorem dX6_in_10 : decode cX6_in 10 = .ok (.iconst 1, 1) := by decide +kernel
theorem dX6_in_11 : decode cX6_in 11 = .ok (.goto 4, 3) := by decide +kernel
theorem dX6_in_14 : decode cX6_in 14 = .ok (.iconst 0, 1) := by decide +kernel
theorem dX6_in_15 : decode cX6_in 15 = .ok (.ireturn, 1) := by decide +kernel
set_option maxRecDepth 20000 in
theorem ggX6_isPlace_X6_in : GoodIn wsX6_isPlace wsX6_in := goodIn_r _ [6] (by decide +kernel) (by decide +kernel)
set_option maxRecDepth 20000 in
theorem gX6_isPlace_X6_in : GoodIn wsX6_isPlace (va_wsS RX6 44 yX6_in wsX6_in) := goodIn_app (goodIn_of _ (by decide +kernel)) ggX6_isPlace_X6_in
theorem dX6_isPlace_0 : decode cX6_isPlace 0 = .ok (.iload_n 0, 1) := by decide +kernel
theorem dX6_isPlace_1 : decode cX6_isPlace 1 = .ok (.ldc 42, 2) := by decide +kernel
theorem dX6_isPlace_3 : decode cX6_isPlace 3 = .ok (.ldc 43, 2) := by decide +kernel
theorem dX6_isPlace_5 : decode cX6_isPlace 5 = .ok (.invokestatic 44, 3) := by decide +kernel
theorem dX6_isPlace_8 : decode cX6_isPlace 8 = .ok (.ifCond .eq 18, 3) := by decide +kernel
theorem dX6_isPlace_11 : decode cX6_isPlace 11 = .ok (.iload_n 1, 1) := by decide +kernel
theorem dX6_isPlace_12 : decode cX6_isPlace 12 = .ok (.ldc 42, 2) := by decide +kernel
theorem dX6_isPlace_14 : decode cX6_isPlace 14 = .ok (.ldc 43, 2) := by decide +kernel
theorem dX6_isPlace_16 : decode cX6_isPlace 16 = .ok (.invokestatic 44, 3) := by decide +kernel
theorem dX6_isPlace_19 : decode cX6_isPlace 19 = .ok (.ifCond .eq 7, 3) := by decide +kernel
theorem dX6_isPlace_22 : decode cX6_isPlace 22 = .ok (.iconst 1, 1) := by decide +kernel
theorem dX6_isPlace_23 : decode cX6_isPlace 23 = .ok (.goto 4, 3) := by decide +kernel
theorem dX6_isPlace_26 : decode cX6_isPlace 26 = .ok (.iconst 0, 1) := by decide +kernel
theorem dX6_isPlace_27 : decode cX6_isPlace 27 = .ok (.ireturn, 1) := by decide +kernel
set_option maxRecDepth 20000 in
theorem ggX6_isPoint_X6_in : GoodIn wsX6_isPoint wsX6_in := goodIn_r _ [5] (by decide +kernel) (by decide +kernel)
set_option maxRecDepth 20000 in
theorem gX6_isPoint_X6_in : GoodIn wsX6_isPoint (va_wsS RX6 44 yX6_in wsX6_in) := goodIn_app (goodIn_of _ (by decide +kernel)) ggX6_isPoint_X6_in
theorem dX6_isPoint_0 : decode cX6_isPoint 0 = .ok (.iload_n 1, 1) := by decide +kernel
theorem dX6_isPoint_1 : decode cX6_isPoint 1 = .ok (.iconst 0, 1) := by decide +kernel
theorem dX6_isPoint_2 : decode cX6_isPoint 2 = .ok (.bipush 31, 2) := by decide +kernel
theorem dX6_isPoint_4 : decode cX6_isPoint 4 = .ok (.invokestatic 44, 3) := by decide +kernel
theorem dX6_isPoint_7 : decode cX6_isPoint 7 = .ok (.ifCond .eq 16, 3) := by decide +kernel
theorem dX6_isPoint_10 : decode cX6_isPoint 10 = .ok (.aload_n 0, 1) := by decide +kernel
theorem dX6_isPoint_11 : decode cX6_isPoint 11 = .ok (.getfield 16, 3) := by decide +kernel
theorem dX6_isPoint_14 : decode cX6_isPoint 14 = .ok (.iload_n 1, 1) := by decide +kernel
theorem dX6_isPoint_15 : decode cX6_isPoint 15 = .ok (.baload, 1) := by decide +kernel
theorem dX6_isPoint_16 : decode cX6_isPoint 16 = .ok (.ifCond .eq 7, 3) := by decide +kernel
theorem dX6_isPoint_19 : decode cX6_isPoint 19 = .ok (.iconst 1, 1) := by decide +kernel
theorem dX6_isPoint_20 : decode cX6_isPoint 20 = .ok (.goto 4, 3) := by decide +kernel
theorem dX6_isPoint_23 : decode cX6_isPoint 23 = .ok (.iconst 0, 1) := by decide +kernel
theorem dX6_isPoint_24 : decode cX6_isPoint 24 = .ok (.ireturn, 1) := by decide +kernel
theorem dX6_isTaken_0 : decode cX6_isTaken 0 = .ok (.iconst 0, 1) := by decide +kernel
theorem dX6_isTaken_1 : decode cX6_isTaken 1 = .ok (.istore_n 3, 1) := by decide +kernel
theorem dX6_isTaken_2 : decode cX6_isTaken 2 = .ok (.iconst 0, 1) := by decide +kernel
theorem dX6_isTaken_3 : decode cX6_isTaken 3 = .ok (.istore 4, 2) := by decide +kernel
theorem dX6_isTaken_5 : decode cX6_isTaken 5 = .ok (.iload 4, 2) := by decide +kernel
theorem dX6_isTaken_7 : decode cX6_isTaken 7 = .ok (.bipush 32, 2) := by decide +kernel
theorem dX6_isTaken_9 : decode cX6_isTaken 9 = .ok (.if_icmp .ge 51, 3) := by decide +kernel
theorem dX6_isTaken_12 : decode cX6_isTaken 12 = .ok (.iload_n 3, 1) := by decide +kernel
theorem dX6_isTaken_13 : decode cX6_isTaken 13 = .ok (.ifCond .ne 35, 3) := by decide +kernel
theorem dX6_isTaken_16 : decode cX6_isTaken 16 = .ok (.aload_n 0, 1) := by decide +kernel
theorem dX6_isTaken_17 : decode cX6_isTaken 17 = .ok (.getfield 16, 3) := by decide +kernel
theorem dX6_isTaken_20 : decode cX6_isTaken 20 = .ok (.iload 4, 2) := by decide +kernel
theorem dX6_isTaken_22 : decode cX6_isTaken 22 = .ok (.baload, 1) := by decide +kernel
theorem dX6_isTaken_23 : decode cX6_isTaken 23 = .ok (.ifCond .eq 29, 3) := by decide +kernel
theorem dX6_isTaken_26 : decode cX6_isTaken 26 = .ok (.aload_n 0, 1) := by decide +kernel
theorem dX6_isTaken_27 : decode cX6_isTaken 27 = .ok (.getfield 7, 3) := by decide +kernel
theorem dX6_isTaken_30 : decode cX6_isTaken 30 = .ok (.iload 4, 2) := by decide +kernel
theorem dX6_isTaken_32 : decode cX6_isTaken 32 = .ok (.iaload, 1) := by decide +kernel
theorem dX6_isTaken_33 : decode cX6_isTaken 33 = .ok (.iload_n 1, 1) := by decide +kernel
theorem dX6_isTaken_34 : decode cX6_isTaken 34 = .ok (.if_icmp .ne 18, 3) := by decide +kernel
theorem dX6_isTaken_37 : decode cX6_isTaken 37 = .ok (.aload_n 0, 1) := by decide +kernel
theorem dX6_isTaken_38 : decode cX6_isTaken 38 = .ok (.getfield 13, 3) := by decide +kernel
theorem dX6_isTaken_41 : decode cX6_isTaken 41 = .ok (.iload 4, 2) := by decide +kernel
theorem dX6_isTaken_43 : decode cX6_isTaken 43 = .ok (.iaload, 1) := by decide +kernel
theorem dX6_isTaken_44 : decode cX6_isTaken 44 = .ok (.iload_n 2, 1) := by decide +kernel
theorem dX6_isTaken_45 : decode cX6_isTaken 45 = .ok (.if_icmp .ne 7, 3) := by decide +kernel
theorem dX6_isTaken_48 : decode cX6_isTaken 48 = .ok (.iconst 1, 1) := by decide +kernel
theorem dX6_isTaken_49 : decode cX6_isTaken 49 = .ok (.goto 4, 3) := by decide +kernel
theorem dX6_isTaken_52 : decode cX6_isTaken 52 = .ok (.iconst 0, 1) := by decide +kernel
theorem dX6_isTaken_53 : decode cX6_isTaken 53 = .ok (.istore_n 3, 1) := by decide +kernel
theorem dX6_isTaken_54 : decode cX6_isTaken 54 = .ok (.iinc 4 1, 3) := by decide +kernel
theorem dX6_isTaken_57 : decode cX6_isTaken 57 = .ok (.goto (-52), 3) := by decide +kernel
theorem dX6_isTaken_60 : decode cX6_isTaken 60 = .ok (.iload_n 3, 1) := by decide +kernel
theorem dX6_isTaken_61 : decode cX6_isTaken 61 = .ok (.ireturn, 1) := by decide +kernel
set_option maxRecDepth 20000 in
theorem ggX6_add_X6_isPlace : GoodIn wsX6_add wsX6_isPlace := goodIn_r _ [8, 9, 10, 11, 12, 7, 13] (by decide +kernel) (by decide +kernel)
set_option maxRecDepth 20000 in
theorem gX6_add_X6_isPlace : GoodIn wsX6_add (va_wsS RX6 48 yX6_isPlace wsX6_isPlace) := goodIn_app (goodIn_of _ (by decide +kernel)) ggX6_add_X6_isPlace
set_option maxRecDepth 20000 in
theorem ggX6_add_X6_isTaken : GoodIn wsX6_add wsX6_isTaken := goodIn_r _ [17, 2, 3, 4, 18, 19, 20, 21, 22, 23, 24, 25, 26, 27, 28, 29, 30, 31, 32, 33] (by decide +kernel) (by decide +kernel)
set_option maxRecDepth 20000 in
theorem gX6_add_X6_isTaken : GoodIn wsX6_add (wsV RX6 52 RX6 yX6_isTaken wsX6_isTaken) := goodIn_app (goodIn_of _ (by decide +kernel)) ggX6_add_X6_isTaken
theorem dX6_add_0 : decode cX6_add 0 = .ok (.iload_n 1, 1) := by decide +kernel
theorem dX6_add_1 : decode cX6_add 1 = .ok (.iload_n 2, 1) := by decide +kernel
theorem dX6_add_2 : decode cX6_add 2 = .ok (.invokestatic 48, 3) := by decide +kernel
theorem dX6_add_5 : decode cX6_add 5 = .ok (.ifCond .ne 6, 3) := by decide +kernel
theorem dX6_add_8 : decode cX6_add 8 = .ok (.bipush (-2), 2) := by decide +kernel
theorem dX6_add_10 : decode cX6_add 10 = .ok (.ireturn, 1) := by decide +kernel
theorem dX6_add_11 : decode cX6_add 11 = .ok (.aload_n 0, 1) := by decide +kernel
theorem dX6_add_12 : decode cX6_add 12 = .ok (.iload_n 1, 1) := by decide +kernel
theorem dX6_add_13 : decode cX6_add 13 = .ok (.iload_n 2, 1) := by decide +kernel
theorem dX6_add_14 : decode cX6_add 14 = .ok (.invokevirtual 52, 3) := by decide +kernel
theorem dX6_add_17 : decode cX6_add 17 = .ok (.ifCond .eq 6, 3) := by decide +kernel
theorem dX6_add_20 : decode cX6_add 20 = .ok (.bipush (-5), 2) := by decide +kernel
theorem dX6_add_22 : decode cX6_add 22 = .ok (.ireturn, 1) := by decide +kernel
theorem dX6_add_23 : decode cX6_add 23 = .ok (.aload_n 0, 1) := by decide +kernel
theorem dX6_add_24 : decode cX6_add 24 = .ok (.getfield 55, 3) := by decide +kernel
theorem dX6_add_27 : decode cX6_add 27 = .ok (.bipush 32, 2) := by decide +kernel
theorem dX6_add_29 : decode cX6_add 29 = .ok (.if_icmp .ne 6, 3) := by decide +kernel
theorem dX6_add_32 : decode cX6_add 32 = .ok (.bipush (-4), 2) := by decide +kernel
theorem dX6_add_34 : decode cX6_add 34 = .ok (.ireturn, 1) := by decide +kernel
theorem dX6_add_35 : decode cX6_add 35 = .ok (.iconst 0, 1) := by decide +kernel
theorem dX6_add_36 : decode cX6_add 36 = .ok (.istore_n 3, 1) := by decide +kernel
theorem dX6_add_37 : decode cX6_add 37 = .ok (.aload_n 0, 1) := by decide +kernel
theorem dX6_add_38 : decode cX6_add 38 = .ok (.getfield 16, 3) := by decide +kernel
theorem dX6_add_41 : decode cX6_add 41 = .ok (.iload_n 3, 1) := by decide +kernel
theorem dX6_add_42 : decode cX6_add 42 = .ok (.baload, 1) := by decide +kernel
theorem dX6_add_43 : decode cX6_add 43 = .ok (.ifCond .eq 9, 3) := by decide +kernel
theorem dX6_add_46 : decode cX6_add 46 = .ok (.iinc 3 1, 3) := by decide +kernel
theorem dX6_add_49 : decode cX6_add 49 = .ok (.goto (-12), 3) := by decide +kernel
theorem dX6_add_52 : decode cX6_add 52 = .ok (.aload_n 0, 1) := by decide +kernel
theorem dX6_add_53 : decode cX6_add 53 = .ok (.getfield 16, 3) := by decide +kernel
theorem dX6_add_56 : decode cX6_add 56 = .ok (.iload_n 3, 1) := by decide +kernel
theorem dX6_add_57 : decode cX6_add 57 = .ok (.iconst 1, 1) := by decide +kernel
theorem dX6_add_58 : decode cX6_add 58 = .ok (.bastore, 1) := by decide +kernel
theorem dX6_add_59 : decode cX6_add 59 = .ok (.aload_n 0, 1) := by decide +kernel
theorem dX6_add_60 : decode cX6_add 60 = .ok (.getfield 7, 3) := by decide +kernel
theorem dX6_add_63 : decode cX6_add 63 = .ok (.iload_n 3, 1) := by decide +kernel
theorem dX6_add_64 : decode cX6_add 64 = .ok (.iload_n 1, 1) := by decide +kernel
theorem dX6_add_65 : decode cX6_add 65 = .ok (.iastore, 1) := by decide +kernel
theorem dX6_add_66 : decode cX6_add 66 = .ok (.aload_n 0, 1) := by decide +kernel
theorem dX6_add_67 : decode cX6_add 67 = .ok (.getfield 13, 3) := by decide +kernel
theorem dX6_add_70 : decode cX6_add 70 = .ok (.iload_n 3, 1) := by decide +kernel
theorem dX6_add_71 : decode cX6_add 71 = .ok (.iload_n 2, 1) := by decide +kernel
theorem dX6_add_72 : decode cX6_add 72 = .ok (.iastore, 1) := by decide +kernel
theorem dX6_add_73 : decode cX6_add 73 = .ok (.aload_n 0, 1) := by decide +kernel
theorem dX6_add_74 : decode cX6_add 74 = .ok (.dup, 1) := by decide +kernel
theorem dX6_add_75 : decode cX6_add 75 = .ok (.getfield 55, 3) := by decide +kernel
theorem dX6_add_78 : decode cX6_add 78 = .ok (.iconst 1, 1) := by decide +kernel
theorem dX6_add_79 : decode cX6_add 79 = .ok (.iadd, 1) := by decide +kernel
theorem dX6_add_80 : decode cX6_add 80 = .ok (.putfield 55, 3) := by decide +kernel
theorem dX6_add_83 : decode cX6_add 83 = .ok (.iload_n 3, 1) := by decide +kernel
theorem dX6_add_84 : decode cX6_add 84 = .ok (.ireturn, 1) := by decide +kernel
set_option maxRecDepth 20000 in
theorem ggX6_remove_X6_isPoint : GoodIn wsX6_remove wsX6_isPoint := goodIn_r _ [7, 1, 8, 9, 6, 10, 11, 12, 13, 14, 15, 16, 17, 18, 19, 20, 21, 22, 23, 24, 25, 26] (by decide +kernel) (by decide +kernel)
set_option maxRecDepth 20000 in
theorem gX6_remove_X6_isPoint : GoodIn wsX6_remove (wsV RX6 59 RX6 yX6_isPoint wsX6_isPoint) := goodIn_app (goodIn_of _ (by decide +kernel)) ggX6_remove_X6_isPoint
theorem dX6_remove_0 : decode cX6_remove 0 = .ok (.aload_n 0, 1) := by decide +kernel
theorem dX6_remove_1 : decode cX6_remove 1 = .ok (.iload_n 1, 1) := by decide +kernel
theorem dX6_remove_2 : decode cX6_remove 2 = .ok (.invokevirtual 59, 3) := by decide +kernel
theorem dX6_remove_5 : decode cX6_remove 5 = .ok (.ifCond .ne 5, 3) := by decide +kernel
theorem dX6_remove_8 : decode cX6_remove 8 = .ok (.iconst (-1), 1) := by decide +kernel
theorem dX6_remove_9 : decode cX6_remove 9 = .ok (.ireturn, 1) := by decide +kernel
theorem dX6_remove_10 : decode cX6_remove 10 = .ok (.aload_n 0, 1) := by decide +kernel
theorem dX6_remove_11 : decode cX6_remove 11 = .ok (.getfield 16, 3) := by decide +kernel
theorem dX6_remove_14 : decode cX6_remove 14 = .ok (.iload_n 1, 1) := by decide +kernel
theorem dX6_remove_15 : decode cX6_remove 15 = .ok (.iconst 0, 1) := by decide +kernel
theorem dX6_remove_16 : decode cX6_remove 16 = .ok (.bastore, 1) := by decide +kernel
theorem dX6_remove_17 : decode cX6_remove 17 = .ok (.aload_n 0, 1) := by decide +kernel
theorem dX6_remove_18 : decode cX6_remove 18 = .ok (.dup, 1) := by decide +kernel
theorem dX6_remove_19 : decode cX6_remove 19 = .ok (.getfield 55, 3) := by decide +kernel
theorem dX6_remove_22 : decode cX6_remove 22 = .ok (.iconst 1, 1) := by decide +kernel
theorem dX6_remove_23 : decode cX6_remove 23 = .ok (.isub, 1) := by decide +kernel
theorem dX6_remove_24 : decode cX6_remove 24 = .ok (.putfield 55, 3) := by decide +kernel
theorem dX6_remove_27 : decode cX6_remove 27 = .ok (.aload_n 0, 1) := by decide +kernel
theorem dX6_remove_28 : decode cX6_remove 28 = .ok (.getfield 55, 3) := by decide +kernel
theorem dX6_remove_31 : decode cX6_remove 31 = .ok (.ireturn, 1) := by decide +kernel
set_option maxRecDepth 20000 in
theorem ggX6_move_X6_isPoint : GoodIn wsX6_move wsX6_isPoint := goodIn_r _ [7, 8, 9, 10, 6, 11, 21, 22, 23, 24, 25, 26, 27, 28, 29, 30, 31, 32, 33, 34, 35, 36] (by decide +kernel) (by decide +kernel)
set_option maxRecDepth 20000 in
theorem gX6_move_X6_isPoint : GoodIn wsX6_move (wsV RX6 59 RX6 yX6_isPoint wsX6_isPoint) := goodIn_app (goodIn_of _ (by decide +kernel)) ggX6_move_X6_isPoint
set_option maxRecDepth 20000 in
theorem ggX6_move_X6_isPlace : GoodIn wsX6_move wsX6_isPlace := goodIn_r _ [14, 15, 16, 9, 10, 6, 11] (by decide +kernel) (by decide +kernel)
set_option maxRecDepth 20000 in
theorem gX6_move_X6_isPlace : GoodIn wsX6_move (va_wsS RX6 48 yX6_isPlace wsX6_isPlace) := goodIn_app (goodIn_of _ (by decide +kernel)) ggX6_move_X6_isPlace
set_option maxRecDepth 20000 in
theorem ggX6_move_X6_isTaken : GoodIn wsX6_move wsX6_isTaken := goodIn_r _ [20, 8, 1, 2, 21, 22, 23, 24, 25, 26, 27, 28, 29, 30, 31, 32, 33, 34, 35, 36] (by decide +kernel) (by decide +kernel)
set_option maxRecDepth 20000 in
theorem gX6_move_X6_isTaken : GoodIn wsX6_move (wsV RX6 52 RX6 yX6_isTaken wsX6_isTaken) := goodIn_app (goodIn_of _ (by decide +kernel)) ggX6_move_X6_isTaken
theorem dX6_move_0 : decode cX6_move 0 = .ok (.aload_n 0, 1) := by decide +kernel
theorem dX6_move_1 : decode cX6_move 1 = .ok (.iload_n 1, 1) := by decide +kernel
theorem dX6_move_2 : decode cX6_move 2 = .ok (.invokevirtual 59, 3) := by decide +kernel
theorem dX6_move_5 : decode cX6_move 5 = .ok (.ifCond .ne 5, 3) := by decide +kernel
theorem dX6_move_8 : decode cX6_move 8 = .ok (.iconst (-1), 1) := by decide +kernel
theorem dX6_move_9 : decode cX6_move 9 = .ok (.ireturn, 1) := by decide +kernel
theorem dX6_move_10 : decode cX6_move 10 = .ok (.iload_n 2, 1) := by decide +kernel
theorem dX6_move_11 : decode cX6_move 11 = .ok (.iload_n 3, 1) := by decide +kernel
theorem dX6_move_12 : decode cX6_move 12 = .ok (.invokestatic 48, 3) := by decide +kernel
theorem dX6_move_15 : decode cX6_move 15 = .ok (.ifCond .ne 6, 3) := by decide +kernel
theorem dX6_move_18 : decode cX6_move 18 = .ok (.bipush (-2), 2) := by decide +kernel
theorem dX6_move_20 : decode cX6_move 20 = .ok (.ireturn, 1) := by decide +kernel
theorem dX6_move_21 : decode cX6_move 21 = .ok (.aload_n 0, 1) := by decide +kernel
theorem dX6_move_22 : decode cX6_move 22 = .ok (.iload_n 2, 1) := by decide +kernel
theorem dX6_move_23 : decode cX6_move 23 = .ok (.iload_n 3, 1) := by decide +kernel
theorem dX6_move_24 : decode cX6_move 24 = .ok (.invokevirtual 52, 3) := by decide +kernel
theorem dX6_move_27 : decode cX6_move 27 = .ok (.ifCond .eq 6, 3) := by decide +kernel
theorem dX6_move_30 : decode cX6_move 30 = .ok (.bipush (-5), 2) := by decide +kernel
theorem dX6_move_32 : decode cX6_move 32 = .ok (.ireturn, 1) := by decide +kernel
theorem dX6_move_33 : decode cX6_move 33 = .ok (.aload_n 0, 1) := by decide +kernel
theorem dX6_move_34 : decode cX6_move 34 = .ok (.getfield 7, 3) := by decide +kernel
theorem dX6_move_37 : decode cX6_move 37 = .ok (.iload_n 1, 1) := by decide +kernel
theorem dX6_move_38 : decode cX6_move 38 = .ok (.iload_n 2, 1) := by decide +kernel
theorem dX6_move_39 : decode cX6_move 39 = .ok (.iastore, 1) := by decide +kernel
theorem dX6_move_40 : decode cX6_move 40 = .ok (.aload_n 0, 1) := by decide +kernel
theorem dX6_move_41 : decode cX6_move 41 = .ok (.getfield 13, 3) := by decide +kernel
theorem dX6_move_44 : decode cX6_move 44 = .ok (.iload_n 1, 1) := by decide +kernel
theorem dX6_move_45 : decode cX6_move 45 = .ok (.iload_n 3, 1) := by decide +kernel
theorem dX6_move_46 : decode cX6_move 46 = .ok (.iastore, 1) := by decide +kernel
theorem dX6_move_47 : decode cX6_move 47 = .ok (.iconst 1, 1) := by decide +kernel
theorem dX6_move_48 : decode cX6_move 48 = .ok (.ireturn, 1) := by decide +kernel
theorem dX6_layRanks_0 : decode cX6_layRanks 0 = .ok (.iconst 0, 1) := by decide +kernel
theorem dX6_layRanks_1 : decode cX6_layRanks 1 = .ok (.istore_n 1, 1) := by decide +kernel
theorem dX6_layRanks_2 : decode cX6_layRanks 2 = .ok (.iconst 0, 1) := by decide +kernel
theorem dX6_layRanks_3 : decode cX6_layRanks 3 = .ok (.istore_n 2, 1) := by decide +kernel
theorem dX6_layRanks_4 : decode cX6_layRanks 4 = .ok (.iload_n 2, 1) := by decide +kernel
theorem dX6_layRanks_5 : decode cX6_layRanks 5 = .ok (.bipush 32, 2) := by decide +kernel
theorem dX6_layRanks_7 : decode cX6_layRanks 7 = .ok (.if_icmp .ge 120, 3) := by decide +kernel
theorem dX6_layRanks_10 : decode cX6_layRanks 10 = .ok (.aload_n 0, 1) := by decide +kernel
theorem dX6_layRanks_11 : decode cX6_layRanks 11 = .ok (.getfield 16, 3) := by decide +kernel
theorem dX6_layRanks_14 : decode cX6_layRanks 14 = .ok (.iload_n 2, 1) := by decide +kernel
theorem dX6_layRanks_15 : decode cX6_layRanks 15 = .ok (.baload, 1) := by decide +kernel
theorem dX6_layRanks_16 : decode cX6_layRanks 16 = .ok (.ifCond .eq 105, 3) := by decide +kernel
theorem dX6_layRanks_19 : decode cX6_layRanks 19 = .ok (.iload_n 1, 1) := by decide +kernel
theorem dX6_layRanks_20 : decode cX6_layRanks 20 = .ok (.istore_n 3, 1) := by decide +kernel
theorem dX6_layRanks_21 : decode cX6_layRanks 21 = .ok (.iload_n 3, 1) := by decide +kernel
theorem dX6_layRanks_22 : decode cX6_layRanks 22 = .ok (.ifCond .le 89, 3) := by decide +kernel
theorem dX6_layRanks_25 : decode cX6_layRanks 25 = .ok (.aload_n 0, 1) := by decide +kernel
theorem dX6_layRanks_26 : decode cX6_layRanks 26 = .ok (.getfield 7, 3) := by decide +kernel
theorem dX6_layRanks_29 : decode cX6_layRanks 29 = .ok (.aload_n 0, 1) := by decide +kernel
theorem dX6_layRanks_30 : decode cX6_layRanks 30 = .ok (.getfield 20, 3) := by decide +kernel
theorem dX6_layRanks_33 : decode cX6_layRanks 33 = .ok (.iload_n 3, 1) := by decide +kernel
theorem dX6_layRanks_34 : decode cX6_layRanks 34 = .ok (.iconst 1, 1) := by decide +kernel
theorem dX6_layRanks_35 : decode cX6_layRanks 35 = .ok (.isub, 1) := by decide +kernel
theorem dX6_layRanks_36 : decode cX6_layRanks 36 = .ok (.iaload, 1) := by decide +kernel
theorem dX6_layRanks_37 : decode cX6_layRanks 37 = .ok (.iaload, 1) := by decide +kernel
theorem dX6_layRanks_38 : decode cX6_layRanks 38 = .ok (.aload_n 0, 1) := by decide +kernel
theorem dX6_layRanks_39 : decode cX6_layRanks 39 = .ok (.getfield 7, 3) := by decide +kernel
theorem dX6_layRanks_42 : decode cX6_layRanks 42 = .ok (.iload_n 2, 1) := by decide +kernel
theorem dX6_layRanks_43 : decode cX6_layRanks 43 = .ok (.iaload, 1) := by decide +kernel
theorem dX6_layRanks_44 : decode cX6_layRanks 44 = .ok (.if_icmp .gt 47, 3) := by decide +kernel
theorem dX6_layRanks_47 : decode cX6_layRanks 47 = .ok (.aload_n 0, 1) := by decide +kernel
theorem dX6_layRanks_48 : decode cX6_layRanks 48 = .ok (.getfield 7, 3) := by decide +kernel
theorem dX6_layRanks_51 : decode cX6_layRanks 51 = .ok (.aload_n 0, 1) := by decide +kernel
theorem dX6_layRanks_52 : decode cX6_layRanks 52 = .ok (.getfield 20, 3) := by decide +kernel
theorem dX6_layRanks_55 : decode cX6_layRanks 55 = .ok (.iload_n 3, 1) := by decide +kernel
theorem dX6_layRanks_56 : decode cX6_layRanks 56 = .ok (.iconst 1, 1) := by decide +kernel
theorem dX6_layRanks_57 : decode cX6_layRanks 57 = .ok (.isub, 1) := by decide +kernel
theorem dX6_layRanks_58 : decode cX6_layRanks 58 = .ok (.iaload, 1) := by decide +kernel
theorem dX6_layRanks_59 : decode cX6_layRanks 59 = .ok (.iaload, 1) := by decide +kernel
theorem dX6_layRanks_60 : decode cX6_layRanks 60 = .ok (.aload_n 0, 1) := by decide +kernel
theorem dX6_layRanks_61 : decode cX6_layRanks 61 = .ok (.getfield 7, 3) := by decide +kernel
theorem dX6_layRanks_64 : decode cX6_layRanks 64 = .ok (.iload_n 2, 1) := by decide +kernel
theorem dX6_layRanks_65 : decode cX6_layRanks 65 = .ok (.iaload, 1) := by decide +kernel
theorem dX6_layRanks_66 : decode cX6_layRanks 66 = .ok (.if_icmp .ne 45, 3) := by decide +kernel
theorem dX6_layRanks_69 : decode cX6_layRanks 69 = .ok (.aload_n 0, 1) := by decide +kernel
theorem dX6_layRanks_70 : decode cX6_layRanks 70 = .ok (.getfield 13, 3) := by decide +kernel
theorem dX6_layRanks_73 : decode cX6_layRanks 73 = .ok (.aload_n 0, 1) := by decide +kernel
theorem dX6_layRanks_74 : decode cX6_layRanks 74 = .ok (.getfield 20, 3) := by decide +kernel
theorem dX6_layRanks_77 : decode cX6_layRanks 77 = .ok (.iload_n 3, 1) := by decide +kernel
theorem dX6_layRanks_78 : decode cX6_layRanks 78 = .ok (.iconst 1, 1) := by decide +kernel
theorem dX6_layRanks_79 : decode cX6_layRanks 79 = .ok (.isub, 1) := by decide +kernel
theorem dX6_layRanks_80 : decode cX6_layRanks 80 = .ok (.iaload, 1) := by decide +kernel
theorem dX6_layRanks_81 : decode cX6_layRanks 81 = .ok (.iaload, 1) := by decide +kernel
theorem dX6_layRanks_82 : decode cX6_layRanks 82 = .ok (.aload_n 0, 1) := by decide +kernel
theorem dX6_layRanks_83 : decode cX6_layRanks 83 = .ok (.getfield 13, 3) := by decide +kernel
theorem dX6_layRanks_86 : decode cX6_layRanks 86 = .ok (.iload_n 2, 1) := by decide +kernel
theorem dX6_layRanks_87 : decode cX6_layRanks 87 = .ok (.iaload, 1) := by decide +kernel
theorem dX6_layRanks_88 : decode cX6_layRanks 88 = .ok (.if_icmp .le 23, 3) := by decide +kernel
theorem dX6_layRanks_91 : decode cX6_layRanks 91 = .ok (.aload_n 0, 1) := by decide +kernel
theorem dX6_layRanks_92 : decode cX6_layRanks 92 = .ok (.getfield 20, 3) := by decide +kernel
theorem dX6_layRanks_95 : decode cX6_layRanks 95 = .ok (.iload_n 3, 1) := by decide +kernel
theorem dX6_layRanks_96 : decode cX6_layRanks 96 = .ok (.aload_n 0, 1) := by decide +kernel
theorem dX6_layRanks_97 : decode cX6_layRanks 97 = .ok (.getfield 20, 3) := by decide +kernel
theorem dX6_layRanks_100 : decode cX6_layRanks 100 = .ok (.iload_n 3, 1) := by decide +kernel
theorem dX6_layRanks_101 : decode cX6_layRanks 101 = .ok (.iconst 1, 1) := by decide +kernel
theorem dX6_layRanks_102 : decode cX6_layRanks 102 = .ok (.isub, 1) := by decide +kernel
theorem dX6_layRanks_103 : decode cX6_layRanks 103 = .ok (.iaload, 1) := by decide +kernel
theorem dX6_layRanks_104 : decode cX6_layRanks 104 = .ok (.iastore, 1) := by decide +kernel
theorem dX6_layRanks_105 : decode cX6_layRanks 105 = .ok (.iinc 3 (-1), 3) := by decide +kernel
theorem dX6_layRanks_108 : decode cX6_layRanks 108 = .ok (.goto (-87), 3) := by decide +kernel
theorem dX6_layRanks_111 : decode cX6_layRanks 111 = .ok (.aload_n 0, 1) := by decide +kernel
theorem dX6_layRanks_112 : decode cX6_layRanks 112 = .ok (.getfield 20, 3) := by decide +kernel
theorem dX6_layRanks_115 : decode cX6_layRanks 115 = .ok (.iload_n 3, 1) := by decide +kernel
theorem dX6_layRanks_116 : decode cX6_layRanks 116 = .ok (.iload_n 2, 1) := by decide +kernel
theorem dX6_layRanks_117 : decode cX6_layRanks 117 = .ok (.iastore, 1) := by decide +kernel
theorem dX6_layRanks_118 : decode cX6_layRanks 118 = .ok (.iinc 1 1, 3) := by decide +kernel
theorem dX6_layRanks_121 : decode cX6_layRanks 121 = .ok (.iinc 2 1, 3) := by decide +kernel
theorem dX6_layRanks_124 : decode cX6_layRanks 124 = .ok (.goto (-120), 3) := by decide +kernel
theorem dX6_layRanks_127 : decode cX6_layRanks 127 = .ok (.iconst 0, 1) := by decide +kernel
theorem dX6_layRanks_128 : decode cX6_layRanks 128 = .ok (.istore_n 2, 1) := by decide +kernel
theorem dX6_layRanks_129 : decode cX6_layRanks 129 = .ok (.iload_n 2, 1) := by decide +kernel
theorem dX6_layRanks_130 : decode cX6_layRanks 130 = .ok (.iload_n 1, 1) := by decide +kernel
theorem dX6_layRanks_131 : decode cX6_layRanks 131 = .ok (.if_icmp .ge 21, 3) := by decide +kernel
theorem dX6_layRanks_134 : decode cX6_layRanks 134 = .ok (.aload_n 0, 1) := by decide +kernel
theorem dX6_layRanks_135 : decode cX6_layRanks 135 = .ok (.getfield 23, 3) := by decide +kernel
theorem dX6_layRanks_138 : decode cX6_layRanks 138 = .ok (.aload_n 0, 1) := by decide +kernel
theorem dX6_layRanks_139 : decode cX6_layRanks 139 = .ok (.getfield 20, 3) := by decide +kernel
theorem dX6_layRanks_142 : decode cX6_layRanks 142 = .ok (.iload_n 2, 1) := by decide +kernel
theorem dX6_layRanks_143 : decode cX6_layRanks 143 = .ok (.iaload, 1) := by decide +kernel
theorem dX6_layRanks_144 : decode cX6_layRanks 144 = .ok (.iload_n 2, 1) := by decide +kernel
theorem dX6_layRanks_145 : decode cX6_layRanks 145 = .ok (.iastore, 1) := by decide +kernel
theorem dX6_layRanks_146 : decode cX6_layRanks 146 = .ok (.iinc 2 1, 3) := by decide +kernel
theorem dX6_layRanks_149 : decode cX6_layRanks 149 = .ok (.goto (-20), 3) := by decide +kernel
theorem dX6_layRanks_152 : decode cX6_layRanks 152 = .ok (.return_, 1) := by decide +kernel
set_option maxRecDepth 20000 in
theorem ggX6_layPart_X6_layRanks : GoodIn wsX6_layPart wsX6_layRanks := goodIn_r _ [9, 10, 11, 12, 13, 14, 18, 19, 20, 21, 22, 23, 24, 25, 26, 27, 28, 29, 30, 31, 32, 33] (by decide +kernel) (by decide +kernel)
set_option maxRecDepth 20000 in
theorem gX6_layPart_X6_layRanks : GoodIn wsX6_layPart (wsV RX6 63 RX6 yX6_layRanks wsX6_layRanks) := goodIn_app (goodIn_of _ (by decide +kernel)) ggX6_layPart_X6_layRanks
set_option maxRecDepth 20000 in
theorem ggX6_layPart_X6_in : GoodIn wsX6_layPart wsX6_in := goodIn_r _ [17] (by decide +kernel) (by decide +kernel)
set_option maxRecDepth 20000 in
theorem gX6_layPart_X6_in : GoodIn wsX6_layPart (va_wsS RX6 44 yX6_in wsX6_in) := goodIn_app (goodIn_of _ (by decide +kernel)) ggX6_layPart_X6_in
theorem dX6_layPart_0 : decode cX6_layPart 0 = .ok (.aload_n 0, 1) := by decide +kernel
theorem dX6_layPart_1 : decode cX6_layPart 1 = .ok (.invokevirtual 63, 3) := by decide +kernel
theorem dX6_layPart_4 : decode cX6_layPart 4 = .ok (.iload_n 1, 1) := by decide +kernel
theorem dX6_layPart_5 : decode cX6_layPart 5 = .ok (.iconst 1, 1) := by decide +kernel
theorem dX6_layPart_6 : decode cX6_layPart 6 = .ok (.bipush 63, 2) := by decide +kernel
theorem dX6_layPart_8 : decode cX6_layPart 8 = .ok (.invokestatic 44, 3) := by decide +kernel
theorem dX6_layPart_11 : decode cX6_layPart 11 = .ok (.ifCond .eq 10, 3) := by decide +kernel
theorem dX6_layPart_14 : decode cX6_layPart 14 = .ok (.aload_n 0, 1) := by decide +kernel
theorem dX6_layPart_15 : decode cX6_layPart 15 = .ok (.getfield 55, 3) := by decide +kernel
theorem dX6_layPart_18 : decode cX6_layPart 18 = .ok (.ifCond .ne 5, 3) := by decide +kernel
theorem dX6_layPart_21 : decode cX6_layPart 21 = .ok (.iconst 0, 1) := by decide +kernel
theorem dX6_layPart_22 : decode cX6_layPart 22 = .ok (.ireturn, 1) := by decide +kernel
theorem dX6_layPart_23 : decode cX6_layPart 23 = .ok (.bipush 32, 2) := by decide +kernel
theorem dX6_layPart_25 : decode cX6_layPart 25 = .ok (.istore_n 2, 1) := by decide +kernel
theorem dX6_layPart_26 : decode cX6_layPart 26 = .ok (.iload_n 1, 1) := by decide +kernel
theorem dX6_layPart_27 : decode cX6_layPart 27 = .ok (.iload_n 2, 1) := by decide +kernel
theorem dX6_layPart_28 : decode cX6_layPart 28 = .ok (.iand, 1) := by decide +kernel
theorem dX6_layPart_29 : decode cX6_layPart 29 = .ok (.ifCond .ne 10, 3) := by decide +kernel
theorem dX6_layPart_32 : decode cX6_layPart 32 = .ok (.iload_n 2, 1) := by decide +kernel
theorem dX6_layPart_33 : decode cX6_layPart 33 = .ok (.iconst 1, 1) := by decide +kernel
theorem dX6_layPart_34 : decode cX6_layPart 34 = .ok (.ishr, 1) := by decide +kernel
theorem dX6_layPart_35 : decode cX6_layPart 35 = .ok (.istore_n 2, 1) := by decide +kernel
theorem dX6_layPart_36 : decode cX6_layPart 36 = .ok (.goto (-10), 3) := by decide +kernel
theorem dX6_layPart_39 : decode cX6_layPart 39 = .ok (.aload_n 0, 1) := by decide +kernel
theorem dX6_layPart_40 : decode cX6_layPart 40 = .ok (.iconst 0, 1) := by decide +kernel
theorem dX6_layPart_41 : decode cX6_layPart 41 = .ok (.putfield 66, 3) := by decide +kernel
theorem dX6_layPart_44 : decode cX6_layPart 44 = .ok (.aload_n 0, 1) := by decide +kernel
theorem dX6_layPart_45 : decode cX6_layPart 45 = .ok (.aload_n 0, 1) := by decide +kernel
theorem dX6_layPart_46 : decode cX6_layPart 46 = .ok (.getfield 55, 3) := by decide +kernel
theorem dX6_layPart_49 : decode cX6_layPart 49 = .ok (.putfield 69, 3) := by decide +kernel
theorem dX6_layPart_52 : decode cX6_layPart 52 = .ok (.aload_n 0, 1) := by decide +kernel
theorem dX6_layPart_53 : decode cX6_layPart 53 = .ok (.iconst 0, 1) := by decide +kernel
theorem dX6_layPart_54 : decode cX6_layPart 54 = .ok (.putfield 72, 3) := by decide +kernel
theorem dX6_layPart_57 : decode cX6_layPart 57 = .ok (.iload_n 2, 1) := by decide +kernel
theorem dX6_layPart_58 : decode cX6_layPart 58 = .ok (.iconst 1, 1) := by decide +kernel
theorem dX6_layPart_59 : decode cX6_layPart 59 = .ok (.ishr, 1) := by decide +kernel
theorem dX6_layPart_60 : decode cX6_layPart 60 = .ok (.istore_n 3, 1) := by decide +kernel
theorem dX6_layPart_61 : decode cX6_layPart 61 = .ok (.iload_n 3, 1) := by decide +kernel
theorem dX6_layPart_62 : decode cX6_layPart 62 = .ok (.ifCond .le 76, 3) := by decide +kernel
theorem dX6_layPart_65 : decode cX6_layPart 65 = .ok (.aload_n 0, 1) := by decide +kernel
theorem dX6_layPart_66 : decode cX6_layPart 66 = .ok (.getfield 69, 3) := by decide +kernel
theorem dX6_layPart_69 : decode cX6_layPart 69 = .ok (.aload_n 0, 1) := by decide +kernel
theorem dX6_layPart_70 : decode cX6_layPart 70 = .ok (.getfield 66, 3) := by decide +kernel
theorem dX6_layPart_73 : decode cX6_layPart 73 = .ok (.isub, 1) := by decide +kernel
theorem dX6_layPart_74 : decode cX6_layPart 74 = .ok (.iconst 2, 1) := by decide +kernel
theorem dX6_layPart_75 : decode cX6_layPart 75 = .ok (.if_icmp .ge 5, 3) := by decide +kernel
theorem dX6_layPart_78 : decode cX6_layPart 78 = .ok (.iconst 0, 1) := by decide +kernel
theorem dX6_layPart_79 : decode cX6_layPart 79 = .ok (.ireturn, 1) := by decide +kernel
theorem dX6_layPart_80 : decode cX6_layPart 80 = .ok (.aload_n 0, 1) := by decide +kernel
theorem dX6_layPart_81 : decode cX6_layPart 81 = .ok (.getfield 66, 3) := by decide +kernel
theorem dX6_layPart_84 : decode cX6_layPart 84 = .ok (.aload_n 0, 1) := by decide +kernel
theorem dX6_layPart_85 : decode cX6_layPart 85 = .ok (.getfield 69, 3) := by decide +kernel
theorem dX6_layPart_88 : decode cX6_layPart 88 = .ok (.aload_n 0, 1) := by decide +kernel
theorem dX6_layPart_89 : decode cX6_layPart 89 = .ok (.getfield 66, 3) := by decide +kernel
theorem dX6_layPart_92 : decode cX6_layPart 92 = .ok (.isub, 1) := by decide +kernel
theorem dX6_layPart_93 : decode cX6_layPart 93 = .ok (.iconst 1, 1) := by decide +kernel
theorem dX6_layPart_94 : decode cX6_layPart 94 = .ok (.iadd, 1) := by decide +kernel
theorem dX6_layPart_95 : decode cX6_layPart 95 = .ok (.iconst 2, 1) := by decide +kernel
theorem dX6_layPart_96 : decode cX6_layPart 96 = .ok (.idiv, 1) := by decide +kernel
theorem dX6_layPart_97 : decode cX6_layPart 97 = .ok (.iadd, 1) := by decide +kernel
theorem dX6_layPart_98 : decode cX6_layPart 98 = .ok (.istore 4, 2) := by decide +kernel
theorem dX6_layPart_100 : decode cX6_layPart 100 = .ok (.iload_n 1, 1) := by decide +kernel
theorem dX6_layPart_101 : decode cX6_layPart 101 = .ok (.iload_n 3, 1) := by decide +kernel
theorem dX6_layPart_102 : decode cX6_layPart 102 = .ok (.iand, 1) := by decide +kernel
theorem dX6_layPart_103 : decode cX6_layPart 103 = .ok (.ifCond .ne 12, 3) := by decide +kernel
theorem dX6_layPart_106 : decode cX6_layPart 106 = .ok (.aload_n 0, 1) := by decide +kernel
theorem dX6_layPart_107 : decode cX6_layPart 107 = .ok (.iload 4, 2) := by decide +kernel
theorem dX6_layPart_109 : decode cX6_layPart 109 = .ok (.putfield 69, 3) := by decide +kernel
theorem dX6_layPart_112 : decode cX6_layPart 112 = .ok (.goto 9, 3) := by decide +kernel
theorem dX6_layPart_115 : decode cX6_layPart 115 = .ok (.aload_n 0, 1) := by decide +kernel
theorem dX6_layPart_116 : decode cX6_layPart 116 = .ok (.iload 4, 2) := by decide +kernel
theorem dX6_layPart_118 : decode cX6_layPart 118 = .ok (.putfield 66, 3) := by decide +kernel
theorem dX6_layPart_121 : decode cX6_layPart 121 = .ok (.aload_n 0, 1) := by decide +kernel
theorem dX6_layPart_122 : decode cX6_layPart 122 = .ok (.dup, 1) := by decide +kernel
theorem dX6_layPart_123 : decode cX6_layPart 123 = .ok (.getfield 72, 3) := by decide +kernel
theorem dX6_layPart_126 : decode cX6_layPart 126 = .ok (.iconst 1, 1) := by decide +kernel
theorem dX6_layPart_127 : decode cX6_layPart 127 = .ok (.iadd, 1) := by decide +kernel
theorem dX6_layPart_128 : decode cX6_layPart 128 = .ok (.putfield 72, 3) := by decide +kernel
theorem dX6_layPart_131 : decode cX6_layPart 131 = .ok (.iload_n 3, 1) := by decide +kernel
theorem dX6_layPart_132 : decode cX6_layPart 132 = .ok (.iconst 1, 1) := by decide +kernel
theorem dX6_layPart_133 : decode cX6_layPart 133 = .ok (.ishr, 1) := by decide +kernel
theorem dX6_layPart_134 : decode cX6_layPart 134 = .ok (.istore_n 3, 1) := by decide +kernel
theorem dX6_layPart_135 : decode cX6_layPart 135 = .ok (.goto (-74), 3) := by decide +kernel
theorem dX6_layPart_138 : decode cX6_layPart 138 = .ok (.iconst 1, 1) := by decide +kernel
theorem dX6_layPart_139 : decode cX6_layPart 139 = .ok (.ireturn, 1) := by decide +kernel
theorem dX6_cross_0 : decode cX6_cross 0 = .ok (.lload 4, 2) := by decide +kernel
theorem dX6_cross_2 : decode cX6_cross 2 = .ok (.lload_n 0, 1) := by decide +kernel
theorem dX6_cross_3 : decode cX6_cross 3 = .ok (.lsub, 1) := by decide +kernel
theorem dX6_cross_4 : decode cX6_cross 4 = .ok (.lload 10, 2) := by decide +kernel
theorem dX6_cross_6 : decode cX6_cross 6 = .ok (.lload_n 2, 1) := by decide +kernel
theorem dX6_cross_7 : decode cX6_cross 7 = .ok (.lsub, 1) := by decide +kernel
theorem dX6_cross_8 : decode cX6_cross 8 = .ok (.lmul, 1) := by decide +kernel
theorem dX6_cross_9 : decode cX6_cross 9 = .ok (.lload 6, 2) := by decide +kernel
theorem dX6_cross_11 : decode cX6_cross 11 = .ok (.lload_n 2, 1) := by decide +kernel
theorem dX6_cross_12 : decode cX6_cross 12 = .ok (.lsub, 1) := by decide +kernel
theorem dX6_cross_13 : decode cX6_cross 13 = .ok (.lload 8, 2) := by decide +kernel
theorem dX6_cross_15 : decode cX6_cross 15 = .ok (.lload_n 0, 1) := by decide +kernel
theorem dX6_cross_16 : decode cX6_cross 16 = .ok (.lsub, 1) := by decide +kernel
theorem dX6_cross_17 : decode cX6_cross 17 = .ok (.lmul, 1) := by decide +kernel
theorem dX6_cross_18 : decode cX6_cross 18 = .ok (.lsub, 1) := by decide +kernel
theorem dX6_cross_19 : decode cX6_cross 19 = .ok (.lreturn, 1) := by decide +kernel
set_option maxRecDepth 20000 in
theorem ggX6_bend_X6_cross : GoodIn wsX6_bend wsX6_cross := goodIn_r _ [6] (by decide +kernel) (by decide +kernel)
set_option maxRecDepth 20000 in
theorem gX6_bend_X6_cross : GoodIn wsX6_bend (va_wsS RX6 75 yX6_cross wsX6_cross) := goodIn_app (goodIn_of _ (by decide +kernel)) ggX6_bend_X6_cross
theorem dX6_bend_0 : decode cX6_bend 0 = .ok (.aload_n 0, 1) := by decide +kernel
theorem dX6_bend_1 : decode cX6_bend 1 = .ok (.getfield 7, 3) := by decide +kernel
theorem dX6_bend_4 : decode cX6_bend 4 = .ok (.iload_n 1, 1) := by decide +kernel
theorem dX6_bend_5 : decode cX6_bend 5 = .ok (.iaload, 1) := by decide +kernel
theorem dX6_bend_6 : decode cX6_bend 6 = .ok (.i2l, 1) := by decide +kernel
theorem dX6_bend_7 : decode cX6_bend 7 = .ok (.aload_n 0, 1) := by decide +kernel
theorem dX6_bend_8 : decode cX6_bend 8 = .ok (.getfield 13, 3) := by decide +kernel
theorem dX6_bend_11 : decode cX6_bend 11 = .ok (.iload_n 1, 1) := by decide +kernel
theorem dX6_bend_12 : decode cX6_bend 12 = .ok (.iaload, 1) := by decide +kernel
theorem dX6_bend_13 : decode cX6_bend 13 = .ok (.i2l, 1) := by decide +kernel
theorem dX6_bend_14 : decode cX6_bend 14 = .ok (.aload_n 0, 1) := by decide +kernel
theorem dX6_bend_15 : decode cX6_bend 15 = .ok (.getfield 7, 3) := by decide +kernel
theorem dX6_bend_18 : decode cX6_bend 18 = .ok (.iload_n 2, 1) := by decide +kernel
theorem dX6_bend_19 : decode cX6_bend 19 = .ok (.iaload, 1) := by decide +kernel
theorem dX6_bend_20 : decode cX6_bend 20 = .ok (.i2l, 1) := by decide +kernel
theorem dX6_bend_21 : decode cX6_bend 21 = .ok (.aload_n 0, 1) := by decide +kernel
theorem dX6_bend_22 : decode cX6_bend 22 = .ok (.getfield 13, 3) := by decide +kernel
theorem dX6_bend_25 : decode cX6_bend 25 = .ok (.iload_n 2, 1) := by decide +kernel
theorem dX6_bend_26 : decode cX6_bend 26 = .ok (.iaload, 1) := by decide +kernel
theorem dX6_bend_27 : decode cX6_bend 27 = .ok (.i2l, 1) := by decide +kernel
theorem dX6_bend_28 : decode cX6_bend 28 = .ok (.aload_n 0, 1) := by decide +kernel
theorem dX6_bend_29 : decode cX6_bend 29 = .ok (.getfield 7, 3) := by decide +kernel
theorem dX6_bend_32 : decode cX6_bend 32 = .ok (.iload_n 3, 1) := by decide +kernel
theorem dX6_bend_33 : decode cX6_bend 33 = .ok (.iaload, 1) := by decide +kernel
theorem dX6_bend_34 : decode cX6_bend 34 = .ok (.i2l, 1) := by decide +kernel
theorem dX6_bend_35 : decode cX6_bend 35 = .ok (.aload_n 0, 1) := by decide +kernel
theorem dX6_bend_36 : decode cX6_bend 36 = .ok (.getfield 13, 3) := by decide +kernel
theorem dX6_bend_39 : decode cX6_bend 39 = .ok (.iload_n 3, 1) := by decide +kernel
theorem dX6_bend_40 : decode cX6_bend 40 = .ok (.iaload, 1) := by decide +kernel
theorem dX6_bend_41 : decode cX6_bend 41 = .ok (.i2l, 1) := by decide +kernel
theorem dX6_bend_42 : decode cX6_bend 42 = .ok (.invokestatic 75, 3) := by decide +kernel
theorem dX6_bend_45 : decode cX6_bend 45 = .ok (.lreturn, 1) := by decide +kernel
set_option maxRecDepth 20000 in
theorem ggX6_layChain_X6_bend : GoodIn wsX6_layChain wsX6_bend := goodIn_r _ [11, 5, 12, 13, 14, 10, 15, 16, 17, 18, 19, 20, 21, 22, 23, 24, 25, 26, 27, 28, 29, 30, 31] (by decide +kernel) (by decide +kernel)
set_option maxRecDepth 20000 in
theorem gX6_layChain_X6_bend : GoodIn wsX6_layChain (wsV RX6 82 RX6 yX6_bend wsX6_bend) := goodIn_app (goodIn_of _ (by decide +kernel)) ggX6_layChain_X6_bend
theorem dX6_layChain_0 : decode cX6_layChain 0 = .ok (.aload_n 0, 1) := by decide +kernel
theorem dX6_layChain_1 : decode cX6_layChain 1 = .ok (.iconst 0, 1) := by decide +kernel
theorem dX6_layChain_2 : decode cX6_layChain 2 = .ok (.putfield 79, 3) := by decide +kernel
theorem dX6_layChain_5 : decode cX6_layChain 5 = .ok (.aload_n 0, 1) := by decide +kernel
theorem dX6_layChain_6 : decode cX6_layChain 6 = .ok (.getfield 66, 3) := by decide +kernel
theorem dX6_layChain_9 : decode cX6_layChain 9 = .ok (.istore_n 2, 1) := by decide +kernel
theorem dX6_layChain_10 : decode cX6_layChain 10 = .ok (.iload_n 2, 1) := by decide +kernel
theorem dX6_layChain_11 : decode cX6_layChain 11 = .ok (.aload_n 0, 1) := by decide +kernel
theorem dX6_layChain_12 : decode cX6_layChain 12 = .ok (.getfield 69, 3) := by decide +kernel
theorem dX6_layChain_15 : decode cX6_layChain 15 = .ok (.if_icmp .ge 214, 3) := by decide +kernel
theorem dX6_layChain_18 : decode cX6_layChain 18 = .ok (.aload_n 0, 1) := by decide +kernel
theorem dX6_layChain_19 : decode cX6_layChain 19 = .ok (.getfield 20, 3) := by decide +kernel
theorem dX6_layChain_22 : decode cX6_layChain 22 = .ok (.iload_n 2, 1) := by decide +kernel
theorem dX6_layChain_23 : decode cX6_layChain 23 = .ok (.iaload, 1) := by decide +kernel
theorem dX6_layChain_24 : decode cX6_layChain 24 = .ok (.istore_n 3, 1) := by decide +kernel
theorem dX6_layChain_25 : decode cX6_layChain 25 = .ok (.iload_n 1, 1) := by decide +kernel
theorem dX6_layChain_26 : decode cX6_layChain 26 = .ok (.ifCond .ne 43, 3) := by decide +kernel
theorem dX6_layChain_29 : decode cX6_layChain 29 = .ok (.iload_n 2, 1) := by decide +kernel
theorem dX6_layChain_30 : decode cX6_layChain 30 = .ok (.iconst 1, 1) := by decide +kernel
theorem dX6_layChain_31 : decode cX6_layChain 31 = .ok (.iadd, 1) := by decide +kernel
theorem dX6_layChain_32 : decode cX6_layChain 32 = .ok (.aload_n 0, 1) := by decide +kernel
theorem dX6_layChain_33 : decode cX6_layChain 33 = .ok (.getfield 69, 3) := by decide +kernel
theorem dX6_layChain_36 : decode cX6_layChain 36 = .ok (.if_icmp .ge 29, 3) := by decide +kernel
theorem dX6_layChain_39 : decode cX6_layChain 39 = .ok (.aload_n 0, 1) := by decide +kernel
theorem dX6_layChain_40 : decode cX6_layChain 40 = .ok (.getfield 7, 3) := by decide +kernel
theorem dX6_layChain_43 : decode cX6_layChain 43 = .ok (.aload_n 0, 1) := by decide +kernel
theorem dX6_layChain_44 : decode cX6_layChain 44 = .ok (.getfield 20, 3) := by decide +kernel
theorem dX6_layChain_47 : decode cX6_layChain 47 = .ok (.iload_n 2, 1) := by decide +kernel
theorem dX6_layChain_48 : decode cX6_layChain 48 = .ok (.iconst 1, 1) := by decide +kernel
theorem dX6_layChain_49 : decode cX6_layChain 49 = .ok (.iadd, 1) := by decide +kernel
theorem dX6_layChain_50 : decode cX6_layChain 50 = .ok (.iaload, 1) := by decide +kernel
theorem dX6_layChain_51 : decode cX6_layChain 51 = .ok (.iaload, 1) := by decide +kernel
theorem dX6_layChain_52 : decode cX6_layChain 52 = .ok (.aload_n 0, 1) := by decide +kernel
theorem dX6_layChain_53 : decode cX6_layChain 53 = .ok (.getfield 7, 3) := by decide +kernel
theorem dX6_layChain_56 : decode cX6_layChain 56 = .ok (.iload_n 3, 1) := by decide +kernel
theorem dX6_layChain_57 : decode cX6_layChain 57 = .ok (.iaload, 1) := by decide +kernel
theorem dX6_layChain_58 : decode cX6_layChain 58 = .ok (.if_icmp .ne 7, 3) := by decide +kernel
theorem dX6_layChain_61 : decode cX6_layChain 61 = .ok (.iconst 1, 1) := by decide +kernel
theorem dX6_layChain_62 : decode cX6_layChain 62 = .ok (.goto 42, 3) := by decide +kernel
theorem dX6_layChain_65 : decode cX6_layChain 65 = .ok (.iconst 0, 1) := by decide +kernel
theorem dX6_layChain_66 : decode cX6_layChain 66 = .ok (.goto 38, 3) := by decide +kernel
theorem dX6_layChain_69 : decode cX6_layChain 69 = .ok (.iload_n 2, 1) := by decide +kernel
theorem dX6_layChain_70 : decode cX6_layChain 70 = .ok (.aload_n 0, 1) := by decide +kernel
theorem dX6_layChain_71 : decode cX6_layChain 71 = .ok (.getfield 66, 3) := by decide +kernel
theorem dX6_layChain_74 : decode cX6_layChain 74 = .ok (.if_icmp .le 29, 3) := by decide +kernel
theorem dX6_layChain_77 : decode cX6_layChain 77 = .ok (.aload_n 0, 1) := by decide +kernel
theorem dX6_layChain_78 : decode cX6_layChain 78 = .ok (.getfield 7, 3) := by decide +kernel
theorem dX6_layChain_81 : decode cX6_layChain 81 = .ok (.aload_n 0, 1) := by decide +kernel
theorem dX6_layChain_82 : decode cX6_layChain 82 = .ok (.getfield 20, 3) := by decide +kernel
theorem dX6_layChain_85 : decode cX6_layChain 85 = .ok (.iload_n 2, 1) := by decide +kernel
theorem dX6_layChain_86 : decode cX6_layChain 86 = .ok (.iconst 1, 1) := by decide +kernel
theorem dX6_layChain_87 : decode cX6_layChain 87 = .ok (.isub, 1) := by decide +kernel
theorem dX6_layChain_88 : decode cX6_layChain 88 = .ok (.iaload, 1) := by decide +kernel
theorem dX6_layChain_89 : decode cX6_layChain 89 = .ok (.iaload, 1) := by decide +kernel
theorem dX6_layChain_90 : decode cX6_layChain 90 = .ok (.aload_n 0, 1) := by decide +kernel
theorem dX6_layChain_91 : decode cX6_layChain 91 = .ok (.getfield 7, 3) := by decide +kernel
theorem dX6_layChain_94 : decode cX6_layChain 94 = .ok (.iload_n 3, 1) := by decide +kernel
theorem dX6_layChain_95 : decode cX6_layChain 95 = .ok (.iaload, 1) := by decide +kernel
theorem dX6_layChain_96 : decode cX6_layChain 96 = .ok (.if_icmp .ne 7, 3) := by decide +kernel
theorem dX6_layChain_99 : decode cX6_layChain 99 = .ok (.iconst 1, 1) := by decide +kernel
theorem dX6_layChain_100 : decode cX6_layChain 100 = .ok (.goto 4, 3) := by decide +kernel
theorem dX6_layChain_103 : decode cX6_layChain 103 = .ok (.iconst 0, 1) := by decide +kernel
theorem dX6_layChain_104 : decode cX6_layChain 104 = .ok (.istore 4, 2) := by decide +kernel
theorem dX6_layChain_106 : decode cX6_layChain 106 = .ok (.iload 4, 2) := by decide +kernel
theorem dX6_layChain_108 : decode cX6_layChain 108 = .ok (.ifCond .ne 115, 3) := by decide +kernel
theorem dX6_layChain_111 : decode cX6_layChain 111 = .ok (.aload_n 0, 1) := by decide +kernel
theorem dX6_layChain_112 : decode cX6_layChain 112 = .ok (.getfield 79, 3) := by decide +kernel
theorem dX6_layChain_115 : decode cX6_layChain 115 = .ok (.iconst 1, 1) := by decide +kernel
theorem dX6_layChain_116 : decode cX6_layChain 116 = .ok (.if_icmp .le 87, 3) := by decide +kernel
theorem dX6_layChain_119 : decode cX6_layChain 119 = .ok (.iload_n 1, 1) := by decide +kernel
theorem dX6_layChain_120 : decode cX6_layChain 120 = .ok (.ifCond .ne 38, 3) := by decide +kernel
theorem dX6_layChain_123 : decode cX6_layChain 123 = .ok (.aload_n 0, 1) := by decide +kernel
theorem dX6_layChain_124 : decode cX6_layChain 124 = .ok (.aload_n 0, 1) := by decide +kernel
theorem dX6_layChain_125 : decode cX6_layChain 125 = .ok (.getfield 26, 3) := by decide +kernel
theorem dX6_layChain_128 : decode cX6_layChain 128 = .ok (.aload_n 0, 1) := by decide +kernel
theorem dX6_layChain_129 : decode cX6_layChain 129 = .ok (.getfield 79, 3) := by decide +kernel
theorem dX6_layChain_132 : decode cX6_layChain 132 = .ok (.iconst 2, 1) := by decide +kernel
theorem dX6_layChain_133 : decode cX6_layChain 133 = .ok (.isub, 1) := by decide +kernel
theorem dX6_layChain_134 : decode cX6_layChain 134 = .ok (.iaload, 1) := by decide +kernel
theorem dX6_layChain_135 : decode cX6_layChain 135 = .ok (.aload_n 0, 1) := by decide +kernel
theorem dX6_layChain_136 : decode cX6_layChain 136 = .ok (.getfield 26, 3) := by decide +kernel
theorem dX6_layChain_139 : decode cX6_layChain 139 = .ok (.aload_n 0, 1) := by decide +kernel
theorem dX6_layChain_140 : decode cX6_layChain 140 = .ok (.getfield 79, 3) := by decide +kernel
theorem dX6_layChain_143 : decode cX6_layChain 143 = .ok (.iconst 1, 1) := by decide +kernel
theorem dX6_layChain_144 : decode cX6_layChain 144 = .ok (.isub, 1) := by decide +kernel
theorem dX6_layChain_145 : decode cX6_layChain 145 = .ok (.iaload, 1) := by decide +kernel
theorem dX6_layChain_146 : decode cX6_layChain 146 = .ok (.iload_n 3, 1) := by decide +kernel
theorem dX6_layChain_147 : decode cX6_layChain 147 = .ok (.invokevirtual 82, 3) := by decide +kernel
theorem dX6_layChain_150 : decode cX6_layChain 150 = .ok (.lconst 0, 1) := by decide +kernel
theorem dX6_layChain_151 : decode cX6_layChain 151 = .ok (.lcmp, 1) := by decide +kernel
theorem dX6_layChain_152 : decode cX6_layChain 152 = .ok (.ifCond .lt 51, 3) := by decide +kernel
theorem dX6_layChain_155 : decode cX6_layChain 155 = .ok (.goto 35, 3) := by decide +kernel
theorem dX6_layChain_158 : decode cX6_layChain 158 = .ok (.aload_n 0, 1) := by decide +kernel
theorem dX6_layChain_159 : decode cX6_layChain 159 = .ok (.aload_n 0, 1) := by decide +kernel
theorem dX6_layChain_160 : decode cX6_layChain 160 = .ok (.getfield 26, 3) := by decide +kernel
theorem dX6_layChain_163 : decode cX6_layChain 163 = .ok (.aload_n 0, 1) := by decide +kernel
theorem dX6_layChain_164 : decode cX6_layChain 164 = .ok (.getfield 79, 3) := by decide +kernel
theorem dX6_layChain_167 : decode cX6_layChain 167 = .ok (.iconst 2, 1) := by decide +kernel
theorem dX6_layChain_168 : decode cX6_layChain 168 = .ok (.isub, 1) := by decide +kernel
theorem dX6_layChain_169 : decode cX6_layChain 169 = .ok (.iaload, 1) := by decide +kernel
theorem dX6_layChain_170 : decode cX6_layChain 170 = .ok (.aload_n 0, 1) := by decide +kernel
theorem dX6_layChain_171 : decode cX6_layChain 171 = .ok (.getfield 26, 3) := by decide +kernel
theorem dX6_layChain_174 : decode cX6_layChain 174 = .ok (.aload_n 0, 1) := by decide +kernel
theorem dX6_layChain_175 : decode cX6_layChain 175 = .ok (.getfield 79, 3) := by decide +kernel
theorem dX6_layChain_178 : decode cX6_layChain 178 = .ok (.iconst 1, 1) := by decide +kernel
theorem dX6_layChain_179 : decode cX6_layChain 179 = .ok (.isub, 1) := by decide +kernel
theorem dX6_layChain_180 : decode cX6_layChain 180 = .ok (.iaload, 1) := by decide +kernel
theorem dX6_layChain_181 : decode cX6_layChain 181 = .ok (.iload_n 3, 1) := by decide +kernel
theorem dX6_layChain_182 : decode cX6_layChain 182 = .ok (.invokevirtual 82, 3) := by decide +kernel
theorem dX6_layChain_185 : decode cX6_layChain 185 = .ok (.lconst 0, 1) := by decide +kernel
theorem dX6_layChain_186 : decode cX6_layChain 186 = .ok (.lcmp, 1) := by decide +kernel
theorem dX6_layChain_187 : decode cX6_layChain 187 = .ok (.ifCond .gt 16, 3) := by decide +kernel
theorem dX6_layChain_190 : decode cX6_layChain 190 = .ok (.aload_n 0, 1) := by decide +kernel
theorem dX6_layChain_191 : decode cX6_layChain 191 = .ok (.dup, 1) := by decide +kernel
theorem dX6_layChain_192 : decode cX6_layChain 192 = .ok (.getfield 79, 3) := by decide +kernel
theorem dX6_layChain_195 : decode cX6_layChain 195 = .ok (.iconst 1, 1) := by decide +kernel
theorem dX6_layChain_196 : decode cX6_layChain 196 = .ok (.isub, 1) := by decide +kernel
theorem dX6_layChain_197 : decode cX6_layChain 197 = .ok (.putfield 79, 3) := by decide +kernel
theorem dX6_layChain_200 : decode cX6_layChain 200 = .ok (.goto (-89), 3) := by decide +kernel
theorem dX6_layChain_203 : decode cX6_layChain 203 = .ok (.aload_n 0, 1) := by decide +kernel
theorem dX6_layChain_204 : decode cX6_layChain 204 = .ok (.getfield 26, 3) := by decide +kernel
theorem dX6_layChain_207 : decode cX6_layChain 207 = .ok (.aload_n 0, 1) := by decide +kernel
theorem dX6_layChain_208 : decode cX6_layChain 208 = .ok (.getfield 79, 3) := by decide +kernel
theorem dX6_layChain_211 : decode cX6_layChain 211 = .ok (.iload_n 3, 1) := by decide +kernel
theorem dX6_layChain_212 : decode cX6_layChain 212 = .ok (.iastore, 1) := by decide +kernel
theorem dX6_layChain_213 : decode cX6_layChain 213 = .ok (.aload_n 0, 1) := by decide +kernel
theorem dX6_layChain_214 : decode cX6_layChain 214 = .ok (.dup, 1) := by decide +kernel
theorem dX6_layChain_215 : decode cX6_layChain 215 = .ok (.getfield 79, 3) := by decide +kernel
theorem dX6_layChain_218 : decode cX6_layChain 218 = .ok (.iconst 1, 1) := by decide +kernel
theorem dX6_layChain_219 : decode cX6_layChain 219 = .ok (.iadd, 1) := by decide +kernel
theorem dX6_layChain_220 : decode cX6_layChain 220 = .ok (.putfield 79, 3) := by decide +kernel
theorem dX6_layChain_223 : decode cX6_layChain 223 = .ok (.iinc 2 1, 3) := by decide +kernel
theorem dX6_layChain_226 : decode cX6_layChain 226 = .ok (.goto (-216), 3) := by decide +kernel
theorem dX6_layChain_229 : decode cX6_layChain 229 = .ok (.return_, 1) := by decide +kernel
theorem dX6_cornerSet_0 : decode cX6_cornerSet 0 = .ok (.lconst 0, 1) := by decide +kernel
theorem dX6_cornerSet_1 : decode cX6_cornerSet 1 = .ok (.lstore_n 1, 1) := by decide +kernel
theorem dX6_cornerSet_2 : decode cX6_cornerSet 2 = .ok (.iconst 0, 1) := by decide +kernel
theorem dX6_cornerSet_3 : decode cX6_cornerSet 3 = .ok (.istore_n 3, 1) := by decide +kernel
theorem dX6_cornerSet_4 : decode cX6_cornerSet 4 = .ok (.iload_n 3, 1) := by decide +kernel
theorem dX6_cornerSet_5 : decode cX6_cornerSet 5 = .ok (.aload_n 0, 1) := by decide +kernel
theorem dX6_cornerSet_6 : decode cX6_cornerSet 6 = .ok (.getfield 79, 3) := by decide +kernel
theorem dX6_cornerSet_9 : decode cX6_cornerSet 9 = .ok (.if_icmp .ge 20, 3) := by decide +kernel
theorem dX6_cornerSet_12 : decode cX6_cornerSet 12 = .ok (.lload_n 1, 1) := by decide +kernel
theorem dX6_cornerSet_13 : decode cX6_cornerSet 13 = .ok (.lconst 1, 1) := by decide +kernel
theorem dX6_cornerSet_14 : decode cX6_cornerSet 14 = .ok (.aload_n 0, 1) := by decide +kernel
theorem dX6_cornerSet_15 : decode cX6_cornerSet 15 = .ok (.getfield 26, 3) := by decide +kernel
theorem dX6_cornerSet_18 : decode cX6_cornerSet 18 = .ok (.iload_n 3, 1) := by decide +kernel
theorem dX6_cornerSet_19 : decode cX6_cornerSet 19 = .ok (.iaload, 1) := by decide +kernel
theorem dX6_cornerSet_20 : decode cX6_cornerSet 20 = .ok (.lshl, 1) := by decide +kernel
theorem dX6_cornerSet_21 : decode cX6_cornerSet 21 = .ok (.lor, 1) := by decide +kernel
theorem dX6_cornerSet_22 : decode cX6_cornerSet 22 = .ok (.lstore_n 1, 1) := by decide +kernel
theorem dX6_cornerSet_23 : decode cX6_cornerSet 23 = .ok (.iinc 3 1, 3) := by decide +kernel
theorem dX6_cornerSet_26 : decode cX6_cornerSet 26 = .ok (.goto (-22), 3) := by decide +kernel
theorem dX6_cornerSet_29 : decode cX6_cornerSet 29 = .ok (.lload_n 1, 1) := by decide +kernel
theorem dX6_cornerSet_30 : decode cX6_cornerSet 30 = .ok (.lreturn, 1) := by decide +kernel
set_option maxRecDepth 20000 in
theorem ggX6_chainSet_X6_layPart : GoodIn wsX6_chainSet wsX6_layPart := goodIn_r _ [5, 6, 7, 8, 9, 10, 11, 12, 4, 13, 14, 15, 16, 17, 18, 19, 20, 21, 39, 40, 41, 42, 43, 44, 45, 46, 47, 48, 49, 50, 51, 52, 53, 54] (by decide +kernel) (by decide +kernel)
set_option maxRecDepth 20000 in
theorem gX6_chainSet_X6_layPart : GoodIn wsX6_chainSet (wsV RX6 86 RX6 yX6_layPart wsX6_layPart) := goodIn_app (goodIn_of _ (by decide +kernel)) ggX6_chainSet_X6_layPart
set_option maxRecDepth 20000 in
theorem ggX6_chainSet_X6_layChain : GoodIn wsX6_chainSet wsX6_layChain := goodIn_r _ [25, 26, 7, 8, 16, 15, 27, 28, 29, 30, 4, 31, 17, 32, 33, 34, 39, 40, 41, 42, 43, 44, 45, 46, 47, 48, 49, 50, 51, 52, 53, 54] (by decide +kernel) (by decide +kernel)
set_option maxRecDepth 20000 in
theorem gX6_chainSet_X6_layChain : GoodIn wsX6_chainSet (wsV RX6 89 RX6 yX6_layChain wsX6_layChain) := goodIn_app (goodIn_of _ (by decide +kernel)) ggX6_chainSet_X6_layChain
set_option maxRecDepth 20000 in
theorem ggX6_chainSet_X6_cornerSet : GoodIn wsX6_chainSet wsX6_cornerSet := goodIn_r _ [38, 26, 27, 39, 40, 41, 42, 43, 44, 45, 46, 47, 48, 49, 50, 51, 52, 53, 54] (by decide +kernel) (by decide +kernel)
set_option maxRecDepth 20000 in
theorem gX6_chainSet_X6_cornerSet : GoodIn wsX6_chainSet (wsV RX6 93 RX6 yX6_cornerSet wsX6_cornerSet) := goodIn_app (goodIn_of _ (by decide +kernel)) ggX6_chainSet_X6_cornerSet
theorem dX6_chainSet_0 : decode cX6_chainSet 0 = .ok (.aload_n 0, 1) := by decide +kernel
theorem dX6_chainSet_1 : decode cX6_chainSet 1 = .ok (.iload_n 1, 1) := by decide +kernel
theorem dX6_chainSet_2 : decode cX6_chainSet 2 = .ok (.invokevirtual 86, 3) := by decide +kernel
theorem dX6_chainSet_5 : decode cX6_chainSet 5 = .ok (.ifCond .ne 5, 3) := by decide +kernel
theorem dX6_chainSet_8 : decode cX6_chainSet 8 = .ok (.lconst 0, 1) := by decide +kernel
theorem dX6_chainSet_9 : decode cX6_chainSet 9 = .ok (.lreturn, 1) := by decide +kernel
theorem dX6_chainSet_10 : decode cX6_chainSet 10 = .ok (.aload_n 0, 1) := by decide +kernel
theorem dX6_chainSet_11 : decode cX6_chainSet 11 = .ok (.iload_n 2, 1) := by decide +kernel
theorem dX6_chainSet_12 : decode cX6_chainSet 12 = .ok (.invokevirtual 89, 3) := by decide +kernel
theorem dX6_chainSet_15 : decode cX6_chainSet 15 = .ok (.aload_n 0, 1) := by decide +kernel
theorem dX6_chainSet_16 : decode cX6_chainSet 16 = .ok (.invokevirtual 93, 3) := by decide +kernel
theorem dX6_chainSet_19 : decode cX6_chainSet 19 = .ok (.lreturn, 1) := by decide +kernel
