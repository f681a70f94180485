theorem dX6_bits_0 : decode cX6_bits 0 = .ok (.iconst 0, 1) := by decide +kernel
theorem dX6_bits_1 : decode cX6_bits 1 = .ok (.istore_n 2, 1) := by decide +kernel
theorem dX6_bits_2 : decode cX6_bits 2 = .ok (.iconst 0, 1) := by decide +kernel
theorem dX6_bits_3 : decode cX6_bits 3 = .ok (.istore_n 3, 1) := by decide +kernel
theorem dX6_bits_4 : decode cX6_bits 4 = .ok (.iload_n 3, 1) := by decide +kernel
theorem dX6_bits_5 : decode cX6_bits 5 = .ok (.bipush 32, 2) := by decide +kernel
theorem dX6_bits_7 : decode cX6_bits 7 = .ok (.if_icmp .ge 18, 3) := by decide +kernel
theorem dX6_bits_10 : decode cX6_bits 10 = .ok (.iload_n 2, 1) := by decide +kernel
theorem dX6_bits_11 : decode cX6_bits 11 = .ok (.lload_n 0, 1) := by decide +kernel
theorem dX6_bits_12 : decode cX6_bits 12 = .ok (.iload_n 3, 1) := by decide +kernel
theorem dX6_bits_13 : decode cX6_bits 13 = .ok (.lshr, 1) := by decide +kernel
theorem dX6_bits_14 : decode cX6_bits 14 = .ok (.lconst 1, 1) := by decide +kernel
theorem dX6_bits_15 : decode cX6_bits 15 = .ok (.land, 1) := by decide +kernel
theorem dX6_bits_16 : decode cX6_bits 16 = .ok (.l2i, 1) := by decide +kernel
theorem dX6_bits_17 : decode cX6_bits 17 = .ok (.iadd, 1) := by decide +kernel
theorem dX6_bits_18 : decode cX6_bits 18 = .ok (.istore_n 2, 1) := by decide +kernel
theorem dX6_bits_19 : decode cX6_bits 19 = .ok (.iinc 3 1, 3) := by decide +kernel
theorem dX6_bits_22 : decode cX6_bits 22 = .ok (.goto (-18), 3) := by decide +kernel
theorem dX6_bits_25 : decode cX6_bits 25 = .ok (.iload_n 2, 1) := by decide +kernel
theorem dX6_bits_26 : decode cX6_bits 26 = .ok (.ireturn, 1) := by decide +kernel
set_option maxRecDepth 20000 in
theorem ggX6_restOf_X6_chainSet : GoodIn wsX6_restOf wsX6_chainSet := goodIn_r _ [6, 7, 8, 9, 5, 10, 11, 12, 13, 14, 15, 16, 17, 18, 19, 20, 21, 22, 23, 24, 25, 26, 27, 28, 29, 30, 31, 32, 33, 34, 35, 36, 37, 38, 39, 40, 41, 42, 43, 47, 48, 49, 50, 51, 52, 53, 54, 55, 56, 57, 58, 59, 60, 61, 62] (by decide +kernel) (by decide +kernel)
set_option maxRecDepth 20000 in
theorem gX6_restOf_X6_chainSet : GoodIn wsX6_restOf (wsV RX6 97 RX6 yX6_chainSet wsX6_chainSet) := goodIn_app (goodIn_of _ (by decide +kernel)) ggX6_restOf_X6_chainSet
set_option maxRecDepth 20000 in
theorem ggX6_restOf_X6_bits : GoodIn wsX6_restOf wsX6_bits := goodIn_r _ [46] (by decide +kernel) (by decide +kernel)
set_option maxRecDepth 20000 in
theorem gX6_restOf_X6_bits : GoodIn wsX6_restOf (va_wsS RX6 103 yX6_bits wsX6_bits) := goodIn_app (goodIn_of _ (by decide +kernel)) ggX6_restOf_X6_bits
theorem dX6_restOf_0 : decode cX6_restOf 0 = .ok (.iload_n 1, 1) := by decide +kernel
theorem dX6_restOf_1 : decode cX6_restOf 1 = .ok (.iconst 1, 1) := by decide +kernel
theorem dX6_restOf_2 : decode cX6_restOf 2 = .ok (.if_icmp .ne 8, 3) := by decide +kernel
theorem dX6_restOf_5 : decode cX6_restOf 5 = .ok (.bipush (-6), 2) := by decide +kernel
theorem dX6_restOf_7 : decode cX6_restOf 7 = .ok (.goto 25, 3) := by decide +kernel
theorem dX6_restOf_10 : decode cX6_restOf 10 = .ok (.aload_n 0, 1) := by decide +kernel
theorem dX6_restOf_11 : decode cX6_restOf 11 = .ok (.iload_n 1, 1) := by decide +kernel
theorem dX6_restOf_12 : decode cX6_restOf 12 = .ok (.iload_n 2, 1) := by decide +kernel
theorem dX6_restOf_13 : decode cX6_restOf 13 = .ok (.invokevirtual 97, 3) := by decide +kernel
theorem dX6_restOf_16 : decode cX6_restOf 16 = .ok (.aload_n 0, 1) := by decide +kernel
theorem dX6_restOf_17 : decode cX6_restOf 17 = .ok (.iload_n 1, 1) := by decide +kernel
theorem dX6_restOf_18 : decode cX6_restOf 18 = .ok (.iconst 2, 1) := by decide +kernel
theorem dX6_restOf_19 : decode cX6_restOf 19 = .ok (.idiv, 1) := by decide +kernel
theorem dX6_restOf_20 : decode cX6_restOf 20 = .ok (.iload_n 2, 1) := by decide +kernel
theorem dX6_restOf_21 : decode cX6_restOf 21 = .ok (.invokevirtual 97, 3) := by decide +kernel
theorem dX6_restOf_24 : decode cX6_restOf 24 = .ok (.ldc2_w 101, 3) := by decide +kernel
theorem dX6_restOf_27 : decode cX6_restOf 27 = .ok (.lxor, 1) := by decide +kernel
theorem dX6_restOf_28 : decode cX6_restOf 28 = .ok (.land, 1) := by decide +kernel
theorem dX6_restOf_29 : decode cX6_restOf 29 = .ok (.invokestatic 103, 3) := by decide +kernel
theorem dX6_restOf_32 : decode cX6_restOf 32 = .ok (.ireturn, 1) := by decide +kernel
set_option maxRecDepth 20000 in
theorem ggX6_topOf_X6_chainSet : GoodIn wsX6_topOf wsX6_chainSet := goodIn_r _ [6, 7, 8, 9, 5, 10, 11, 12, 13, 1, 14, 15, 16, 17, 18, 19, 20, 21, 22, 23, 24, 25, 26, 27, 28, 29, 30, 31, 32, 33, 34, 35, 36, 37, 38, 39, 40, 41, 42, 43, 44, 45, 46, 47, 48, 49, 50, 51, 52, 53, 54, 55, 56, 57, 58] (by decide +kernel) (by decide +kernel)
set_option maxRecDepth 20000 in
theorem gX6_topOf_X6_chainSet : GoodIn wsX6_topOf (wsV RX6 97 RX6 yX6_chainSet wsX6_chainSet) := goodIn_app (goodIn_of _ (by decide +kernel)) ggX6_topOf_X6_chainSet
theorem dX6_topOf_0 : decode cX6_topOf 0 = .ok (.bipush (-6), 2) := by decide +kernel
theorem dX6_topOf_2 : decode cX6_topOf 2 = .ok (.istore_n 3, 1) := by decide +kernel
theorem dX6_topOf_3 : decode cX6_topOf 3 = .ok (.bipush 63, 2) := by decide +kernel
theorem dX6_topOf_5 : decode cX6_topOf 5 = .ok (.istore 4, 2) := by decide +kernel
theorem dX6_topOf_7 : decode cX6_topOf 7 = .ok (.iload 4, 2) := by decide +kernel
theorem dX6_topOf_9 : decode cX6_topOf 9 = .ok (.ifCond .le 46, 3) := by decide +kernel
theorem dX6_topOf_12 : decode cX6_topOf 12 = .ok (.aload_n 0, 1) := by decide +kernel
theorem dX6_topOf_13 : decode cX6_topOf 13 = .ok (.iload 4, 2) := by decide +kernel
theorem dX6_topOf_15 : decode cX6_topOf 15 = .ok (.iload_n 2, 1) := by decide +kernel
theorem dX6_topOf_16 : decode cX6_topOf 16 = .ok (.invokevirtual 97, 3) := by decide +kernel
theorem dX6_topOf_19 : decode cX6_topOf 19 = .ok (.iload_n 1, 1) := by decide +kernel
theorem dX6_topOf_20 : decode cX6_topOf 20 = .ok (.lshr, 1) := by decide +kernel
theorem dX6_topOf_21 : decode cX6_topOf 21 = .ok (.lconst 1, 1) := by decide +kernel
theorem dX6_topOf_22 : decode cX6_topOf 22 = .ok (.land, 1) := by decide +kernel
theorem dX6_topOf_23 : decode cX6_topOf 23 = .ok (.lconst 1, 1) := by decide +kernel
theorem dX6_topOf_24 : decode cX6_topOf 24 = .ok (.lcmp, 1) := by decide +kernel
theorem dX6_topOf_25 : decode cX6_topOf 25 = .ok (.ifCond .ne 24, 3) := by decide +kernel
theorem dX6_topOf_28 : decode cX6_topOf 28 = .ok (.iload_n 3, 1) := by decide +kernel
theorem dX6_topOf_29 : decode cX6_topOf 29 = .ok (.ifCond .lt 11, 3) := by decide +kernel
theorem dX6_topOf_32 : decode cX6_topOf 32 = .ok (.aload_n 0, 1) := by decide +kernel
theorem dX6_topOf_33 : decode cX6_topOf 33 = .ok (.getfield 72, 3) := by decide +kernel
theorem dX6_topOf_36 : decode cX6_topOf 36 = .ok (.iload_n 3, 1) := by decide +kernel
theorem dX6_topOf_37 : decode cX6_topOf 37 = .ok (.if_icmp .ge 10, 3) := by decide +kernel
theorem dX6_topOf_40 : decode cX6_topOf 40 = .ok (.aload_n 0, 1) := by decide +kernel
theorem dX6_topOf_41 : decode cX6_topOf 41 = .ok (.getfield 72, 3) := by decide +kernel
theorem dX6_topOf_44 : decode cX6_topOf 44 = .ok (.goto 4, 3) := by decide +kernel
theorem dX6_topOf_47 : decode cX6_topOf 47 = .ok (.iload_n 3, 1) := by decide +kernel
theorem dX6_topOf_48 : decode cX6_topOf 48 = .ok (.istore_n 3, 1) := by decide +kernel
theorem dX6_topOf_49 : decode cX6_topOf 49 = .ok (.iinc 4 (-1), 3) := by decide +kernel
theorem dX6_topOf_52 : decode cX6_topOf 52 = .ok (.goto (-45), 3) := by decide +kernel
theorem dX6_topOf_55 : decode cX6_topOf 55 = .ok (.iload_n 3, 1) := by decide +kernel
theorem dX6_topOf_56 : decode cX6_topOf 56 = .ok (.ireturn, 1) := by decide +kernel
set_option maxRecDepth 20000 in
theorem ggX6_point_X6_isPoint : GoodIn wsX6_point wsX6_isPoint := goodIn_r _ [8, 9, 10, 11, 7, 12, 51, 52, 53, 54, 55, 56, 57, 58, 59, 60, 61, 62, 63, 64, 65, 66] (by decide +kernel) (by decide +kernel)
set_option maxRecDepth 20000 in
theorem gX6_point_X6_isPoint : GoodIn wsX6_point (wsV RX6 59 RX6 yX6_isPoint wsX6_isPoint) := goodIn_app (goodIn_of _ (by decide +kernel)) ggX6_point_X6_isPoint
set_option maxRecDepth 20000 in
theorem ggX6_point_X6_layRanks : GoodIn wsX6_point wsX6_layRanks := goodIn_r _ [16, 9, 1, 17, 2, 3, 51, 52, 53, 54, 55, 56, 57, 58, 59, 60, 61, 62, 63, 64, 65, 66] (by decide +kernel) (by decide +kernel)
set_option maxRecDepth 20000 in
theorem gX6_point_X6_layRanks : GoodIn wsX6_point (wsV RX6 63 RX6 yX6_layRanks wsX6_layRanks) := goodIn_app (goodIn_of _ (by decide +kernel)) ggX6_point_X6_layRanks
set_option maxRecDepth 20000 in
theorem ggX6_point_X6_topOf : GoodIn wsX6_point wsX6_topOf := goodIn_r _ [21, 22, 23, 24, 25, 7, 26, 27, 28, 29, 30, 31, 32, 33, 13, 14, 15, 16, 9, 1, 17, 2, 3, 10, 11, 12, 34, 35, 36, 37, 38, 39, 40, 41, 42, 43, 44, 45, 46, 47, 48, 49, 50, 51, 52, 53, 54, 55, 56, 57, 58, 59, 60, 61, 62, 63, 64, 65, 66] (by decide +kernel) (by decide +kernel)
set_option maxRecDepth 20000 in
theorem gX6_point_X6_topOf : GoodIn wsX6_point (wsV RX6 107 RX6 yX6_topOf wsX6_topOf) := goodIn_app (goodIn_of _ (by decide +kernel)) ggX6_point_X6_topOf
theorem dX6_point_0 : decode cX6_point 0 = .ok (.aload_n 0, 1) := by decide +kernel
theorem dX6_point_1 : decode cX6_point 1 = .ok (.iload_n 1, 1) := by decide +kernel
theorem dX6_point_2 : decode cX6_point 2 = .ok (.invokevirtual 59, 3) := by decide +kernel
theorem dX6_point_5 : decode cX6_point 5 = .ok (.ifCond .ne 5, 3) := by decide +kernel
theorem dX6_point_8 : decode cX6_point 8 = .ok (.iconst (-1), 1) := by decide +kernel
theorem dX6_point_9 : decode cX6_point 9 = .ok (.ireturn, 1) := by decide +kernel
theorem dX6_point_10 : decode cX6_point 10 = .ok (.aload_n 0, 1) := by decide +kernel
theorem dX6_point_11 : decode cX6_point 11 = .ok (.invokevirtual 63, 3) := by decide +kernel
theorem dX6_point_14 : decode cX6_point 14 = .ok (.iload_n 2, 1) := by decide +kernel
theorem dX6_point_15 : decode cX6_point 15 = .ok (.tableswitch 68 0 4 #[33, 40, 47, 54, 61], 33) := by decide +kernel
theorem dX6_point_48 : decode cX6_point 48 = .ok (.aload_n 0, 1) := by decide +kernel
theorem dX6_point_49 : decode cX6_point 49 = .ok (.getfield 7, 3) := by decide +kernel
theorem dX6_point_52 : decode cX6_point 52 = .ok (.iload_n 1, 1) := by decide +kernel
theorem dX6_point_53 : decode cX6_point 53 = .ok (.iaload, 1) := by decide +kernel
theorem dX6_point_54 : decode cX6_point 54 = .ok (.ireturn, 1) := by decide +kernel
theorem dX6_point_55 : decode cX6_point 55 = .ok (.aload_n 0, 1) := by decide +kernel
theorem dX6_point_56 : decode cX6_point 56 = .ok (.getfield 13, 3) := by decide +kernel
theorem dX6_point_59 : decode cX6_point 59 = .ok (.iload_n 1, 1) := by decide +kernel
theorem dX6_point_60 : decode cX6_point 60 = .ok (.iaload, 1) := by decide +kernel
theorem dX6_point_61 : decode cX6_point 61 = .ok (.ireturn, 1) := by decide +kernel
theorem dX6_point_62 : decode cX6_point 62 = .ok (.aload_n 0, 1) := by decide +kernel
theorem dX6_point_63 : decode cX6_point 63 = .ok (.getfield 23, 3) := by decide +kernel
theorem dX6_point_66 : decode cX6_point 66 = .ok (.iload_n 1, 1) := by decide +kernel
theorem dX6_point_67 : decode cX6_point 67 = .ok (.iaload, 1) := by decide +kernel
theorem dX6_point_68 : decode cX6_point 68 = .ok (.ireturn, 1) := by decide +kernel
theorem dX6_point_69 : decode cX6_point 69 = .ok (.aload_n 0, 1) := by decide +kernel
theorem dX6_point_70 : decode cX6_point 70 = .ok (.iload_n 1, 1) := by decide +kernel
theorem dX6_point_71 : decode cX6_point 71 = .ok (.iconst 0, 1) := by decide +kernel
theorem dX6_point_72 : decode cX6_point 72 = .ok (.invokevirtual 107, 3) := by decide +kernel
theorem dX6_point_75 : decode cX6_point 75 = .ok (.ireturn, 1) := by decide +kernel
theorem dX6_point_76 : decode cX6_point 76 = .ok (.aload_n 0, 1) := by decide +kernel
theorem dX6_point_77 : decode cX6_point 77 = .ok (.iload_n 1, 1) := by decide +kernel
theorem dX6_point_78 : decode cX6_point 78 = .ok (.iconst 1, 1) := by decide +kernel
theorem dX6_point_79 : decode cX6_point 79 = .ok (.invokevirtual 107, 3) := by decide +kernel
theorem dX6_point_82 : decode cX6_point 82 = .ok (.ireturn, 1) := by decide +kernel
theorem dX6_point_83 : decode cX6_point 83 = .ok (.bipush (-2), 2) := by decide +kernel
theorem dX6_point_85 : decode cX6_point 85 = .ok (.ireturn, 1) := by decide +kernel
set_option maxRecDepth 20000 in
theorem ggX6_ranked_X6_layRanks : GoodIn wsX6_ranked wsX6_layRanks := goodIn_r _ [7, 8, 9, 2, 10, 11, 15, 16, 17, 18, 19, 20, 21, 22, 23, 24, 25, 26, 27, 28, 29, 30] (by decide +kernel) (by decide +kernel)
set_option maxRecDepth 20000 in
theorem gX6_ranked_X6_layRanks : GoodIn wsX6_ranked (wsV RX6 63 RX6 yX6_layRanks wsX6_layRanks) := goodIn_app (goodIn_of _ (by decide +kernel)) ggX6_ranked_X6_layRanks
set_option maxRecDepth 20000 in
theorem ggX6_ranked_X6_in : GoodIn wsX6_ranked wsX6_in := goodIn_r _ [14] (by decide +kernel) (by decide +kernel)
set_option maxRecDepth 20000 in
theorem gX6_ranked_X6_in : GoodIn wsX6_ranked (va_wsS RX6 44 yX6_in wsX6_in) := goodIn_app (goodIn_of _ (by decide +kernel)) ggX6_ranked_X6_in
theorem dX6_ranked_0 : decode cX6_ranked 0 = .ok (.aload_n 0, 1) := by decide +kernel
theorem dX6_ranked_1 : decode cX6_ranked 1 = .ok (.invokevirtual 63, 3) := by decide +kernel
theorem dX6_ranked_4 : decode cX6_ranked 4 = .ok (.iload_n 1, 1) := by decide +kernel
theorem dX6_ranked_5 : decode cX6_ranked 5 = .ok (.iconst 0, 1) := by decide +kernel
theorem dX6_ranked_6 : decode cX6_ranked 6 = .ok (.aload_n 0, 1) := by decide +kernel
theorem dX6_ranked_7 : decode cX6_ranked 7 = .ok (.getfield 55, 3) := by decide +kernel
theorem dX6_ranked_10 : decode cX6_ranked 10 = .ok (.iconst 1, 1) := by decide +kernel
theorem dX6_ranked_11 : decode cX6_ranked 11 = .ok (.isub, 1) := by decide +kernel
theorem dX6_ranked_12 : decode cX6_ranked 12 = .ok (.invokestatic 44, 3) := by decide +kernel
theorem dX6_ranked_15 : decode cX6_ranked 15 = .ok (.ifCond .eq 12, 3) := by decide +kernel
theorem dX6_ranked_18 : decode cX6_ranked 18 = .ok (.aload_n 0, 1) := by decide +kernel
theorem dX6_ranked_19 : decode cX6_ranked 19 = .ok (.getfield 20, 3) := by decide +kernel
theorem dX6_ranked_22 : decode cX6_ranked 22 = .ok (.iload_n 1, 1) := by decide +kernel
theorem dX6_ranked_23 : decode cX6_ranked 23 = .ok (.iaload, 1) := by decide +kernel
theorem dX6_ranked_24 : decode cX6_ranked 24 = .ok (.goto 5, 3) := by decide +kernel
theorem dX6_ranked_27 : decode cX6_ranked 27 = .ok (.bipush (-6), 2) := by decide +kernel
theorem dX6_ranked_29 : decode cX6_ranked 29 = .ok (.ireturn, 1) := by decide +kernel
set_option maxRecDepth 20000 in
theorem ggX6_part_X6_layPart : GoodIn wsX6_part wsX6_layPart := goodIn_r _ [7, 8, 2, 1, 9, 10, 11, 12, 6, 13, 14, 15, 16, 17, 18, 19, 20, 21, 51, 52, 53, 54, 55, 56, 57, 58, 59, 60, 61, 62, 63, 64, 65, 66] (by decide +kernel) (by decide +kernel)
set_option maxRecDepth 20000 in
theorem gX6_part_X6_layPart : GoodIn wsX6_part (wsV RX6 86 RX6 yX6_layPart wsX6_layPart) := goodIn_app (goodIn_of _ (by decide +kernel)) ggX6_part_X6_layPart
set_option maxRecDepth 20000 in
theorem ggX6_part_X6_chainSet : GoodIn wsX6_part wsX6_chainSet := goodIn_r _ [25, 3, 4, 5, 6, 7, 8, 2, 1, 9, 10, 11, 12, 13, 14, 15, 16, 17, 18, 19, 20, 21, 26, 27, 28, 29, 30, 31, 32, 33, 34, 35, 36, 37, 38, 39, 40, 41, 42, 51, 52, 53, 54, 55, 56, 57, 58, 59, 60, 61, 62, 63, 64, 65, 66] (by decide +kernel) (by decide +kernel)
set_option maxRecDepth 20000 in
theorem gX6_part_X6_chainSet : GoodIn wsX6_part (wsV RX6 97 RX6 yX6_chainSet wsX6_chainSet) := goodIn_app (goodIn_of _ (by decide +kernel)) ggX6_part_X6_chainSet
set_option maxRecDepth 20000 in
theorem ggX6_part_X6_bits : GoodIn wsX6_part wsX6_bits := goodIn_r _ [45] (by decide +kernel) (by decide +kernel)
set_option maxRecDepth 20000 in
theorem gX6_part_X6_bits : GoodIn wsX6_part (va_wsS RX6 103 yX6_bits wsX6_bits) := goodIn_app (goodIn_of _ (by decide +kernel)) ggX6_part_X6_bits
set_option maxRecDepth 20000 in
theorem ggX6_part_X6_restOf : GoodIn wsX6_part wsX6_restOf := goodIn_r _ [49, 50, 22, 23, 24, 6, 25, 3, 4, 5, 7, 8, 2, 1, 9, 10, 11, 12, 13, 14, 15, 16, 17, 18, 19, 20, 21, 26, 27, 28, 29, 30, 31, 32, 33, 34, 35, 36, 37, 38, 39, 40, 41, 42, 43, 44, 45, 51, 52, 53, 54, 55, 56, 57, 58, 59, 60, 61, 62, 63, 64, 65, 66] (by decide +kernel) (by decide +kernel)
set_option maxRecDepth 20000 in
theorem gX6_part_X6_restOf : GoodIn wsX6_part (wsV RX6 111 RX6 yX6_restOf wsX6_restOf) := goodIn_app (goodIn_of _ (by decide +kernel)) ggX6_part_X6_restOf
theorem dX6_part_0 : decode cX6_part 0 = .ok (.aload_n 0, 1) := by decide +kernel
theorem dX6_part_1 : decode cX6_part 1 = .ok (.iload_n 1, 1) := by decide +kernel
theorem dX6_part_2 : decode cX6_part 2 = .ok (.invokevirtual 86, 3) := by decide +kernel
theorem dX6_part_5 : decode cX6_part 5 = .ok (.ifCond .ne 5, 3) := by decide +kernel
theorem dX6_part_8 : decode cX6_part 8 = .ok (.iconst (-1), 1) := by decide +kernel
theorem dX6_part_9 : decode cX6_part 9 = .ok (.ireturn, 1) := by decide +kernel
theorem dX6_part_10 : decode cX6_part 10 = .ok (.iload_n 2, 1) := by decide +kernel
theorem dX6_part_11 : decode cX6_part 11 = .ok (.tableswitch 86 0 5 #[37, 47, 52, 62, 72, 79], 37) := by decide +kernel
theorem dX6_part_48 : decode cX6_part 48 = .ok (.aload_n 0, 1) := by decide +kernel
theorem dX6_part_49 : decode cX6_part 49 = .ok (.getfield 69, 3) := by decide +kernel
theorem dX6_part_52 : decode cX6_part 52 = .ok (.aload_n 0, 1) := by decide +kernel
theorem dX6_part_53 : decode cX6_part 53 = .ok (.getfield 66, 3) := by decide +kernel
theorem dX6_part_56 : decode cX6_part 56 = .ok (.isub, 1) := by decide +kernel
theorem dX6_part_57 : decode cX6_part 57 = .ok (.ireturn, 1) := by decide +kernel
theorem dX6_part_58 : decode cX6_part 58 = .ok (.aload_n 0, 1) := by decide +kernel
theorem dX6_part_59 : decode cX6_part 59 = .ok (.getfield 66, 3) := by decide +kernel
theorem dX6_part_62 : decode cX6_part 62 = .ok (.ireturn, 1) := by decide +kernel
theorem dX6_part_63 : decode cX6_part 63 = .ok (.aload_n 0, 1) := by decide +kernel
theorem dX6_part_64 : decode cX6_part 64 = .ok (.iload_n 1, 1) := by decide +kernel
theorem dX6_part_65 : decode cX6_part 65 = .ok (.iconst 0, 1) := by decide +kernel
theorem dX6_part_66 : decode cX6_part 66 = .ok (.invokevirtual 97, 3) := by decide +kernel
theorem dX6_part_69 : decode cX6_part 69 = .ok (.invokestatic 103, 3) := by decide +kernel
theorem dX6_part_72 : decode cX6_part 72 = .ok (.ireturn, 1) := by decide +kernel
theorem dX6_part_73 : decode cX6_part 73 = .ok (.aload_n 0, 1) := by decide +kernel
theorem dX6_part_74 : decode cX6_part 74 = .ok (.iload_n 1, 1) := by decide +kernel
theorem dX6_part_75 : decode cX6_part 75 = .ok (.iconst 1, 1) := by decide +kernel
theorem dX6_part_76 : decode cX6_part 76 = .ok (.invokevirtual 97, 3) := by decide +kernel
theorem dX6_part_79 : decode cX6_part 79 = .ok (.invokestatic 103, 3) := by decide +kernel
theorem dX6_part_82 : decode cX6_part 82 = .ok (.ireturn, 1) := by decide +kernel
theorem dX6_part_83 : decode cX6_part 83 = .ok (.aload_n 0, 1) := by decide +kernel
theorem dX6_part_84 : decode cX6_part 84 = .ok (.iload_n 1, 1) := by decide +kernel
theorem dX6_part_85 : decode cX6_part 85 = .ok (.iconst 0, 1) := by decide +kernel
theorem dX6_part_86 : decode cX6_part 86 = .ok (.invokevirtual 111, 3) := by decide +kernel
theorem dX6_part_89 : decode cX6_part 89 = .ok (.ireturn, 1) := by decide +kernel
theorem dX6_part_90 : decode cX6_part 90 = .ok (.aload_n 0, 1) := by decide +kernel
theorem dX6_part_91 : decode cX6_part 91 = .ok (.iload_n 1, 1) := by decide +kernel
theorem dX6_part_92 : decode cX6_part 92 = .ok (.iconst 1, 1) := by decide +kernel
theorem dX6_part_93 : decode cX6_part 93 = .ok (.invokevirtual 111, 3) := by decide +kernel
theorem dX6_part_96 : decode cX6_part 96 = .ok (.ireturn, 1) := by decide +kernel
theorem dX6_part_97 : decode cX6_part 97 = .ok (.bipush (-2), 2) := by decide +kernel
theorem dX6_part_99 : decode cX6_part 99 = .ok (.ireturn, 1) := by decide +kernel
set_option maxRecDepth 20000 in
theorem ggX6_chain_X6_layPart : GoodIn wsX6_chain wsX6_layPart := goodIn_r _ [7, 8, 9, 10, 11, 12, 13, 14, 6, 15, 16, 17, 18, 19, 20, 21, 22, 23, 35, 36, 37, 38, 39, 40, 41, 42, 43, 44, 45, 46, 47, 48, 49, 50] (by decide +kernel) (by decide +kernel)
set_option maxRecDepth 20000 in
theorem gX6_chain_X6_layPart : GoodIn wsX6_chain (wsV RX6 86 RX6 yX6_layPart wsX6_layPart) := goodIn_app (goodIn_of _ (by decide +kernel)) ggX6_chain_X6_layPart
set_option maxRecDepth 20000 in
theorem ggX6_chain_X6_in : GoodIn wsX6_chain wsX6_in := goodIn_r _ [23] (by decide +kernel) (by decide +kernel)
set_option maxRecDepth 20000 in
theorem gX6_chain_X6_in : GoodIn wsX6_chain (va_wsS RX6 44 yX6_in wsX6_in) := goodIn_app (goodIn_of _ (by decide +kernel)) ggX6_chain_X6_in
set_option maxRecDepth 20000 in
theorem ggX6_chain_X6_layChain : GoodIn wsX6_chain wsX6_layChain := goodIn_r _ [27, 1, 9, 10, 18, 17, 2, 28, 29, 30, 6, 31, 19, 32, 33, 34, 35, 36, 37, 38, 39, 40, 41, 42, 43, 44, 45, 46, 47, 48, 49, 50] (by decide +kernel) (by decide +kernel)
set_option maxRecDepth 20000 in
theorem gX6_chain_X6_layChain : GoodIn wsX6_chain (wsV RX6 89 RX6 yX6_layChain wsX6_layChain) := goodIn_app (goodIn_of _ (by decide +kernel)) ggX6_chain_X6_layChain
theorem dX6_chain_0 : decode cX6_chain 0 = .ok (.aload_n 0, 1) := by decide +kernel
theorem dX6_chain_1 : decode cX6_chain 1 = .ok (.iload_n 1, 1) := by decide +kernel
theorem dX6_chain_2 : decode cX6_chain 2 = .ok (.invokevirtual 86, 3) := by decide +kernel
theorem dX6_chain_5 : decode cX6_chain 5 = .ok (.ifCond .ne 5, 3) := by decide +kernel
theorem dX6_chain_8 : decode cX6_chain 8 = .ok (.iconst (-1), 1) := by decide +kernel
theorem dX6_chain_9 : decode cX6_chain 9 = .ok (.ireturn, 1) := by decide +kernel
theorem dX6_chain_10 : decode cX6_chain 10 = .ok (.iload_n 2, 1) := by decide +kernel
theorem dX6_chain_11 : decode cX6_chain 11 = .ok (.iconst 0, 1) := by decide +kernel
theorem dX6_chain_12 : decode cX6_chain 12 = .ok (.iconst 1, 1) := by decide +kernel
theorem dX6_chain_13 : decode cX6_chain 13 = .ok (.invokestatic 44, 3) := by decide +kernel
theorem dX6_chain_16 : decode cX6_chain 16 = .ok (.ifCond .ne 6, 3) := by decide +kernel
theorem dX6_chain_19 : decode cX6_chain 19 = .ok (.bipush (-2), 2) := by decide +kernel
theorem dX6_chain_21 : decode cX6_chain 21 = .ok (.ireturn, 1) := by decide +kernel
theorem dX6_chain_22 : decode cX6_chain 22 = .ok (.aload_n 0, 1) := by decide +kernel
theorem dX6_chain_23 : decode cX6_chain 23 = .ok (.iload_n 2, 1) := by decide +kernel
theorem dX6_chain_24 : decode cX6_chain 24 = .ok (.invokevirtual 89, 3) := by decide +kernel
theorem dX6_chain_27 : decode cX6_chain 27 = .ok (.iload_n 3, 1) := by decide +kernel
theorem dX6_chain_28 : decode cX6_chain 28 = .ok (.iconst 0, 1) := by decide +kernel
theorem dX6_chain_29 : decode cX6_chain 29 = .ok (.aload_n 0, 1) := by decide +kernel
theorem dX6_chain_30 : decode cX6_chain 30 = .ok (.getfield 79, 3) := by decide +kernel
theorem dX6_chain_33 : decode cX6_chain 33 = .ok (.iconst 1, 1) := by decide +kernel
theorem dX6_chain_34 : decode cX6_chain 34 = .ok (.isub, 1) := by decide +kernel
theorem dX6_chain_35 : decode cX6_chain 35 = .ok (.invokestatic 44, 3) := by decide +kernel
theorem dX6_chain_38 : decode cX6_chain 38 = .ok (.ifCond .eq 12, 3) := by decide +kernel
theorem dX6_chain_41 : decode cX6_chain 41 = .ok (.aload_n 0, 1) := by decide +kernel
theorem dX6_chain_42 : decode cX6_chain 42 = .ok (.getfield 26, 3) := by decide +kernel
theorem dX6_chain_45 : decode cX6_chain 45 = .ok (.iload_n 3, 1) := by decide +kernel
theorem dX6_chain_46 : decode cX6_chain 46 = .ok (.iaload, 1) := by decide +kernel
theorem dX6_chain_47 : decode cX6_chain 47 = .ok (.goto 5, 3) := by decide +kernel
theorem dX6_chain_50 : decode cX6_chain 50 = .ok (.bipush (-6), 2) := by decide +kernel
theorem dX6_chain_52 : decode cX6_chain 52 = .ok (.ireturn, 1) := by decide +kernel
set_option maxRecDepth 20000 in
theorem ggX6_bridge_X6_layPart : GoodIn wsX6_bridge wsX6_layPart := goodIn_r _ [10, 11, 2, 1, 12, 13, 14, 15, 9, 16, 17, 18, 19, 20, 4, 21, 22, 23, 35, 36, 37, 38, 39, 40, 41, 42, 43, 44, 45, 46, 47, 48, 49, 50] (by decide +kernel) (by decide +kernel)
set_option maxRecDepth 20000 in
theorem gX6_bridge_X6_layPart : GoodIn wsX6_bridge (wsV RX6 86 RX6 yX6_layPart wsX6_layPart) := goodIn_app (goodIn_of _ (by decide +kernel)) ggX6_bridge_X6_layPart
set_option maxRecDepth 20000 in
theorem ggX6_bridge_X6_in : GoodIn wsX6_bridge wsX6_in := goodIn_r _ [23] (by decide +kernel) (by decide +kernel)
set_option maxRecDepth 20000 in
theorem gX6_bridge_X6_in : GoodIn wsX6_bridge (va_wsS RX6 44 yX6_in wsX6_in) := goodIn_app (goodIn_of _ (by decide +kernel)) ggX6_bridge_X6_in
set_option maxRecDepth 20000 in
theorem ggX6_bridge_X6_layChain : GoodIn wsX6_bridge wsX6_layChain := goodIn_r _ [27, 3, 2, 1, 19, 18, 5, 28, 29, 30, 9, 31, 20, 32, 33, 34, 35, 36, 37, 38, 39, 40, 41, 42, 43, 44, 45, 46, 47, 48, 49, 50] (by decide +kernel) (by decide +kernel)
set_option maxRecDepth 20000 in
theorem gX6_bridge_X6_layChain : GoodIn wsX6_bridge (wsV RX6 89 RX6 yX6_layChain wsX6_layChain) := goodIn_app (goodIn_of _ (by decide +kernel)) ggX6_bridge_X6_layChain
theorem dX6_bridge_0 : decode cX6_bridge 0 = .ok (.aload_n 0, 1) := by decide +kernel
theorem dX6_bridge_1 : decode cX6_bridge 1 = .ok (.iload_n 1, 1) := by decide +kernel
theorem dX6_bridge_2 : decode cX6_bridge 2 = .ok (.invokevirtual 86, 3) := by decide +kernel
theorem dX6_bridge_5 : decode cX6_bridge 5 = .ok (.ifCond .ne 5, 3) := by decide +kernel
theorem dX6_bridge_8 : decode cX6_bridge 8 = .ok (.iconst (-1), 1) := by decide +kernel
theorem dX6_bridge_9 : decode cX6_bridge 9 = .ok (.ireturn, 1) := by decide +kernel
theorem dX6_bridge_10 : decode cX6_bridge 10 = .ok (.aload_n 0, 1) := by decide +kernel
theorem dX6_bridge_11 : decode cX6_bridge 11 = .ok (.getfield 69, 3) := by decide +kernel
theorem dX6_bridge_14 : decode cX6_bridge 14 = .ok (.aload_n 0, 1) := by decide +kernel
theorem dX6_bridge_15 : decode cX6_bridge 15 = .ok (.getfield 66, 3) := by decide +kernel
theorem dX6_bridge_18 : decode cX6_bridge 18 = .ok (.isub, 1) := by decide +kernel
theorem dX6_bridge_19 : decode cX6_bridge 19 = .ok (.iconst 2, 1) := by decide +kernel
theorem dX6_bridge_20 : decode cX6_bridge 20 = .ok (.if_icmp .ge 6, 3) := by decide +kernel
theorem dX6_bridge_23 : decode cX6_bridge 23 = .ok (.bipush (-5), 2) := by decide +kernel
theorem dX6_bridge_25 : decode cX6_bridge 25 = .ok (.ireturn, 1) := by decide +kernel
theorem dX6_bridge_26 : decode cX6_bridge 26 = .ok (.iload_n 2, 1) := by decide +kernel
theorem dX6_bridge_27 : decode cX6_bridge 27 = .ok (.iconst 0, 1) := by decide +kernel
theorem dX6_bridge_28 : decode cX6_bridge 28 = .ok (.iconst 1, 1) := by decide +kernel
theorem dX6_bridge_29 : decode cX6_bridge 29 = .ok (.invokestatic 44, 3) := by decide +kernel
theorem dX6_bridge_32 : decode cX6_bridge 32 = .ok (.ifCond .eq 12, 3) := by decide +kernel
theorem dX6_bridge_35 : decode cX6_bridge 35 = .ok (.iload_n 3, 1) := by decide +kernel
theorem dX6_bridge_36 : decode cX6_bridge 36 = .ok (.iconst 0, 1) := by decide +kernel
theorem dX6_bridge_37 : decode cX6_bridge 37 = .ok (.iconst 1, 1) := by decide +kernel
theorem dX6_bridge_38 : decode cX6_bridge 38 = .ok (.invokestatic 44, 3) := by decide +kernel
theorem dX6_bridge_41 : decode cX6_bridge 41 = .ok (.ifCond .ne 6, 3) := by decide +kernel
theorem dX6_bridge_44 : decode cX6_bridge 44 = .ok (.bipush (-2), 2) := by decide +kernel
theorem dX6_bridge_46 : decode cX6_bridge 46 = .ok (.ireturn, 1) := by decide +kernel
theorem dX6_bridge_47 : decode cX6_bridge 47 = .ok (.aload_n 0, 1) := by decide +kernel
theorem dX6_bridge_48 : decode cX6_bridge 48 = .ok (.iload_n 2, 1) := by decide +kernel
theorem dX6_bridge_49 : decode cX6_bridge 49 = .ok (.invokevirtual 89, 3) := by decide +kernel
theorem dX6_bridge_52 : decode cX6_bridge 52 = .ok (.aload_n 0, 1) := by decide +kernel
theorem dX6_bridge_53 : decode cX6_bridge 53 = .ok (.getfield 66, 3) := by decide +kernel
theorem dX6_bridge_56 : decode cX6_bridge 56 = .ok (.aload_n 0, 1) := by decide +kernel
theorem dX6_bridge_57 : decode cX6_bridge 57 = .ok (.getfield 69, 3) := by decide +kernel
theorem dX6_bridge_60 : decode cX6_bridge 60 = .ok (.aload_n 0, 1) := by decide +kernel
theorem dX6_bridge_61 : decode cX6_bridge 61 = .ok (.getfield 66, 3) := by decide +kernel
theorem dX6_bridge_64 : decode cX6_bridge 64 = .ok (.isub, 1) := by decide +kernel
theorem dX6_bridge_65 : decode cX6_bridge 65 = .ok (.iconst 1, 1) := by decide +kernel
theorem dX6_bridge_66 : decode cX6_bridge 66 = .ok (.iadd, 1) := by decide +kernel
theorem dX6_bridge_67 : decode cX6_bridge 67 = .ok (.iconst 2, 1) := by decide +kernel
theorem dX6_bridge_68 : decode cX6_bridge 68 = .ok (.idiv, 1) := by decide +kernel
theorem dX6_bridge_69 : decode cX6_bridge 69 = .ok (.iadd, 1) := by decide +kernel
theorem dX6_bridge_70 : decode cX6_bridge 70 = .ok (.istore 4, 2) := by decide +kernel
theorem dX6_bridge_72 : decode cX6_bridge 72 = .ok (.bipush (-6), 2) := by decide +kernel
theorem dX6_bridge_74 : decode cX6_bridge 74 = .ok (.istore 5, 2) := by decide +kernel
theorem dX6_bridge_76 : decode cX6_bridge 76 = .ok (.iconst 0, 1) := by decide +kernel
theorem dX6_bridge_77 : decode cX6_bridge 77 = .ok (.istore 6, 2) := by decide +kernel
theorem dX6_bridge_79 : decode cX6_bridge 79 = .ok (.iload 6, 2) := by decide +kernel
theorem dX6_bridge_81 : decode cX6_bridge 81 = .ok (.aload_n 0, 1) := by decide +kernel
theorem dX6_bridge_82 : decode cX6_bridge 82 = .ok (.getfield 79, 3) := by decide +kernel
theorem dX6_bridge_85 : decode cX6_bridge 85 = .ok (.if_icmp .ge 81, 3) := by decide +kernel
theorem dX6_bridge_88 : decode cX6_bridge 88 = .ok (.aload_n 0, 1) := by decide +kernel
theorem dX6_bridge_89 : decode cX6_bridge 89 = .ok (.getfield 23, 3) := by decide +kernel
theorem dX6_bridge_92 : decode cX6_bridge 92 = .ok (.aload_n 0, 1) := by decide +kernel
theorem dX6_bridge_93 : decode cX6_bridge 93 = .ok (.getfield 26, 3) := by decide +kernel
theorem dX6_bridge_96 : decode cX6_bridge 96 = .ok (.iload 6, 2) := by decide +kernel
theorem dX6_bridge_98 : decode cX6_bridge 98 = .ok (.iaload, 1) := by decide +kernel
theorem dX6_bridge_99 : decode cX6_bridge 99 = .ok (.iaload, 1) := by decide +kernel
theorem dX6_bridge_100 : decode cX6_bridge 100 = .ok (.iload 4, 2) := by decide +kernel
theorem dX6_bridge_102 : decode cX6_bridge 102 = .ok (.if_icmp .ge 7, 3) := by decide +kernel
theorem dX6_bridge_105 : decode cX6_bridge 105 = .ok (.iconst 1, 1) := by decide +kernel
theorem dX6_bridge_106 : decode cX6_bridge 106 = .ok (.goto 4, 3) := by decide +kernel
theorem dX6_bridge_109 : decode cX6_bridge 109 = .ok (.iconst 0, 1) := by decide +kernel
theorem dX6_bridge_110 : decode cX6_bridge 110 = .ok (.istore 7, 2) := by decide +kernel
theorem dX6_bridge_112 : decode cX6_bridge 112 = .ok (.iload_n 3, 1) := by decide +kernel
theorem dX6_bridge_113 : decode cX6_bridge 113 = .ok (.ifCond .ne 23, 3) := by decide +kernel
theorem dX6_bridge_116 : decode cX6_bridge 116 = .ok (.iload 7, 2) := by decide +kernel
theorem dX6_bridge_118 : decode cX6_bridge 118 = .ok (.ifCond .eq 13, 3) := by decide +kernel
theorem dX6_bridge_121 : decode cX6_bridge 121 = .ok (.aload_n 0, 1) := by decide +kernel
theorem dX6_bridge_122 : decode cX6_bridge 122 = .ok (.getfield 26, 3) := by decide +kernel
theorem dX6_bridge_125 : decode cX6_bridge 125 = .ok (.iload 6, 2) := by decide +kernel
theorem dX6_bridge_127 : decode cX6_bridge 127 = .ok (.iaload, 1) := by decide +kernel
theorem dX6_bridge_128 : decode cX6_bridge 128 = .ok (.goto 30, 3) := by decide +kernel
theorem dX6_bridge_131 : decode cX6_bridge 131 = .ok (.iload 5, 2) := by decide +kernel
theorem dX6_bridge_133 : decode cX6_bridge 133 = .ok (.goto 25, 3) := by decide +kernel
theorem dX6_bridge_136 : decode cX6_bridge 136 = .ok (.iload 7, 2) := by decide +kernel
theorem dX6_bridge_138 : decode cX6_bridge 138 = .ok (.ifCond .ne 18, 3) := by decide +kernel
theorem dX6_bridge_141 : decode cX6_bridge 141 = .ok (.iload 5, 2) := by decide +kernel
theorem dX6_bridge_143 : decode cX6_bridge 143 = .ok (.ifCond .ge 13, 3) := by decide +kernel
theorem dX6_bridge_146 : decode cX6_bridge 146 = .ok (.aload_n 0, 1) := by decide +kernel
theorem dX6_bridge_147 : decode cX6_bridge 147 = .ok (.getfield 26, 3) := by decide +kernel
theorem dX6_bridge_150 : decode cX6_bridge 150 = .ok (.iload 6, 2) := by decide +kernel
theorem dX6_bridge_152 : decode cX6_bridge 152 = .ok (.iaload, 1) := by decide +kernel
theorem dX6_bridge_153 : decode cX6_bridge 153 = .ok (.goto 5, 3) := by decide +kernel
theorem dX6_bridge_156 : decode cX6_bridge 156 = .ok (.iload 5, 2) := by decide +kernel
theorem dX6_bridge_158 : decode cX6_bridge 158 = .ok (.istore 5, 2) := by decide +kernel
theorem dX6_bridge_160 : decode cX6_bridge 160 = .ok (.iinc 6 1, 3) := by decide +kernel
theorem dX6_bridge_163 : decode cX6_bridge 163 = .ok (.goto (-84), 3) := by decide +kernel
theorem dX6_bridge_166 : decode cX6_bridge 166 = .ok (.iload 5, 2) := by decide +kernel
theorem dX6_bridge_168 : decode cX6_bridge 168 = .ok (.ireturn, 1) := by decide +kernel
theorem dX6_ringUp_0 : decode cX6_ringUp 0 = .ok (.iconst 1, 1) := by decide +kernel
theorem dX6_ringUp_1 : decode cX6_ringUp 1 = .ok (.istore_n 2, 1) := by decide +kernel
theorem dX6_ringUp_2 : decode cX6_ringUp 2 = .ok (.iconst 0, 1) := by decide +kernel
theorem dX6_ringUp_3 : decode cX6_ringUp 3 = .ok (.istore_n 3, 1) := by decide +kernel
theorem dX6_ringUp_4 : decode cX6_ringUp 4 = .ok (.iload_n 3, 1) := by decide +kernel
theorem dX6_ringUp_5 : decode cX6_ringUp 5 = .ok (.aload_n 0, 1) := by decide +kernel
theorem dX6_ringUp_6 : decode cX6_ringUp 6 = .ok (.getfield 114, 3) := by decide +kernel
theorem dX6_ringUp_9 : decode cX6_ringUp 9 = .ok (.if_icmp .ge 29, 3) := by decide +kernel
theorem dX6_ringUp_12 : decode cX6_ringUp 12 = .ok (.iload_n 2, 1) := by decide +kernel
theorem dX6_ringUp_13 : decode cX6_ringUp 13 = .ok (.ifCond .eq 17, 3) := by decide +kernel
theorem dX6_ringUp_16 : decode cX6_ringUp 16 = .ok (.aload_n 0, 1) := by decide +kernel
theorem dX6_ringUp_17 : decode cX6_ringUp 17 = .ok (.getfield 29, 3) := by decide +kernel
theorem dX6_ringUp_20 : decode cX6_ringUp 20 = .ok (.iload_n 3, 1) := by decide +kernel
theorem dX6_ringUp_21 : decode cX6_ringUp 21 = .ok (.iaload, 1) := by decide +kernel
theorem dX6_ringUp_22 : decode cX6_ringUp 22 = .ok (.iload_n 1, 1) := by decide +kernel
theorem dX6_ringUp_23 : decode cX6_ringUp 23 = .ok (.if_icmp .eq 7, 3) := by decide +kernel
theorem dX6_ringUp_26 : decode cX6_ringUp 26 = .ok (.iconst 1, 1) := by decide +kernel
theorem dX6_ringUp_27 : decode cX6_ringUp 27 = .ok (.goto 4, 3) := by decide +kernel
theorem dX6_ringUp_30 : decode cX6_ringUp 30 = .ok (.iconst 0, 1) := by decide +kernel
theorem dX6_ringUp_31 : decode cX6_ringUp 31 = .ok (.istore_n 2, 1) := by decide +kernel
theorem dX6_ringUp_32 : decode cX6_ringUp 32 = .ok (.iinc 3 1, 3) := by decide +kernel
theorem dX6_ringUp_35 : decode cX6_ringUp 35 = .ok (.goto (-31), 3) := by decide +kernel
theorem dX6_ringUp_38 : decode cX6_ringUp 38 = .ok (.iload_n 2, 1) := by decide +kernel
theorem dX6_ringUp_39 : decode cX6_ringUp 39 = .ok (.ifCond .eq 23, 3) := by decide +kernel
theorem dX6_ringUp_42 : decode cX6_ringUp 42 = .ok (.aload_n 0, 1) := by decide +kernel
theorem dX6_ringUp_43 : decode cX6_ringUp 43 = .ok (.getfield 29, 3) := by decide +kernel
theorem dX6_ringUp_46 : decode cX6_ringUp 46 = .ok (.aload_n 0, 1) := by decide +kernel
theorem dX6_ringUp_47 : decode cX6_ringUp 47 = .ok (.getfield 114, 3) := by decide +kernel
theorem dX6_ringUp_50 : decode cX6_ringUp 50 = .ok (.iload_n 1, 1) := by decide +kernel
theorem dX6_ringUp_51 : decode cX6_ringUp 51 = .ok (.iastore, 1) := by decide +kernel
theorem dX6_ringUp_52 : decode cX6_ringUp 52 = .ok (.aload_n 0, 1) := by decide +kernel
theorem dX6_ringUp_53 : decode cX6_ringUp 53 = .ok (.dup, 1) := by decide +kernel
theorem dX6_ringUp_54 : decode cX6_ringUp 54 = .ok (.getfield 114, 3) := by decide +kernel
theorem dX6_ringUp_57 : decode cX6_ringUp 57 = .ok (.iconst 1, 1) := by decide +kernel
theorem dX6_ringUp_58 : decode cX6_ringUp 58 = .ok (.iadd, 1) := by decide +kernel
theorem dX6_ringUp_59 : decode cX6_ringUp 59 = .ok (.putfield 114, 3) := by decide +kernel
theorem dX6_ringUp_62 : decode cX6_ringUp 62 = .ok (.return_, 1) := by decide +kernel
set_option maxRecDepth 20000 in
theorem ggX6_layRound_X6_layPart : GoodIn wsX6_layRound wsX6_layPart := goodIn_r _ [8, 9, 10, 11, 12, 13, 14, 15, 7, 16, 17, 18, 19, 20, 21, 22, 23, 24, 41, 42, 43, 44, 45, 46, 47, 48, 49, 50, 51, 52, 53, 54, 55, 56] (by decide +kernel) (by decide +kernel)
set_option maxRecDepth 20000 in
theorem gX6_layRound_X6_layPart : GoodIn wsX6_layRound (wsV RX6 86 RX6 yX6_layPart wsX6_layPart) := goodIn_app (goodIn_of _ (by decide +kernel)) ggX6_layRound_X6_layPart
set_option maxRecDepth 20000 in
theorem ggX6_layRound_X6_layChain : GoodIn wsX6_layRound wsX6_layChain := goodIn_r _ [28, 2, 10, 11, 19, 18, 3, 29, 30, 31, 7, 32, 20, 33, 34, 35, 41, 42, 43, 44, 45, 46, 47, 48, 49, 50, 51, 52, 53, 54, 55, 56] (by decide +kernel) (by decide +kernel)
set_option maxRecDepth 20000 in
theorem gX6_layRound_X6_layChain : GoodIn wsX6_layRound (wsV RX6 89 RX6 yX6_layChain wsX6_layChain) := goodIn_app (goodIn_of _ (by decide +kernel)) ggX6_layRound_X6_layChain
set_option maxRecDepth 20000 in
theorem ggX6_layRound_X6_ringUp : GoodIn wsX6_layRound wsX6_ringUp := goodIn_r _ [39, 1, 40, 41, 42, 43, 44, 45, 46, 47, 48, 49, 50, 51, 52, 53, 54, 55, 56] (by decide +kernel) (by decide +kernel)
set_option maxRecDepth 20000 in
theorem gX6_layRound_X6_ringUp : GoodIn wsX6_layRound (wsV RX6 117 RX6 yX6_ringUp wsX6_ringUp) := goodIn_app (goodIn_of _ (by decide +kernel)) ggX6_layRound_X6_ringUp
theorem dX6_layRound_0 : decode cX6_layRound 0 = .ok (.aload_n 0, 1) := by decide +kernel
theorem dX6_layRound_1 : decode cX6_layRound 1 = .ok (.iconst 0, 1) := by decide +kernel
theorem dX6_layRound_2 : decode cX6_layRound 2 = .ok (.putfield 114, 3) := by decide +kernel
theorem dX6_layRound_5 : decode cX6_layRound 5 = .ok (.aload_n 0, 1) := by decide +kernel
theorem dX6_layRound_6 : decode cX6_layRound 6 = .ok (.iconst 1, 1) := by decide +kernel
theorem dX6_layRound_7 : decode cX6_layRound 7 = .ok (.invokevirtual 86, 3) := by decide +kernel
theorem dX6_layRound_10 : decode cX6_layRound 10 = .ok (.ifCond .eq 66, 3) := by decide +kernel
theorem dX6_layRound_13 : decode cX6_layRound 13 = .ok (.aload_n 0, 1) := by decide +kernel
theorem dX6_layRound_14 : decode cX6_layRound 14 = .ok (.iconst 1, 1) := by decide +kernel
theorem dX6_layRound_15 : decode cX6_layRound 15 = .ok (.invokevirtual 89, 3) := by decide +kernel
theorem dX6_layRound_18 : decode cX6_layRound 18 = .ok (.iconst 0, 1) := by decide +kernel
theorem dX6_layRound_19 : decode cX6_layRound 19 = .ok (.istore_n 1, 1) := by decide +kernel
theorem dX6_layRound_20 : decode cX6_layRound 20 = .ok (.iload_n 1, 1) := by decide +kernel
theorem dX6_layRound_21 : decode cX6_layRound 21 = .ok (.aload_n 0, 1) := by decide +kernel
theorem dX6_layRound_22 : decode cX6_layRound 22 = .ok (.getfield 79, 3) := by decide +kernel
theorem dX6_layRound_25 : decode cX6_layRound 25 = .ok (.if_icmp .ge 19, 3) := by decide +kernel
theorem dX6_layRound_28 : decode cX6_layRound 28 = .ok (.aload_n 0, 1) := by decide +kernel
theorem dX6_layRound_29 : decode cX6_layRound 29 = .ok (.aload_n 0, 1) := by decide +kernel
theorem dX6_layRound_30 : decode cX6_layRound 30 = .ok (.getfield 26, 3) := by decide +kernel
theorem dX6_layRound_33 : decode cX6_layRound 33 = .ok (.iload_n 1, 1) := by decide +kernel
theorem dX6_layRound_34 : decode cX6_layRound 34 = .ok (.iaload, 1) := by decide +kernel
theorem dX6_layRound_35 : decode cX6_layRound 35 = .ok (.invokevirtual 117, 3) := by decide +kernel
theorem dX6_layRound_38 : decode cX6_layRound 38 = .ok (.iinc 1 1, 3) := by decide +kernel
theorem dX6_layRound_41 : decode cX6_layRound 41 = .ok (.goto (-21), 3) := by decide +kernel
theorem dX6_layRound_44 : decode cX6_layRound 44 = .ok (.aload_n 0, 1) := by decide +kernel
theorem dX6_layRound_45 : decode cX6_layRound 45 = .ok (.iconst 0, 1) := by decide +kernel
theorem dX6_layRound_46 : decode cX6_layRound 46 = .ok (.invokevirtual 89, 3) := by decide +kernel
theorem dX6_layRound_49 : decode cX6_layRound 49 = .ok (.aload_n 0, 1) := by decide +kernel
theorem dX6_layRound_50 : decode cX6_layRound 50 = .ok (.getfield 79, 3) := by decide +kernel
theorem dX6_layRound_53 : decode cX6_layRound 53 = .ok (.iconst 1, 1) := by decide +kernel
theorem dX6_layRound_54 : decode cX6_layRound 54 = .ok (.isub, 1) := by decide +kernel
theorem dX6_layRound_55 : decode cX6_layRound 55 = .ok (.istore_n 1, 1) := by decide +kernel
theorem dX6_layRound_56 : decode cX6_layRound 56 = .ok (.iload_n 1, 1) := by decide +kernel
theorem dX6_layRound_57 : decode cX6_layRound 57 = .ok (.ifCond .lt 19, 3) := by decide +kernel
theorem dX6_layRound_60 : decode cX6_layRound 60 = .ok (.aload_n 0, 1) := by decide +kernel
theorem dX6_layRound_61 : decode cX6_layRound 61 = .ok (.aload_n 0, 1) := by decide +kernel
theorem dX6_layRound_62 : decode cX6_layRound 62 = .ok (.getfield 26, 3) := by decide +kernel
theorem dX6_layRound_65 : decode cX6_layRound 65 = .ok (.iload_n 1, 1) := by decide +kernel
theorem dX6_layRound_66 : decode cX6_layRound 66 = .ok (.iaload, 1) := by decide +kernel
theorem dX6_layRound_67 : decode cX6_layRound 67 = .ok (.invokevirtual 117, 3) := by decide +kernel
theorem dX6_layRound_70 : decode cX6_layRound 70 = .ok (.iinc 1 (-1), 3) := by decide +kernel
theorem dX6_layRound_73 : decode cX6_layRound 73 = .ok (.goto (-17), 3) := by decide +kernel
theorem dX6_layRound_76 : decode cX6_layRound 76 = .ok (.return_, 1) := by decide +kernel
set_option maxRecDepth 20000 in
theorem ggX6_round_X6_layRound : GoodIn wsX6_round wsX6_layRound := goodIn_r _ [7, 1, 8, 9, 10, 11, 12, 6, 13, 14, 15, 16, 17, 18, 19, 20, 21, 22, 23, 24, 25, 26, 27, 28, 29, 30, 31, 32, 33, 34, 35, 36, 37, 38, 39, 40, 41, 42, 43, 44, 2, 45, 46, 47, 48, 49, 50, 51, 52, 53, 54, 55, 56, 57, 58, 59, 60] (by decide +kernel) (by decide +kernel)
set_option maxRecDepth 20000 in
theorem gX6_round_X6_layRound : GoodIn wsX6_round (wsV RX6 120 RX6 yX6_layRound wsX6_layRound) := goodIn_app (goodIn_of _ (by decide +kernel)) ggX6_round_X6_layRound
set_option maxRecDepth 20000 in
theorem ggX6_round_X6_in : GoodIn wsX6_round wsX6_in := goodIn_r _ [29] (by decide +kernel) (by decide +kernel)
set_option maxRecDepth 20000 in
theorem gX6_round_X6_in : GoodIn wsX6_round (va_wsS RX6 44 yX6_in wsX6_in) := goodIn_app (goodIn_of _ (by decide +kernel)) ggX6_round_X6_in
theorem dX6_round_0 : decode cX6_round 0 = .ok (.aload_n 0, 1) := by decide +kernel
theorem dX6_round_1 : decode cX6_round 1 = .ok (.invokevirtual 120, 3) := by decide +kernel
theorem dX6_round_4 : decode cX6_round 4 = .ok (.iload_n 1, 1) := by decide +kernel
theorem dX6_round_5 : decode cX6_round 5 = .ok (.iconst (-1), 1) := by decide +kernel
theorem dX6_round_6 : decode cX6_round 6 = .ok (.if_icmp .ne 10, 3) := by decide +kernel
theorem dX6_round_9 : decode cX6_round 9 = .ok (.aload_n 0, 1) := by decide +kernel
theorem dX6_round_10 : decode cX6_round 10 = .ok (.getfield 114, 3) := by decide +kernel
theorem dX6_round_13 : decode cX6_round 13 = .ok (.goto 28, 3) := by decide +kernel
theorem dX6_round_16 : decode cX6_round 16 = .ok (.iload_n 1, 1) := by decide +kernel
theorem dX6_round_17 : decode cX6_round 17 = .ok (.iconst 0, 1) := by decide +kernel
theorem dX6_round_18 : decode cX6_round 18 = .ok (.aload_n 0, 1) := by decide +kernel
theorem dX6_round_19 : decode cX6_round 19 = .ok (.getfield 114, 3) := by decide +kernel
theorem dX6_round_22 : decode cX6_round 22 = .ok (.iconst 1, 1) := by decide +kernel
theorem dX6_round_23 : decode cX6_round 23 = .ok (.isub, 1) := by decide +kernel
theorem dX6_round_24 : decode cX6_round 24 = .ok (.invokestatic 44, 3) := by decide +kernel
theorem dX6_round_27 : decode cX6_round 27 = .ok (.ifCond .eq 12, 3) := by decide +kernel
theorem dX6_round_30 : decode cX6_round 30 = .ok (.aload_n 0, 1) := by decide +kernel
theorem dX6_round_31 : decode cX6_round 31 = .ok (.getfield 29, 3) := by decide +kernel
theorem dX6_round_34 : decode cX6_round 34 = .ok (.iload_n 1, 1) := by decide +kernel
theorem dX6_round_35 : decode cX6_round 35 = .ok (.iaload, 1) := by decide +kernel
theorem dX6_round_36 : decode cX6_round 36 = .ok (.goto 5, 3) := by decide +kernel
theorem dX6_round_39 : decode cX6_round 39 = .ok (.bipush (-6), 2) := by decide +kernel
theorem dX6_round_41 : decode cX6_round 41 = .ok (.ireturn, 1) := by decide +kernel
set_option maxRecDepth 20000 in
theorem ggX6_extreme_X6_isPlace : GoodIn wsX6_extreme wsX6_isPlace := goodIn_r _ [10, 11, 12, 13, 14, 9, 15] (by decide +kernel) (by decide +kernel)
set_option maxRecDepth 20000 in
theorem gX6_extreme_X6_isPlace : GoodIn wsX6_extreme (va_wsS RX6 48 yX6_isPlace wsX6_isPlace) := goodIn_app (goodIn_of _ (by decide +kernel)) ggX6_extreme_X6_isPlace
set_option maxRecDepth 20000 in
theorem ggX6_extreme_X6_layRound : GoodIn wsX6_extreme wsX6_layRound := goodIn_r _ [19, 3, 20, 21, 22, 23, 24, 9, 25, 1, 26, 27, 28, 29, 30, 31, 32, 33, 4, 34, 5, 6, 13, 14, 15, 35, 36, 37, 38, 39, 40, 41, 42, 43, 44, 45, 46, 47, 48, 49, 2, 50, 51, 52, 53, 54, 55, 56, 57, 58, 59, 60, 61, 62, 63, 64, 65] (by decide +kernel) (by decide +kernel)
set_option maxRecDepth 20000 in
theorem gX6_extreme_X6_layRound : GoodIn wsX6_extreme (wsV RX6 120 RX6 yX6_layRound wsX6_layRound) := goodIn_app (goodIn_of _ (by decide +kernel)) ggX6_extreme_X6_layRound
theorem dX6_extreme_0 : decode cX6_extreme 0 = .ok (.iload_n 1, 1) := by decide +kernel
theorem dX6_extreme_1 : decode cX6_extreme 1 = .ok (.iload_n 2, 1) := by decide +kernel
theorem dX6_extreme_2 : decode cX6_extreme 2 = .ok (.invokestatic 48, 3) := by decide +kernel
theorem dX6_extreme_5 : decode cX6_extreme 5 = .ok (.ifCond .ne 6, 3) := by decide +kernel
theorem dX6_extreme_8 : decode cX6_extreme 8 = .ok (.bipush (-2), 2) := by decide +kernel
theorem dX6_extreme_10 : decode cX6_extreme 10 = .ok (.ireturn, 1) := by decide +kernel
theorem dX6_extreme_11 : decode cX6_extreme 11 = .ok (.aload_n 0, 1) := by decide +kernel
theorem dX6_extreme_12 : decode cX6_extreme 12 = .ok (.getfield 55, 3) := by decide +kernel
theorem dX6_extreme_15 : decode cX6_extreme 15 = .ok (.ifCond .eq 11, 3) := by decide +kernel
theorem dX6_extreme_18 : decode cX6_extreme 18 = .ok (.iload_n 1, 1) := by decide +kernel
theorem dX6_extreme_19 : decode cX6_extreme 19 = .ok (.ifCond .ne 10, 3) := by decide +kernel
theorem dX6_extreme_22 : decode cX6_extreme 22 = .ok (.iload_n 2, 1) := by decide +kernel
theorem dX6_extreme_23 : decode cX6_extreme 23 = .ok (.ifCond .ne 6, 3) := by decide +kernel
theorem dX6_extreme_26 : decode cX6_extreme 26 = .ok (.bipush (-5), 2) := by decide +kernel
theorem dX6_extreme_28 : decode cX6_extreme 28 = .ok (.ireturn, 1) := by decide +kernel
theorem dX6_extreme_29 : decode cX6_extreme 29 = .ok (.aload_n 0, 1) := by decide +kernel
theorem dX6_extreme_30 : decode cX6_extreme 30 = .ok (.invokevirtual 120, 3) := by decide +kernel
theorem dX6_extreme_33 : decode cX6_extreme 33 = .ok (.aload_n 0, 1) := by decide +kernel
theorem dX6_extreme_34 : decode cX6_extreme 34 = .ok (.getfield 29, 3) := by decide +kernel
theorem dX6_extreme_37 : decode cX6_extreme 37 = .ok (.iconst 0, 1) := by decide +kernel
theorem dX6_extreme_38 : decode cX6_extreme 38 = .ok (.iaload, 1) := by decide +kernel
theorem dX6_extreme_39 : decode cX6_extreme 39 = .ok (.istore_n 3, 1) := by decide +kernel
theorem dX6_extreme_40 : decode cX6_extreme 40 = .ok (.iconst 1, 1) := by decide +kernel
theorem dX6_extreme_41 : decode cX6_extreme 41 = .ok (.istore 4, 2) := by decide +kernel
theorem dX6_extreme_43 : decode cX6_extreme 43 = .ok (.iload 4, 2) := by decide +kernel
theorem dX6_extreme_45 : decode cX6_extreme 45 = .ok (.aload_n 0, 1) := by decide +kernel
theorem dX6_extreme_46 : decode cX6_extreme 46 = .ok (.getfield 114, 3) := by decide +kernel
theorem dX6_extreme_49 : decode cX6_extreme 49 = .ok (.if_icmp .ge 96, 3) := by decide +kernel
theorem dX6_extreme_52 : decode cX6_extreme 52 = .ok (.aload_n 0, 1) := by decide +kernel
theorem dX6_extreme_53 : decode cX6_extreme 53 = .ok (.getfield 29, 3) := by decide +kernel
theorem dX6_extreme_56 : decode cX6_extreme 56 = .ok (.iload 4, 2) := by decide +kernel
theorem dX6_extreme_58 : decode cX6_extreme 58 = .ok (.iaload, 1) := by decide +kernel
theorem dX6_extreme_59 : decode cX6_extreme 59 = .ok (.istore 5, 2) := by decide +kernel
theorem dX6_extreme_61 : decode cX6_extreme 61 = .ok (.iload_n 1, 1) := by decide +kernel
theorem dX6_extreme_62 : decode cX6_extreme 62 = .ok (.i2l, 1) := by decide +kernel
theorem dX6_extreme_63 : decode cX6_extreme 63 = .ok (.aload_n 0, 1) := by decide +kernel
theorem dX6_extreme_64 : decode cX6_extreme 64 = .ok (.getfield 7, 3) := by decide +kernel
theorem dX6_extreme_67 : decode cX6_extreme 67 = .ok (.iload 5, 2) := by decide +kernel
theorem dX6_extreme_69 : decode cX6_extreme 69 = .ok (.iaload, 1) := by decide +kernel
theorem dX6_extreme_70 : decode cX6_extreme 70 = .ok (.i2l, 1) := by decide +kernel
theorem dX6_extreme_71 : decode cX6_extreme 71 = .ok (.aload_n 0, 1) := by decide +kernel
theorem dX6_extreme_72 : decode cX6_extreme 72 = .ok (.getfield 7, 3) := by decide +kernel
theorem dX6_extreme_75 : decode cX6_extreme 75 = .ok (.iload_n 3, 1) := by decide +kernel
theorem dX6_extreme_76 : decode cX6_extreme 76 = .ok (.iaload, 1) := by decide +kernel
theorem dX6_extreme_77 : decode cX6_extreme 77 = .ok (.i2l, 1) := by decide +kernel
theorem dX6_extreme_78 : decode cX6_extreme 78 = .ok (.lsub, 1) := by decide +kernel
theorem dX6_extreme_79 : decode cX6_extreme 79 = .ok (.lmul, 1) := by decide +kernel
theorem dX6_extreme_80 : decode cX6_extreme 80 = .ok (.iload_n 2, 1) := by decide +kernel
theorem dX6_extreme_81 : decode cX6_extreme 81 = .ok (.i2l, 1) := by decide +kernel
theorem dX6_extreme_82 : decode cX6_extreme 82 = .ok (.aload_n 0, 1) := by decide +kernel
theorem dX6_extreme_83 : decode cX6_extreme 83 = .ok (.getfield 13, 3) := by decide +kernel
theorem dX6_extreme_86 : decode cX6_extreme 86 = .ok (.iload 5, 2) := by decide +kernel
theorem dX6_extreme_88 : decode cX6_extreme 88 = .ok (.iaload, 1) := by decide +kernel
theorem dX6_extreme_89 : decode cX6_extreme 89 = .ok (.i2l, 1) := by decide +kernel
theorem dX6_extreme_90 : decode cX6_extreme 90 = .ok (.aload_n 0, 1) := by decide +kernel
theorem dX6_extreme_91 : decode cX6_extreme 91 = .ok (.getfield 13, 3) := by decide +kernel
theorem dX6_extreme_94 : decode cX6_extreme 94 = .ok (.iload_n 3, 1) := by decide +kernel
theorem dX6_extreme_95 : decode cX6_extreme 95 = .ok (.iaload, 1) := by decide +kernel
theorem dX6_extreme_96 : decode cX6_extreme 96 = .ok (.i2l, 1) := by decide +kernel
theorem dX6_extreme_97 : decode cX6_extreme 97 = .ok (.lsub, 1) := by decide +kernel
theorem dX6_extreme_98 : decode cX6_extreme 98 = .ok (.lmul, 1) := by decide +kernel
theorem dX6_extreme_99 : decode cX6_extreme 99 = .ok (.ladd, 1) := by decide +kernel
theorem dX6_extreme_100 : decode cX6_extreme 100 = .ok (.lstore 6, 2) := by decide +kernel
theorem dX6_extreme_102 : decode cX6_extreme 102 = .ok (.lload 6, 2) := by decide +kernel
theorem dX6_extreme_104 : decode cX6_extreme 104 = .ok (.lconst 0, 1) := by decide +kernel
theorem dX6_extreme_105 : decode cX6_extreme 105 = .ok (.lcmp, 1) := by decide +kernel
theorem dX6_extreme_106 : decode cX6_extreme 106 = .ok (.ifCond .gt 26, 3) := by decide +kernel
theorem dX6_extreme_109 : decode cX6_extreme 109 = .ok (.lload 6, 2) := by decide +kernel
theorem dX6_extreme_111 : decode cX6_extreme 111 = .ok (.lconst 0, 1) := by decide +kernel
theorem dX6_extreme_112 : decode cX6_extreme 112 = .ok (.lcmp, 1) := by decide +kernel
theorem dX6_extreme_113 : decode cX6_extreme 113 = .ok (.ifCond .ne 24, 3) := by decide +kernel
theorem dX6_extreme_116 : decode cX6_extreme 116 = .ok (.aload_n 0, 1) := by decide +kernel
theorem dX6_extreme_117 : decode cX6_extreme 117 = .ok (.getfield 23, 3) := by decide +kernel
theorem dX6_extreme_120 : decode cX6_extreme 120 = .ok (.iload 5, 2) := by decide +kernel
theorem dX6_extreme_122 : decode cX6_extreme 122 = .ok (.iaload, 1) := by decide +kernel
theorem dX6_extreme_123 : decode cX6_extreme 123 = .ok (.aload_n 0, 1) := by decide +kernel
theorem dX6_extreme_124 : decode cX6_extreme 124 = .ok (.getfield 23, 3) := by decide +kernel
theorem dX6_extreme_127 : decode cX6_extreme 127 = .ok (.iload_n 3, 1) := by decide +kernel
theorem dX6_extreme_128 : decode cX6_extreme 128 = .ok (.iaload, 1) := by decide +kernel
theorem dX6_extreme_129 : decode cX6_extreme 129 = .ok (.if_icmp .ge 8, 3) := by decide +kernel
theorem dX6_extreme_132 : decode cX6_extreme 132 = .ok (.iload 5, 2) := by decide +kernel
theorem dX6_extreme_134 : decode cX6_extreme 134 = .ok (.goto 4, 3) := by decide +kernel
theorem dX6_extreme_137 : decode cX6_extreme 137 = .ok (.iload_n 3, 1) := by decide +kernel
theorem dX6_extreme_138 : decode cX6_extreme 138 = .ok (.istore_n 3, 1) := by decide +kernel
theorem dX6_extreme_139 : decode cX6_extreme 139 = .ok (.iinc 4 1, 3) := by decide +kernel
theorem dX6_extreme_142 : decode cX6_extreme 142 = .ok (.goto (-99), 3) := by decide +kernel
theorem dX6_extreme_145 : decode cX6_extreme 145 = .ok (.iload_n 3, 1) := by decide +kernel
theorem dX6_extreme_146 : decode cX6_extreme 146 = .ok (.ireturn, 1) := by decide +kernel
set_option maxRecDepth 20000 in
theorem ggX6_isBetween_X6_in : GoodIn wsX6_isBetween wsX6_in := goodIn_r _ [4] (by decide +kernel) (by decide +kernel)
set_option maxRecDepth 20000 in
theorem gX6_isBetween_X6_in : GoodIn wsX6_isBetween (va_wsS RX6 44 yX6_in wsX6_in) := goodIn_app (goodIn_of _ (by decide +kernel)) ggX6_isBetween_X6_in
theorem dX6_isBetween_0 : decode cX6_isBetween 0 = .ok (.iload_n 1, 1) := by decide +kernel
theorem dX6_isBetween_1 : decode cX6_isBetween 1 = .ok (.iload_n 2, 1) := by decide +kernel
theorem dX6_isBetween_2 : decode cX6_isBetween 2 = .ok (.if_icmp .ge 12, 3) := by decide +kernel
theorem dX6_isBetween_5 : decode cX6_isBetween 5 = .ok (.iload_n 0, 1) := by decide +kernel
theorem dX6_isBetween_6 : decode cX6_isBetween 6 = .ok (.iload_n 1, 1) := by decide +kernel
theorem dX6_isBetween_7 : decode cX6_isBetween 7 = .ok (.iload_n 2, 1) := by decide +kernel
theorem dX6_isBetween_8 : decode cX6_isBetween 8 = .ok (.invokestatic 44, 3) := by decide +kernel
theorem dX6_isBetween_11 : decode cX6_isBetween 11 = .ok (.goto 9, 3) := by decide +kernel
theorem dX6_isBetween_14 : decode cX6_isBetween 14 = .ok (.iload_n 0, 1) := by decide +kernel
theorem dX6_isBetween_15 : decode cX6_isBetween 15 = .ok (.iload_n 2, 1) := by decide +kernel
theorem dX6_isBetween_16 : decode cX6_isBetween 16 = .ok (.iload_n 1, 1) := by decide +kernel
theorem dX6_isBetween_17 : decode cX6_isBetween 17 = .ok (.invokestatic 44, 3) := by decide +kernel
theorem dX6_isBetween_20 : decode cX6_isBetween 20 = .ok (.ireturn, 1) := by decide +kernel
set_option maxRecDepth 20000 in
theorem ggX6_whereOf_X6_layRound : GoodIn wsX6_whereOf wsX6_layRound := goodIn_r _ [9, 1, 10, 11, 12, 13, 14, 8, 15, 16, 17, 18, 19, 20, 21, 22, 23, 24, 3, 25, 4, 26, 27, 28, 29, 30, 31, 32, 33, 34, 35, 36, 37, 38, 39, 40, 41, 42, 43, 44, 2, 48, 49, 50, 51, 52, 53, 54, 55, 56, 57, 58, 59, 60, 61, 62, 63] (by decide +kernel) (by decide +kernel)
set_option maxRecDepth 20000 in
theorem gX6_whereOf_X6_layRound : GoodIn wsX6_whereOf (wsV RX6 120 RX6 yX6_layRound wsX6_layRound) := goodIn_app (goodIn_of _ (by decide +kernel)) ggX6_whereOf_X6_layRound
set_option maxRecDepth 20000 in
theorem ggX6_whereOf_X6_cross : GoodIn wsX6_whereOf wsX6_cross := goodIn_r _ [40] (by decide +kernel) (by decide +kernel)
set_option maxRecDepth 20000 in
theorem gX6_whereOf_X6_cross : GoodIn wsX6_whereOf (va_wsS RX6 75 yX6_cross wsX6_cross) := goodIn_app (goodIn_of _ (by decide +kernel)) ggX6_whereOf_X6_cross
set_option maxRecDepth 20000 in
theorem ggX6_whereOf_X6_isBetween : GoodIn wsX6_whereOf wsX6_isBetween := goodIn_r _ [47, 27, 28, 8, 29] (by decide +kernel) (by decide +kernel)
set_option maxRecDepth 20000 in
theorem gX6_whereOf_X6_isBetween : GoodIn wsX6_whereOf (va_wsS RX6 123 yX6_isBetween wsX6_isBetween) := goodIn_app (goodIn_of _ (by decide +kernel)) ggX6_whereOf_X6_isBetween
theorem dX6_whereOf_0 : decode cX6_whereOf 0 = .ok (.aload_n 0, 1) := by decide +kernel
theorem dX6_whereOf_1 : decode cX6_whereOf 1 = .ok (.invokevirtual 120, 3) := by decide +kernel
theorem dX6_whereOf_4 : decode cX6_whereOf 4 = .ok (.aload_n 0, 1) := by decide +kernel
theorem dX6_whereOf_5 : decode cX6_whereOf 5 = .ok (.getfield 114, 3) := by decide +kernel
theorem dX6_whereOf_8 : decode cX6_whereOf 8 = .ok (.iconst 2, 1) := by decide +kernel
theorem dX6_whereOf_9 : decode cX6_whereOf 9 = .ok (.if_icmp .ge 7, 3) := by decide +kernel
theorem dX6_whereOf_12 : decode cX6_whereOf 12 = .ok (.iconst 1, 1) := by decide +kernel
theorem dX6_whereOf_13 : decode cX6_whereOf 13 = .ok (.goto 4, 3) := by decide +kernel
theorem dX6_whereOf_16 : decode cX6_whereOf 16 = .ok (.iconst 0, 1) := by decide +kernel
theorem dX6_whereOf_17 : decode cX6_whereOf 17 = .ok (.istore_n 3, 1) := by decide +kernel
theorem dX6_whereOf_18 : decode cX6_whereOf 18 = .ok (.iconst 0, 1) := by decide +kernel
theorem dX6_whereOf_19 : decode cX6_whereOf 19 = .ok (.istore 4, 2) := by decide +kernel
theorem dX6_whereOf_21 : decode cX6_whereOf 21 = .ok (.iconst 0, 1) := by decide +kernel
theorem dX6_whereOf_22 : decode cX6_whereOf 22 = .ok (.istore 5, 2) := by decide +kernel
theorem dX6_whereOf_24 : decode cX6_whereOf 24 = .ok (.iload 5, 2) := by decide +kernel
theorem dX6_whereOf_26 : decode cX6_whereOf 26 = .ok (.aload_n 0, 1) := by decide +kernel
theorem dX6_whereOf_27 : decode cX6_whereOf 27 = .ok (.getfield 114, 3) := by decide +kernel
theorem dX6_whereOf_30 : decode cX6_whereOf 30 = .ok (.if_icmp .ge 185, 3) := by decide +kernel
theorem dX6_whereOf_33 : decode cX6_whereOf 33 = .ok (.aload_n 0, 1) := by decide +kernel
theorem dX6_whereOf_34 : decode cX6_whereOf 34 = .ok (.getfield 29, 3) := by decide +kernel
theorem dX6_whereOf_37 : decode cX6_whereOf 37 = .ok (.iload 5, 2) := by decide +kernel
theorem dX6_whereOf_39 : decode cX6_whereOf 39 = .ok (.iaload, 1) := by decide +kernel
theorem dX6_whereOf_40 : decode cX6_whereOf 40 = .ok (.istore 6, 2) := by decide +kernel
theorem dX6_whereOf_42 : decode cX6_whereOf 42 = .ok (.aload_n 0, 1) := by decide +kernel
theorem dX6_whereOf_43 : decode cX6_whereOf 43 = .ok (.getfield 29, 3) := by decide +kernel
theorem dX6_whereOf_46 : decode cX6_whereOf 46 = .ok (.iload 5, 2) := by decide +kernel
theorem dX6_whereOf_48 : decode cX6_whereOf 48 = .ok (.iconst 1, 1) := by decide +kernel
theorem dX6_whereOf_49 : decode cX6_whereOf 49 = .ok (.iadd, 1) := by decide +kernel
theorem dX6_whereOf_50 : decode cX6_whereOf 50 = .ok (.aload_n 0, 1) := by decide +kernel
theorem dX6_whereOf_51 : decode cX6_whereOf 51 = .ok (.getfield 114, 3) := by decide +kernel
theorem dX6_whereOf_54 : decode cX6_whereOf 54 = .ok (.irem, 1) := by decide +kernel
theorem dX6_whereOf_55 : decode cX6_whereOf 55 = .ok (.iaload, 1) := by decide +kernel
theorem dX6_whereOf_56 : decode cX6_whereOf 56 = .ok (.istore 7, 2) := by decide +kernel
theorem dX6_whereOf_58 : decode cX6_whereOf 58 = .ok (.aload_n 0, 1) := by decide +kernel
theorem dX6_whereOf_59 : decode cX6_whereOf 59 = .ok (.getfield 7, 3) := by decide +kernel
theorem dX6_whereOf_62 : decode cX6_whereOf 62 = .ok (.iload 6, 2) := by decide +kernel
theorem dX6_whereOf_64 : decode cX6_whereOf 64 = .ok (.iaload, 1) := by decide +kernel
theorem dX6_whereOf_65 : decode cX6_whereOf 65 = .ok (.iload_n 1, 1) := by decide +kernel
theorem dX6_whereOf_66 : decode cX6_whereOf 66 = .ok (.if_icmp .ne 16, 3) := by decide +kernel
theorem dX6_whereOf_69 : decode cX6_whereOf 69 = .ok (.aload_n 0, 1) := by decide +kernel
theorem dX6_whereOf_70 : decode cX6_whereOf 70 = .ok (.getfield 13, 3) := by decide +kernel
theorem dX6_whereOf_73 : decode cX6_whereOf 73 = .ok (.iload 6, 2) := by decide +kernel
theorem dX6_whereOf_75 : decode cX6_whereOf 75 = .ok (.iaload, 1) := by decide +kernel
theorem dX6_whereOf_76 : decode cX6_whereOf 76 = .ok (.iload_n 2, 1) := by decide +kernel
theorem dX6_whereOf_77 : decode cX6_whereOf 77 = .ok (.if_icmp .ne 5, 3) := by decide +kernel
theorem dX6_whereOf_80 : decode cX6_whereOf 80 = .ok (.iconst 1, 1) := by decide +kernel
theorem dX6_whereOf_81 : decode cX6_whereOf 81 = .ok (.ireturn, 1) := by decide +kernel
theorem dX6_whereOf_82 : decode cX6_whereOf 82 = .ok (.aload_n 0, 1) := by decide +kernel
theorem dX6_whereOf_83 : decode cX6_whereOf 83 = .ok (.getfield 7, 3) := by decide +kernel
theorem dX6_whereOf_86 : decode cX6_whereOf 86 = .ok (.iload 6, 2) := by decide +kernel
theorem dX6_whereOf_88 : decode cX6_whereOf 88 = .ok (.iaload, 1) := by decide +kernel
theorem dX6_whereOf_89 : decode cX6_whereOf 89 = .ok (.i2l, 1) := by decide +kernel
theorem dX6_whereOf_90 : decode cX6_whereOf 90 = .ok (.aload_n 0, 1) := by decide +kernel
theorem dX6_whereOf_91 : decode cX6_whereOf 91 = .ok (.getfield 13, 3) := by decide +kernel
theorem dX6_whereOf_94 : decode cX6_whereOf 94 = .ok (.iload 6, 2) := by decide +kernel
theorem dX6_whereOf_96 : decode cX6_whereOf 96 = .ok (.iaload, 1) := by decide +kernel
theorem dX6_whereOf_97 : decode cX6_whereOf 97 = .ok (.i2l, 1) := by decide +kernel
theorem dX6_whereOf_98 : decode cX6_whereOf 98 = .ok (.aload_n 0, 1) := by decide +kernel
theorem dX6_whereOf_99 : decode cX6_whereOf 99 = .ok (.getfield 7, 3) := by decide +kernel
theorem dX6_whereOf_102 : decode cX6_whereOf 102 = .ok (.iload 7, 2) := by decide +kernel
theorem dX6_whereOf_104 : decode cX6_whereOf 104 = .ok (.iaload, 1) := by decide +kernel
theorem dX6_whereOf_105 : decode cX6_whereOf 105 = .ok (.i2l, 1) := by decide +kernel
theorem dX6_whereOf_106 : decode cX6_whereOf 106 = .ok (.aload_n 0, 1) := by decide +kernel
theorem dX6_whereOf_107 : decode cX6_whereOf 107 = .ok (.getfield 13, 3) := by decide +kernel
theorem dX6_whereOf_110 : decode cX6_whereOf 110 = .ok (.iload 7, 2) := by decide +kernel
theorem dX6_whereOf_112 : decode cX6_whereOf 112 = .ok (.iaload, 1) := by decide +kernel
theorem dX6_whereOf_113 : decode cX6_whereOf 113 = .ok (.i2l, 1) := by decide +kernel
theorem dX6_whereOf_114 : decode cX6_whereOf 114 = .ok (.iload_n 1, 1) := by decide +kernel
theorem dX6_whereOf_115 : decode cX6_whereOf 115 = .ok (.i2l, 1) := by decide +kernel
theorem dX6_whereOf_116 : decode cX6_whereOf 116 = .ok (.iload_n 2, 1) := by decide +kernel
theorem dX6_whereOf_117 : decode cX6_whereOf 117 = .ok (.i2l, 1) := by decide +kernel
theorem dX6_whereOf_118 : decode cX6_whereOf 118 = .ok (.invokestatic 75, 3) := by decide +kernel
theorem dX6_whereOf_121 : decode cX6_whereOf 121 = .ok (.lstore 8, 2) := by decide +kernel
theorem dX6_whereOf_123 : decode cX6_whereOf 123 = .ok (.iload_n 3, 1) := by decide +kernel
theorem dX6_whereOf_124 : decode cX6_whereOf 124 = .ok (.ifCond .ne 10, 3) := by decide +kernel
theorem dX6_whereOf_127 : decode cX6_whereOf 127 = .ok (.lload 8, 2) := by decide +kernel
theorem dX6_whereOf_129 : decode cX6_whereOf 129 = .ok (.lconst 0, 1) := by decide +kernel
theorem dX6_whereOf_130 : decode cX6_whereOf 130 = .ok (.lcmp, 1) := by decide +kernel
theorem dX6_whereOf_131 : decode cX6_whereOf 131 = .ok (.ifCond .ge 7, 3) := by decide +kernel
theorem dX6_whereOf_134 : decode cX6_whereOf 134 = .ok (.iconst 1, 1) := by decide +kernel
theorem dX6_whereOf_135 : decode cX6_whereOf 135 = .ok (.goto 4, 3) := by decide +kernel
theorem dX6_whereOf_138 : decode cX6_whereOf 138 = .ok (.iconst 0, 1) := by decide +kernel
theorem dX6_whereOf_139 : decode cX6_whereOf 139 = .ok (.istore_n 3, 1) := by decide +kernel
theorem dX6_whereOf_140 : decode cX6_whereOf 140 = .ok (.iload 4, 2) := by decide +kernel
theorem dX6_whereOf_142 : decode cX6_whereOf 142 = .ok (.ifCond .ne 60, 3) := by decide +kernel
theorem dX6_whereOf_145 : decode cX6_whereOf 145 = .ok (.aload_n 0, 1) := by decide +kernel
theorem dX6_whereOf_146 : decode cX6_whereOf 146 = .ok (.getfield 114, 3) := by decide +kernel
theorem dX6_whereOf_149 : decode cX6_whereOf 149 = .ok (.iconst 1, 1) := by decide +kernel
theorem dX6_whereOf_150 : decode cX6_whereOf 150 = .ok (.if_icmp .le 56, 3) := by decide +kernel
theorem dX6_whereOf_153 : decode cX6_whereOf 153 = .ok (.lload 8, 2) := by decide +kernel
theorem dX6_whereOf_155 : decode cX6_whereOf 155 = .ok (.lconst 0, 1) := by decide +kernel
theorem dX6_whereOf_156 : decode cX6_whereOf 156 = .ok (.lcmp, 1) := by decide +kernel
theorem dX6_whereOf_157 : decode cX6_whereOf 157 = .ok (.ifCond .ne 49, 3) := by decide +kernel
theorem dX6_whereOf_160 : decode cX6_whereOf 160 = .ok (.iload_n 1, 1) := by decide +kernel
theorem dX6_whereOf_161 : decode cX6_whereOf 161 = .ok (.aload_n 0, 1) := by decide +kernel
theorem dX6_whereOf_162 : decode cX6_whereOf 162 = .ok (.getfield 7, 3) := by decide +kernel
theorem dX6_whereOf_165 : decode cX6_whereOf 165 = .ok (.iload 6, 2) := by decide +kernel
theorem dX6_whereOf_167 : decode cX6_whereOf 167 = .ok (.iaload, 1) := by decide +kernel
theorem dX6_whereOf_168 : decode cX6_whereOf 168 = .ok (.aload_n 0, 1) := by decide +kernel
theorem dX6_whereOf_169 : decode cX6_whereOf 169 = .ok (.getfield 7, 3) := by decide +kernel
theorem dX6_whereOf_172 : decode cX6_whereOf 172 = .ok (.iload 7, 2) := by decide +kernel
theorem dX6_whereOf_174 : decode cX6_whereOf 174 = .ok (.iaload, 1) := by decide +kernel
theorem dX6_whereOf_175 : decode cX6_whereOf 175 = .ok (.invokestatic 123, 3) := by decide +kernel
theorem dX6_whereOf_178 : decode cX6_whereOf 178 = .ok (.ifCond .eq 28, 3) := by decide +kernel
theorem dX6_whereOf_181 : decode cX6_whereOf 181 = .ok (.iload_n 2, 1) := by decide +kernel
theorem dX6_whereOf_182 : decode cX6_whereOf 182 = .ok (.aload_n 0, 1) := by decide +kernel
theorem dX6_whereOf_183 : decode cX6_whereOf 183 = .ok (.getfield 13, 3) := by decide +kernel
theorem dX6_whereOf_186 : decode cX6_whereOf 186 = .ok (.iload 6, 2) := by decide +kernel
theorem dX6_whereOf_188 : decode cX6_whereOf 188 = .ok (.iaload, 1) := by decide +kernel
theorem dX6_whereOf_189 : decode cX6_whereOf 189 = .ok (.aload_n 0, 1) := by decide +kernel
theorem dX6_whereOf_190 : decode cX6_whereOf 190 = .ok (.getfield 13, 3) := by decide +kernel
theorem dX6_whereOf_193 : decode cX6_whereOf 193 = .ok (.iload 7, 2) := by decide +kernel
theorem dX6_whereOf_195 : decode cX6_whereOf 195 = .ok (.iaload, 1) := by decide +kernel
theorem dX6_whereOf_196 : decode cX6_whereOf 196 = .ok (.invokestatic 123, 3) := by decide +kernel
theorem dX6_whereOf_199 : decode cX6_whereOf 199 = .ok (.ifCond .eq 7, 3) := by decide +kernel
theorem dX6_whereOf_202 : decode cX6_whereOf 202 = .ok (.iconst 1, 1) := by decide +kernel
theorem dX6_whereOf_203 : decode cX6_whereOf 203 = .ok (.goto 4, 3) := by decide +kernel
theorem dX6_whereOf_206 : decode cX6_whereOf 206 = .ok (.iconst 0, 1) := by decide +kernel
theorem dX6_whereOf_207 : decode cX6_whereOf 207 = .ok (.istore 4, 2) := by decide +kernel
theorem dX6_whereOf_209 : decode cX6_whereOf 209 = .ok (.iinc 5 1, 3) := by decide +kernel
theorem dX6_whereOf_212 : decode cX6_whereOf 212 = .ok (.goto (-188), 3) := by decide +kernel
theorem dX6_whereOf_215 : decode cX6_whereOf 215 = .ok (.aload_n 0, 1) := by decide +kernel
theorem dX6_whereOf_216 : decode cX6_whereOf 216 = .ok (.getfield 114, 3) := by decide +kernel
theorem dX6_whereOf_219 : decode cX6_whereOf 219 = .ok (.iconst 2, 1) := by decide +kernel
theorem dX6_whereOf_220 : decode cX6_whereOf 220 = .ok (.if_icmp .ne 16, 3) := by decide +kernel
theorem dX6_whereOf_223 : decode cX6_whereOf 223 = .ok (.iload 4, 2) := by decide +kernel
theorem dX6_whereOf_225 : decode cX6_whereOf 225 = .ok (.ifCond .eq 7, 3) := by decide +kernel
theorem dX6_whereOf_228 : decode cX6_whereOf 228 = .ok (.iconst 2, 1) := by decide +kernel
theorem dX6_whereOf_229 : decode cX6_whereOf 229 = .ok (.goto 25, 3) := by decide +kernel
theorem dX6_whereOf_232 : decode cX6_whereOf 232 = .ok (.iconst 0, 1) := by decide +kernel
theorem dX6_whereOf_233 : decode cX6_whereOf 233 = .ok (.goto 21, 3) := by decide +kernel
theorem dX6_whereOf_236 : decode cX6_whereOf 236 = .ok (.iload_n 3, 1) := by decide +kernel
theorem dX6_whereOf_237 : decode cX6_whereOf 237 = .ok (.ifCond .eq 7, 3) := by decide +kernel
theorem dX6_whereOf_240 : decode cX6_whereOf 240 = .ok (.iconst 0, 1) := by decide +kernel
theorem dX6_whereOf_241 : decode cX6_whereOf 241 = .ok (.goto 13, 3) := by decide +kernel
theorem dX6_whereOf_244 : decode cX6_whereOf 244 = .ok (.iload 4, 2) := by decide +kernel
theorem dX6_whereOf_246 : decode cX6_whereOf 246 = .ok (.ifCond .eq 7, 3) := by decide +kernel
theorem dX6_whereOf_249 : decode cX6_whereOf 249 = .ok (.iconst 2, 1) := by decide +kernel
theorem dX6_whereOf_250 : decode cX6_whereOf 250 = .ok (.goto 4, 3) := by decide +kernel
theorem dX6_whereOf_253 : decode cX6_whereOf 253 = .ok (.iconst 3, 1) := by decide +kernel
theorem dX6_whereOf_254 : decode cX6_whereOf 254 = .ok (.ireturn, 1) := by decide +kernel
set_option maxRecDepth 20000 in
theorem ggX6_where_X6_isPlace : GoodIn wsX6_where wsX6_isPlace := goodIn_r _ [4, 5, 6, 7, 8, 3, 9] (by decide +kernel) (by decide +kernel)
set_option maxRecDepth 20000 in
theorem gX6_where_X6_isPlace : GoodIn wsX6_where (va_wsS RX6 48 yX6_isPlace wsX6_isPlace) := goodIn_app (goodIn_of _ (by decide +kernel)) ggX6_where_X6_isPlace
set_option maxRecDepth 20000 in
theorem ggX6_where_X6_whereOf : GoodIn wsX6_where wsX6_whereOf := goodIn_r _ [13, 14, 15, 16, 17, 18, 19, 20, 3, 21, 22, 23, 24, 25, 26, 27, 28, 29, 30, 31, 32, 33, 34, 35, 36, 37, 38, 7, 8, 9, 39, 40, 41, 42, 43, 44, 45, 46, 47, 48, 49, 50, 51, 52, 53, 54, 55, 56, 57, 58, 59, 60, 61, 62, 63, 64, 65, 66, 67, 68, 69, 70, 71, 72] (by decide +kernel) (by decide +kernel)
set_option maxRecDepth 20000 in
theorem gX6_where_X6_whereOf : GoodIn wsX6_where (wsV RX6 126 RX6 yX6_whereOf wsX6_whereOf) := goodIn_app (goodIn_of _ (by decide +kernel)) ggX6_where_X6_whereOf
theorem dX6_where_0 : decode cX6_where 0 = .ok (.iload_n 1, 1) := by decide +kernel
theorem dX6_where_1 : decode cX6_where 1 = .ok (.iload_n 2, 1) := by decide +kernel
theorem dX6_where_2 : decode cX6_where 2 = .ok (.invokestatic 48, 3) := by decide +kernel
theorem dX6_where_5 : decode cX6_where 5 = .ok (.ifCond .eq 12, 3) := by decide +kernel
theorem dX6_where_8 : decode cX6_where 8 = .ok (.aload_n 0, 1) := by decide +kernel
theorem dX6_where_9 : decode cX6_where 9 = .ok (.iload_n 1, 1) := by decide +kernel
theorem dX6_where_10 : decode cX6_where 10 = .ok (.iload_n 2, 1) := by decide +kernel
theorem dX6_where_11 : decode cX6_where 11 = .ok (.invokevirtual 126, 3) := by decide +kernel
theorem dX6_where_14 : decode cX6_where 14 = .ok (.goto 5, 3) := by decide +kernel
theorem dX6_where_17 : decode cX6_where 17 = .ok (.bipush (-2), 2) := by decide +kernel
theorem dX6_where_19 : decode cX6_where 19 = .ok (.ireturn, 1) := by decide +kernel
theorem dX6_square_0 : decode cX6_square 0 = .ok (.aload_n 0, 1) := by decide +kernel
theorem dX6_square_1 : decode cX6_square 1 = .ok (.getfield 7, 3) := by decide +kernel
theorem dX6_square_4 : decode cX6_square 4 = .ok (.iload_n 1, 1) := by decide +kernel
theorem dX6_square_5 : decode cX6_square 5 = .ok (.iaload, 1) := by decide +kernel
theorem dX6_square_6 : decode cX6_square 6 = .ok (.i2l, 1) := by decide +kernel
theorem dX6_square_7 : decode cX6_square 7 = .ok (.iload_n 2, 1) := by decide +kernel
theorem dX6_square_8 : decode cX6_square 8 = .ok (.i2l, 1) := by decide +kernel
theorem dX6_square_9 : decode cX6_square 9 = .ok (.lsub, 1) := by decide +kernel
theorem dX6_square_10 : decode cX6_square 10 = .ok (.lstore 4, 2) := by decide +kernel
theorem dX6_square_12 : decode cX6_square 12 = .ok (.aload_n 0, 1) := by decide +kernel
theorem dX6_square_13 : decode cX6_square 13 = .ok (.getfield 13, 3) := by decide +kernel
theorem dX6_square_16 : decode cX6_square 16 = .ok (.iload_n 1, 1) := by decide +kernel
theorem dX6_square_17 : decode cX6_square 17 = .ok (.iaload, 1) := by decide +kernel
theorem dX6_square_18 : decode cX6_square 18 = .ok (.i2l, 1) := by decide +kernel
theorem dX6_square_19 : decode cX6_square 19 = .ok (.iload_n 3, 1) := by decide +kernel
theorem dX6_square_20 : decode cX6_square 20 = .ok (.i2l, 1) := by decide +kernel
theorem dX6_square_21 : decode cX6_square 21 = .ok (.lsub, 1) := by decide +kernel
theorem dX6_square_22 : decode cX6_square 22 = .ok (.lstore 6, 2) := by decide +kernel
theorem dX6_square_24 : decode cX6_square 24 = .ok (.lload 4, 2) := by decide +kernel
theorem dX6_square_26 : decode cX6_square 26 = .ok (.lload 4, 2) := by decide +kernel
theorem dX6_square_28 : decode cX6_square 28 = .ok (.lmul, 1) := by decide +kernel
theorem dX6_square_29 : decode cX6_square 29 = .ok (.lload 6, 2) := by decide +kernel
theorem dX6_square_31 : decode cX6_square 31 = .ok (.lload 6, 2) := by decide +kernel
theorem dX6_square_33 : decode cX6_square 33 = .ok (.lmul, 1) := by decide +kernel
theorem dX6_square_34 : decode cX6_square 34 = .ok (.ladd, 1) := by decide +kernel
theorem dX6_square_35 : decode cX6_square 35 = .ok (.lreturn, 1) := by decide +kernel
set_option maxRecDepth 20000 in
theorem ggX6_touch_X6_isPlace : GoodIn wsX6_touch wsX6_isPlace := goodIn_r _ [9, 10, 11, 12, 13, 8, 14] (by decide +kernel) (by decide +kernel)
set_option maxRecDepth 20000 in
theorem gX6_touch_X6_isPlace : GoodIn wsX6_touch (va_wsS RX6 48 yX6_isPlace wsX6_isPlace) := goodIn_app (goodIn_of _ (by decide +kernel)) ggX6_touch_X6_isPlace
set_option maxRecDepth 20000 in
theorem ggX6_touch_X6_in : GoodIn wsX6_touch wsX6_in := goodIn_r _ [14] (by decide +kernel) (by decide +kernel)
set_option maxRecDepth 20000 in
theorem gX6_touch_X6_in : GoodIn wsX6_touch (va_wsS RX6 44 yX6_in wsX6_in) := goodIn_app (goodIn_of _ (by decide +kernel)) ggX6_touch_X6_in
set_option maxRecDepth 20000 in
theorem ggX6_touch_X6_whereOf : GoodIn wsX6_touch wsX6_whereOf := goodIn_r _ [18, 2, 3, 4, 5, 19, 20, 21, 8, 22, 23, 24, 25, 26, 27, 28, 1, 29, 30, 31, 32, 33, 34, 35, 36, 37, 38, 12, 13, 14, 39, 40, 41, 42, 43, 44, 45, 46, 47, 48, 49, 50, 51, 52, 53, 54, 55, 56, 61, 62, 63, 64, 65, 66, 67, 68, 69, 70, 71, 72, 73, 74, 75, 76] (by decide +kernel) (by decide +kernel)
set_option maxRecDepth 20000 in
theorem gX6_touch_X6_whereOf : GoodIn wsX6_touch (wsV RX6 126 RX6 yX6_whereOf wsX6_whereOf) := goodIn_app (goodIn_of _ (by decide +kernel)) ggX6_touch_X6_whereOf
set_option maxRecDepth 20000 in
theorem ggX6_touch_X6_cross : GoodIn wsX6_touch wsX6_cross := goodIn_r _ [49] (by decide +kernel) (by decide +kernel)
set_option maxRecDepth 20000 in
theorem gX6_touch_X6_cross : GoodIn wsX6_touch (va_wsS RX6 75 yX6_cross wsX6_cross) := goodIn_app (goodIn_of _ (by decide +kernel)) ggX6_touch_X6_cross
set_option maxRecDepth 20000 in
theorem ggX6_touch_X6_square : GoodIn wsX6_touch wsX6_square := goodIn_r _ [60, 4, 5, 61, 62, 63, 64, 65, 66, 67, 68, 69, 70, 71, 72, 73, 74, 75, 76] (by decide +kernel) (by decide +kernel)
set_option maxRecDepth 20000 in
theorem gX6_touch_X6_square : GoodIn wsX6_touch (wsV RX6 129 RX6 yX6_square wsX6_square) := goodIn_app (goodIn_of _ (by decide +kernel)) ggX6_touch_X6_square
theorem dX6_touch_0 : decode cX6_touch 0 = .ok (.iload_n 1, 1) := by decide +kernel
theorem dX6_touch_1 : decode cX6_touch 1 = .ok (.iload_n 2, 1) := by decide +kernel
theorem dX6_touch_2 : decode cX6_touch 2 = .ok (.invokestatic 48, 3) := by decide +kernel
theorem dX6_touch_5 : decode cX6_touch 5 = .ok (.ifCond .eq 12, 3) := by decide +kernel
theorem dX6_touch_8 : decode cX6_touch 8 = .ok (.iload_n 3, 1) := by decide +kernel
theorem dX6_touch_9 : decode cX6_touch 9 = .ok (.iconst 0, 1) := by decide +kernel
theorem dX6_touch_10 : decode cX6_touch 10 = .ok (.iconst 1, 1) := by decide +kernel
theorem dX6_touch_11 : decode cX6_touch 11 = .ok (.invokestatic 44, 3) := by decide +kernel
theorem dX6_touch_14 : decode cX6_touch 14 = .ok (.ifCond .ne 6, 3) := by decide +kernel
theorem dX6_touch_17 : decode cX6_touch 17 = .ok (.bipush (-2), 2) := by decide +kernel
theorem dX6_touch_19 : decode cX6_touch 19 = .ok (.ireturn, 1) := by decide +kernel
theorem dX6_touch_20 : decode cX6_touch 20 = .ok (.aload_n 0, 1) := by decide +kernel
theorem dX6_touch_21 : decode cX6_touch 21 = .ok (.getfield 55, 3) := by decide +kernel
theorem dX6_touch_24 : decode cX6_touch 24 = .ok (.ifCond .ne 6, 3) := by decide +kernel
theorem dX6_touch_27 : decode cX6_touch 27 = .ok (.bipush (-5), 2) := by decide +kernel
theorem dX6_touch_29 : decode cX6_touch 29 = .ok (.ireturn, 1) := by decide +kernel
theorem dX6_touch_30 : decode cX6_touch 30 = .ok (.aload_n 0, 1) := by decide +kernel
theorem dX6_touch_31 : decode cX6_touch 31 = .ok (.iload_n 1, 1) := by decide +kernel
theorem dX6_touch_32 : decode cX6_touch 32 = .ok (.iload_n 2, 1) := by decide +kernel
theorem dX6_touch_33 : decode cX6_touch 33 = .ok (.invokevirtual 126, 3) := by decide +kernel
theorem dX6_touch_36 : decode cX6_touch 36 = .ok (.ifCond .eq 6, 3) := by decide +kernel
theorem dX6_touch_39 : decode cX6_touch 39 = .ok (.bipush (-3), 2) := by decide +kernel
theorem dX6_touch_41 : decode cX6_touch 41 = .ok (.ireturn, 1) := by decide +kernel
theorem dX6_touch_42 : decode cX6_touch 42 = .ok (.bipush (-6), 2) := by decide +kernel
theorem dX6_touch_44 : decode cX6_touch 44 = .ok (.istore 4, 2) := by decide +kernel
theorem dX6_touch_46 : decode cX6_touch 46 = .ok (.iconst 0, 1) := by decide +kernel
theorem dX6_touch_47 : decode cX6_touch 47 = .ok (.istore 5, 2) := by decide +kernel
theorem dX6_touch_49 : decode cX6_touch 49 = .ok (.iload 5, 2) := by decide +kernel
theorem dX6_touch_51 : decode cX6_touch 51 = .ok (.aload_n 0, 1) := by decide +kernel
theorem dX6_touch_52 : decode cX6_touch 52 = .ok (.getfield 114, 3) := by decide +kernel
theorem dX6_touch_55 : decode cX6_touch 55 = .ok (.if_icmp .ge 157, 3) := by decide +kernel
theorem dX6_touch_58 : decode cX6_touch 58 = .ok (.aload_n 0, 1) := by decide +kernel
theorem dX6_touch_59 : decode cX6_touch 59 = .ok (.getfield 29, 3) := by decide +kernel
theorem dX6_touch_62 : decode cX6_touch 62 = .ok (.iload 5, 2) := by decide +kernel
theorem dX6_touch_64 : decode cX6_touch 64 = .ok (.iaload, 1) := by decide +kernel
theorem dX6_touch_65 : decode cX6_touch 65 = .ok (.istore 6, 2) := by decide +kernel
theorem dX6_touch_67 : decode cX6_touch 67 = .ok (.iconst 1, 1) := by decide +kernel
theorem dX6_touch_68 : decode cX6_touch 68 = .ok (.istore 7, 2) := by decide +kernel
theorem dX6_touch_70 : decode cX6_touch 70 = .ok (.iconst 0, 1) := by decide +kernel
theorem dX6_touch_71 : decode cX6_touch 71 = .ok (.istore 8, 2) := by decide +kernel
theorem dX6_touch_73 : decode cX6_touch 73 = .ok (.iload 8, 2) := by decide +kernel
theorem dX6_touch_75 : decode cX6_touch 75 = .ok (.aload_n 0, 1) := by decide +kernel
theorem dX6_touch_76 : decode cX6_touch 76 = .ok (.getfield 114, 3) := by decide +kernel
theorem dX6_touch_79 : decode cX6_touch 79 = .ok (.if_icmp .ge 93, 3) := by decide +kernel
theorem dX6_touch_82 : decode cX6_touch 82 = .ok (.iload_n 1, 1) := by decide +kernel
theorem dX6_touch_83 : decode cX6_touch 83 = .ok (.i2l, 1) := by decide +kernel
theorem dX6_touch_84 : decode cX6_touch 84 = .ok (.iload_n 2, 1) := by decide +kernel
theorem dX6_touch_85 : decode cX6_touch 85 = .ok (.i2l, 1) := by decide +kernel
theorem dX6_touch_86 : decode cX6_touch 86 = .ok (.aload_n 0, 1) := by decide +kernel
theorem dX6_touch_87 : decode cX6_touch 87 = .ok (.getfield 7, 3) := by decide +kernel
theorem dX6_touch_90 : decode cX6_touch 90 = .ok (.iload 6, 2) := by decide +kernel
theorem dX6_touch_92 : decode cX6_touch 92 = .ok (.iaload, 1) := by decide +kernel
theorem dX6_touch_93 : decode cX6_touch 93 = .ok (.i2l, 1) := by decide +kernel
theorem dX6_touch_94 : decode cX6_touch 94 = .ok (.aload_n 0, 1) := by decide +kernel
theorem dX6_touch_95 : decode cX6_touch 95 = .ok (.getfield 13, 3) := by decide +kernel
theorem dX6_touch_98 : decode cX6_touch 98 = .ok (.iload 6, 2) := by decide +kernel
theorem dX6_touch_100 : decode cX6_touch 100 = .ok (.iaload, 1) := by decide +kernel
theorem dX6_touch_101 : decode cX6_touch 101 = .ok (.i2l, 1) := by decide +kernel
theorem dX6_touch_102 : decode cX6_touch 102 = .ok (.aload_n 0, 1) := by decide +kernel
theorem dX6_touch_103 : decode cX6_touch 103 = .ok (.getfield 7, 3) := by decide +kernel
theorem dX6_touch_106 : decode cX6_touch 106 = .ok (.aload_n 0, 1) := by decide +kernel
theorem dX6_touch_107 : decode cX6_touch 107 = .ok (.getfield 29, 3) := by decide +kernel
theorem dX6_touch_110 : decode cX6_touch 110 = .ok (.iload 8, 2) := by decide +kernel
theorem dX6_touch_112 : decode cX6_touch 112 = .ok (.iaload, 1) := by decide +kernel
theorem dX6_touch_113 : decode cX6_touch 113 = .ok (.iaload, 1) := by decide +kernel
theorem dX6_touch_114 : decode cX6_touch 114 = .ok (.i2l, 1) := by decide +kernel
theorem dX6_touch_115 : decode cX6_touch 115 = .ok (.aload_n 0, 1) := by decide +kernel
theorem dX6_touch_116 : decode cX6_touch 116 = .ok (.getfield 13, 3) := by decide +kernel
theorem dX6_touch_119 : decode cX6_touch 119 = .ok (.aload_n 0, 1) := by decide +kernel
theorem dX6_touch_120 : decode cX6_touch 120 = .ok (.getfield 29, 3) := by decide +kernel
theorem dX6_touch_123 : decode cX6_touch 123 = .ok (.iload 8, 2) := by decide +kernel
theorem dX6_touch_125 : decode cX6_touch 125 = .ok (.iaload, 1) := by decide +kernel
theorem dX6_touch_126 : decode cX6_touch 126 = .ok (.iaload, 1) := by decide +kernel
theorem dX6_touch_127 : decode cX6_touch 127 = .ok (.i2l, 1) := by decide +kernel
theorem dX6_touch_128 : decode cX6_touch 128 = .ok (.invokestatic 75, 3) := by decide +kernel
theorem dX6_touch_131 : decode cX6_touch 131 = .ok (.lstore 9, 2) := by decide +kernel
theorem dX6_touch_133 : decode cX6_touch 133 = .ok (.iload 7, 2) := by decide +kernel
theorem dX6_touch_135 : decode cX6_touch 135 = .ok (.ifCond .eq 28, 3) := by decide +kernel
theorem dX6_touch_138 : decode cX6_touch 138 = .ok (.iload_n 3, 1) := by decide +kernel
theorem dX6_touch_139 : decode cX6_touch 139 = .ok (.ifCond .ne 13, 3) := by decide +kernel
theorem dX6_touch_142 : decode cX6_touch 142 = .ok (.lload 9, 2) := by decide +kernel
theorem dX6_touch_144 : decode cX6_touch 144 = .ok (.lconst 0, 1) := by decide +kernel
theorem dX6_touch_145 : decode cX6_touch 145 = .ok (.lcmp, 1) := by decide +kernel
theorem dX6_touch_146 : decode cX6_touch 146 = .ok (.ifCond .lt 17, 3) := by decide +kernel
theorem dX6_touch_149 : decode cX6_touch 149 = .ok (.goto 10, 3) := by decide +kernel
theorem dX6_touch_152 : decode cX6_touch 152 = .ok (.lload 9, 2) := by decide +kernel
theorem dX6_touch_154 : decode cX6_touch 154 = .ok (.lconst 0, 1) := by decide +kernel
theorem dX6_touch_155 : decode cX6_touch 155 = .ok (.lcmp, 1) := by decide +kernel
theorem dX6_touch_156 : decode cX6_touch 156 = .ok (.ifCond .gt 7, 3) := by decide +kernel
theorem dX6_touch_159 : decode cX6_touch 159 = .ok (.iconst 1, 1) := by decide +kernel
theorem dX6_touch_160 : decode cX6_touch 160 = .ok (.goto 4, 3) := by decide +kernel
theorem dX6_touch_163 : decode cX6_touch 163 = .ok (.iconst 0, 1) := by decide +kernel
theorem dX6_touch_164 : decode cX6_touch 164 = .ok (.istore 7, 2) := by decide +kernel
theorem dX6_touch_166 : decode cX6_touch 166 = .ok (.iinc 8 1, 3) := by decide +kernel
theorem dX6_touch_169 : decode cX6_touch 169 = .ok (.goto (-96), 3) := by decide +kernel
theorem dX6_touch_172 : decode cX6_touch 172 = .ok (.iload 7, 2) := by decide +kernel
theorem dX6_touch_174 : decode cX6_touch 174 = .ok (.ifCond .eq 32, 3) := by decide +kernel
theorem dX6_touch_177 : decode cX6_touch 177 = .ok (.iload 4, 2) := by decide +kernel
theorem dX6_touch_179 : decode cX6_touch 179 = .ok (.ifCond .lt 23, 3) := by decide +kernel
theorem dX6_touch_182 : decode cX6_touch 182 = .ok (.aload_n 0, 1) := by decide +kernel
theorem dX6_touch_183 : decode cX6_touch 183 = .ok (.iload 6, 2) := by decide +kernel
theorem dX6_touch_185 : decode cX6_touch 185 = .ok (.iload_n 1, 1) := by decide +kernel
theorem dX6_touch_186 : decode cX6_touch 186 = .ok (.iload_n 2, 1) := by decide +kernel
theorem dX6_touch_187 : decode cX6_touch 187 = .ok (.invokevirtual 129, 3) := by decide +kernel
theorem dX6_touch_190 : decode cX6_touch 190 = .ok (.aload_n 0, 1) := by decide +kernel
theorem dX6_touch_191 : decode cX6_touch 191 = .ok (.iload 4, 2) := by decide +kernel
theorem dX6_touch_193 : decode cX6_touch 193 = .ok (.iload_n 1, 1) := by decide +kernel
theorem dX6_touch_194 : decode cX6_touch 194 = .ok (.iload_n 2, 1) := by decide +kernel
theorem dX6_touch_195 : decode cX6_touch 195 = .ok (.invokevirtual 129, 3) := by decide +kernel
theorem dX6_touch_198 : decode cX6_touch 198 = .ok (.lcmp, 1) := by decide +kernel
theorem dX6_touch_199 : decode cX6_touch 199 = .ok (.ifCond .ge 7, 3) := by decide +kernel
theorem dX6_touch_202 : decode cX6_touch 202 = .ok (.iload 6, 2) := by decide +kernel
theorem dX6_touch_204 : decode cX6_touch 204 = .ok (.istore 4, 2) := by decide +kernel
theorem dX6_touch_206 : decode cX6_touch 206 = .ok (.iinc 5 1, 3) := by decide +kernel
theorem dX6_touch_209 : decode cX6_touch 209 = .ok (.goto (-160), 3) := by decide +kernel
theorem dX6_touch_212 : decode cX6_touch 212 = .ok (.iload 4, 2) := by decide +kernel
theorem dX6_touch_214 : decode cX6_touch 214 = .ok (.ireturn, 1) := by decide +kernel
set_option maxRecDepth 20000 in
theorem ggX6_area_X6_layRound : GoodIn wsX6_area wsX6_layRound := goodIn_r _ [7, 1, 8, 9, 10, 11, 12, 6, 13, 14, 15, 16, 17, 18, 19, 20, 21, 22, 23, 24, 25, 26, 27, 28, 29, 30, 31, 32, 33, 34, 35, 36, 37, 38, 39, 40, 41, 42, 43, 44, 2, 45, 46, 47, 48, 49, 50, 51, 52, 53, 54, 55, 56, 57, 58, 59, 60] (by decide +kernel) (by decide +kernel)
set_option maxRecDepth 20000 in
theorem gX6_area_X6_layRound : GoodIn wsX6_area (wsV RX6 120 RX6 yX6_layRound wsX6_layRound) := goodIn_app (goodIn_of _ (by decide +kernel)) ggX6_area_X6_layRound
set_option maxRecDepth 20000 in
theorem ggX6_area_X6_bend : GoodIn wsX6_area wsX6_bend := goodIn_r _ [37, 23, 25, 38, 39, 6, 40, 45, 46, 47, 48, 49, 50, 51, 52, 53, 54, 55, 56, 57, 58, 59, 60] (by decide +kernel) (by decide +kernel)
set_option maxRecDepth 20000 in
theorem gX6_area_X6_bend : GoodIn wsX6_area (wsV RX6 82 RX6 yX6_bend wsX6_bend) := goodIn_app (goodIn_of _ (by decide +kernel)) ggX6_area_X6_bend
theorem dX6_area_0 : decode cX6_area 0 = .ok (.aload_n 0, 1) := by decide +kernel
theorem dX6_area_1 : decode cX6_area 1 = .ok (.invokevirtual 120, 3) := by decide +kernel
theorem dX6_area_4 : decode cX6_area 4 = .ok (.lconst 0, 1) := by decide +kernel
theorem dX6_area_5 : decode cX6_area 5 = .ok (.lstore_n 1, 1) := by decide +kernel
theorem dX6_area_6 : decode cX6_area 6 = .ok (.iconst 1, 1) := by decide +kernel
theorem dX6_area_7 : decode cX6_area 7 = .ok (.istore_n 3, 1) := by decide +kernel
theorem dX6_area_8 : decode cX6_area 8 = .ok (.iload_n 3, 1) := by decide +kernel
theorem dX6_area_9 : decode cX6_area 9 = .ok (.iconst 1, 1) := by decide +kernel
theorem dX6_area_10 : decode cX6_area 10 = .ok (.iadd, 1) := by decide +kernel
theorem dX6_area_11 : decode cX6_area 11 = .ok (.aload_n 0, 1) := by decide +kernel
theorem dX6_area_12 : decode cX6_area 12 = .ok (.getfield 114, 3) := by decide +kernel
theorem dX6_area_15 : decode cX6_area 15 = .ok (.if_icmp .ge 36, 3) := by decide +kernel
theorem dX6_area_18 : decode cX6_area 18 = .ok (.lload_n 1, 1) := by decide +kernel
theorem dX6_area_19 : decode cX6_area 19 = .ok (.aload_n 0, 1) := by decide +kernel
theorem dX6_area_20 : decode cX6_area 20 = .ok (.aload_n 0, 1) := by decide +kernel
theorem dX6_area_21 : decode cX6_area 21 = .ok (.getfield 29, 3) := by decide +kernel
theorem dX6_area_24 : decode cX6_area 24 = .ok (.iconst 0, 1) := by decide +kernel
theorem dX6_area_25 : decode cX6_area 25 = .ok (.iaload, 1) := by decide +kernel
theorem dX6_area_26 : decode cX6_area 26 = .ok (.aload_n 0, 1) := by decide +kernel
theorem dX6_area_27 : decode cX6_area 27 = .ok (.getfield 29, 3) := by decide +kernel
theorem dX6_area_30 : decode cX6_area 30 = .ok (.iload_n 3, 1) := by decide +kernel
theorem dX6_area_31 : decode cX6_area 31 = .ok (.iaload, 1) := by decide +kernel
theorem dX6_area_32 : decode cX6_area 32 = .ok (.aload_n 0, 1) := by decide +kernel
theorem dX6_area_33 : decode cX6_area 33 = .ok (.getfield 29, 3) := by decide +kernel
theorem dX6_area_36 : decode cX6_area 36 = .ok (.iload_n 3, 1) := by decide +kernel
theorem dX6_area_37 : decode cX6_area 37 = .ok (.iconst 1, 1) := by decide +kernel
theorem dX6_area_38 : decode cX6_area 38 = .ok (.iadd, 1) := by decide +kernel
theorem dX6_area_39 : decode cX6_area 39 = .ok (.iaload, 1) := by decide +kernel
theorem dX6_area_40 : decode cX6_area 40 = .ok (.invokevirtual 82, 3) := by decide +kernel
theorem dX6_area_43 : decode cX6_area 43 = .ok (.ladd, 1) := by decide +kernel
theorem dX6_area_44 : decode cX6_area 44 = .ok (.lstore_n 1, 1) := by decide +kernel
theorem dX6_area_45 : decode cX6_area 45 = .ok (.iinc 3 1, 3) := by decide +kernel
theorem dX6_area_48 : decode cX6_area 48 = .ok (.goto (-40), 3) := by decide +kernel
theorem dX6_area_51 : decode cX6_area 51 = .ok (.lload_n 1, 1) := by decide +kernel
theorem dX6_area_52 : decode cX6_area 52 = .ok (.lreturn, 1) := by decide +kernel
set_option maxRecDepth 20000 in
theorem ggX6_image_X6_in : GoodIn wsX6_image wsX6_in := goodIn_r _ [10] (by decide +kernel) (by decide +kernel)
set_option maxRecDepth 20000 in
theorem gX6_image_X6_in : GoodIn wsX6_image (va_wsS RX6 44 yX6_in wsX6_in) := goodIn_app (goodIn_of _ (by decide +kernel)) ggX6_image_X6_in
theorem dX6_image_0 : decode cX6_image 0 = .ok (.iload_n 1, 1) := by decide +kernel
theorem dX6_image_1 : decode cX6_image 1 = .ok (.iconst 0, 1) := by decide +kernel
theorem dX6_image_2 : decode cX6_image 2 = .ok (.iconst 1, 1) := by decide +kernel
theorem dX6_image_3 : decode cX6_image 3 = .ok (.invokestatic 44, 3) := by decide +kernel
theorem dX6_image_6 : decode cX6_image 6 = .ok (.ifCond .ne 6, 3) := by decide +kernel
theorem dX6_image_9 : decode cX6_image 9 = .ok (.bipush (-2), 2) := by decide +kernel
theorem dX6_image_11 : decode cX6_image 11 = .ok (.ireturn, 1) := by decide +kernel
theorem dX6_image_12 : decode cX6_image 12 = .ok (.aload_n 0, 1) := by decide +kernel
theorem dX6_image_13 : decode cX6_image 13 = .ok (.getfield 35, 3) := by decide +kernel
theorem dX6_image_16 : decode cX6_image 16 = .ok (.iload_n 1, 1) := by decide +kernel
theorem dX6_image_17 : decode cX6_image 17 = .ok (.lconst 0, 1) := by decide +kernel
theorem dX6_image_18 : decode cX6_image 18 = .ok (.lastore, 1) := by decide +kernel
theorem dX6_image_19 : decode cX6_image 19 = .ok (.iconst 0, 1) := by decide +kernel
theorem dX6_image_20 : decode cX6_image 20 = .ok (.istore_n 2, 1) := by decide +kernel
theorem dX6_image_21 : decode cX6_image 21 = .ok (.iload_n 2, 1) := by decide +kernel
theorem dX6_image_22 : decode cX6_image 22 = .ok (.bipush 32, 2) := by decide +kernel
theorem dX6_image_24 : decode cX6_image 24 = .ok (.if_icmp .ge 71, 3) := by decide +kernel
theorem dX6_image_27 : decode cX6_image 27 = .ok (.aload_n 0, 1) := by decide +kernel
theorem dX6_image_28 : decode cX6_image 28 = .ok (.getfield 32, 3) := by decide +kernel
theorem dX6_image_31 : decode cX6_image 31 = .ok (.bipush 64, 2) := by decide +kernel
theorem dX6_image_33 : decode cX6_image 33 = .ok (.iload_n 1, 1) := by decide +kernel
theorem dX6_image_34 : decode cX6_image 34 = .ok (.imul, 1) := by decide +kernel
theorem dX6_image_35 : decode cX6_image 35 = .ok (.iload_n 2, 1) := by decide +kernel
theorem dX6_image_36 : decode cX6_image 36 = .ok (.iadd, 1) := by decide +kernel
theorem dX6_image_37 : decode cX6_image 37 = .ok (.aload_n 0, 1) := by decide +kernel
theorem dX6_image_38 : decode cX6_image 38 = .ok (.getfield 7, 3) := by decide +kernel
theorem dX6_image_41 : decode cX6_image 41 = .ok (.iload_n 2, 1) := by decide +kernel
theorem dX6_image_42 : decode cX6_image 42 = .ok (.iaload, 1) := by decide +kernel
theorem dX6_image_43 : decode cX6_image 43 = .ok (.iastore, 1) := by decide +kernel
theorem dX6_image_44 : decode cX6_image 44 = .ok (.aload_n 0, 1) := by decide +kernel
theorem dX6_image_45 : decode cX6_image 45 = .ok (.getfield 32, 3) := by decide +kernel
theorem dX6_image_48 : decode cX6_image 48 = .ok (.bipush 64, 2) := by decide +kernel
theorem dX6_image_50 : decode cX6_image 50 = .ok (.iload_n 1, 1) := by decide +kernel
theorem dX6_image_51 : decode cX6_image 51 = .ok (.imul, 1) := by decide +kernel
theorem dX6_image_52 : decode cX6_image 52 = .ok (.bipush 32, 2) := by decide +kernel
theorem dX6_image_54 : decode cX6_image 54 = .ok (.iadd, 1) := by decide +kernel
theorem dX6_image_55 : decode cX6_image 55 = .ok (.iload_n 2, 1) := by decide +kernel
theorem dX6_image_56 : decode cX6_image 56 = .ok (.iadd, 1) := by decide +kernel
theorem dX6_image_57 : decode cX6_image 57 = .ok (.aload_n 0, 1) := by decide +kernel
theorem dX6_image_58 : decode cX6_image 58 = .ok (.getfield 13, 3) := by decide +kernel
theorem dX6_image_61 : decode cX6_image 61 = .ok (.iload_n 2, 1) := by decide +kernel
theorem dX6_image_62 : decode cX6_image 62 = .ok (.iaload, 1) := by decide +kernel
theorem dX6_image_63 : decode cX6_image 63 = .ok (.iastore, 1) := by decide +kernel
theorem dX6_image_64 : decode cX6_image 64 = .ok (.aload_n 0, 1) := by decide +kernel
theorem dX6_image_65 : decode cX6_image 65 = .ok (.getfield 35, 3) := by decide +kernel
theorem dX6_image_68 : decode cX6_image 68 = .ok (.iload_n 1, 1) := by decide +kernel
theorem dX6_image_69 : decode cX6_image 69 = .ok (.dup2, 1) := by decide +kernel
theorem dX6_image_70 : decode cX6_image 70 = .ok (.laload, 1) := by decide +kernel
theorem dX6_image_71 : decode cX6_image 71 = .ok (.aload_n 0, 1) := by decide +kernel
theorem dX6_image_72 : decode cX6_image 72 = .ok (.getfield 16, 3) := by decide +kernel
theorem dX6_image_75 : decode cX6_image 75 = .ok (.iload_n 2, 1) := by decide +kernel
theorem dX6_image_76 : decode cX6_image 76 = .ok (.baload, 1) := by decide +kernel
theorem dX6_image_77 : decode cX6_image 77 = .ok (.ifCond .eq 9, 3) := by decide +kernel
theorem dX6_image_80 : decode cX6_image 80 = .ok (.lconst 1, 1) := by decide +kernel
theorem dX6_image_81 : decode cX6_image 81 = .ok (.iload_n 2, 1) := by decide +kernel
theorem dX6_image_82 : decode cX6_image 82 = .ok (.lshl, 1) := by decide +kernel
theorem dX6_image_83 : decode cX6_image 83 = .ok (.goto 4, 3) := by decide +kernel
theorem dX6_image_86 : decode cX6_image 86 = .ok (.lconst 0, 1) := by decide +kernel
theorem dX6_image_87 : decode cX6_image 87 = .ok (.lor, 1) := by decide +kernel
theorem dX6_image_88 : decode cX6_image 88 = .ok (.lastore, 1) := by decide +kernel
theorem dX6_image_89 : decode cX6_image 89 = .ok (.iinc 2 1, 3) := by decide +kernel
theorem dX6_image_92 : decode cX6_image 92 = .ok (.goto (-71), 3) := by decide +kernel
theorem dX6_image_95 : decode cX6_image 95 = .ok (.aload_n 0, 1) := by decide +kernel
theorem dX6_image_96 : decode cX6_image 96 = .ok (.getfield 39, 3) := by decide +kernel
theorem dX6_image_99 : decode cX6_image 99 = .ok (.iload_n 1, 1) := by decide +kernel
theorem dX6_image_100 : decode cX6_image 100 = .ok (.iconst 1, 1) := by decide +kernel
theorem dX6_image_101 : decode cX6_image 101 = .ok (.bastore, 1) := by decide +kernel
theorem dX6_image_102 : decode cX6_image 102 = .ok (.iconst 1, 1) := by decide +kernel
theorem dX6_image_103 : decode cX6_image 103 = .ok (.ireturn, 1) := by decide +kernel
set_option maxRecDepth 20000 in
theorem ggX6_restore_X6_in : GoodIn wsX6_restore wsX6_in := goodIn_r _ [11] (by decide +kernel) (by decide +kernel)
set_option maxRecDepth 20000 in
theorem gX6_restore_X6_in : GoodIn wsX6_restore (va_wsS RX6 44 yX6_in wsX6_in) := goodIn_app (goodIn_of _ (by decide +kernel)) ggX6_restore_X6_in
theorem dX6_restore_0 : decode cX6_restore 0 = .ok (.iload_n 1, 1) := by decide +kernel
theorem dX6_restore_1 : decode cX6_restore 1 = .ok (.iconst 0, 1) := by decide +kernel
theorem dX6_restore_2 : decode cX6_restore 2 = .ok (.iconst 1, 1) := by decide +kernel
theorem dX6_restore_3 : decode cX6_restore 3 = .ok (.invokestatic 44, 3) := by decide +kernel
theorem dX6_restore_6 : decode cX6_restore 6 = .ok (.ifCond .ne 6, 3) := by decide +kernel
theorem dX6_restore_9 : decode cX6_restore 9 = .ok (.bipush (-2), 2) := by decide +kernel
theorem dX6_restore_11 : decode cX6_restore 11 = .ok (.ireturn, 1) := by decide +kernel
theorem dX6_restore_12 : decode cX6_restore 12 = .ok (.aload_n 0, 1) := by decide +kernel
theorem dX6_restore_13 : decode cX6_restore 13 = .ok (.getfield 39, 3) := by decide +kernel
theorem dX6_restore_16 : decode cX6_restore 16 = .ok (.iload_n 1, 1) := by decide +kernel
theorem dX6_restore_17 : decode cX6_restore 17 = .ok (.baload, 1) := by decide +kernel
theorem dX6_restore_18 : decode cX6_restore 18 = .ok (.ifCond .ne 6, 3) := by decide +kernel
theorem dX6_restore_21 : decode cX6_restore 21 = .ok (.bipush (-3), 2) := by decide +kernel
theorem dX6_restore_23 : decode cX6_restore 23 = .ok (.ireturn, 1) := by decide +kernel
theorem dX6_restore_24 : decode cX6_restore 24 = .ok (.aload_n 0, 1) := by decide +kernel
theorem dX6_restore_25 : decode cX6_restore 25 = .ok (.iconst 0, 1) := by decide +kernel
theorem dX6_restore_26 : decode cX6_restore 26 = .ok (.putfield 55, 3) := by decide +kernel
theorem dX6_restore_29 : decode cX6_restore 29 = .ok (.iconst 0, 1) := by decide +kernel
theorem dX6_restore_30 : decode cX6_restore 30 = .ok (.istore_n 2, 1) := by decide +kernel
theorem dX6_restore_31 : decode cX6_restore 31 = .ok (.iload_n 2, 1) := by decide +kernel
theorem dX6_restore_32 : decode cX6_restore 32 = .ok (.bipush 32, 2) := by decide +kernel
theorem dX6_restore_34 : decode cX6_restore 34 = .ok (.if_icmp .ge 95, 3) := by decide +kernel
theorem dX6_restore_37 : decode cX6_restore 37 = .ok (.aload_n 0, 1) := by decide +kernel
theorem dX6_restore_38 : decode cX6_restore 38 = .ok (.getfield 7, 3) := by decide +kernel
theorem dX6_restore_41 : decode cX6_restore 41 = .ok (.iload_n 2, 1) := by decide +kernel
theorem dX6_restore_42 : decode cX6_restore 42 = .ok (.aload_n 0, 1) := by decide +kernel
theorem dX6_restore_43 : decode cX6_restore 43 = .ok (.getfield 32, 3) := by decide +kernel
theorem dX6_restore_46 : decode cX6_restore 46 = .ok (.bipush 64, 2) := by decide +kernel
theorem dX6_restore_48 : decode cX6_restore 48 = .ok (.iload_n 1, 1) := by decide +kernel
theorem dX6_restore_49 : decode cX6_restore 49 = .ok (.imul, 1) := by decide +kernel
theorem dX6_restore_50 : decode cX6_restore 50 = .ok (.iload_n 2, 1) := by decide +kernel
theorem dX6_restore_51 : decode cX6_restore 51 = .ok (.iadd, 1) := by decide +kernel
theorem dX6_restore_52 : decode cX6_restore 52 = .ok (.iaload, 1) := by decide +kernel
theorem dX6_restore_53 : decode cX6_restore 53 = .ok (.iastore, 1) := by decide +kernel
theorem dX6_restore_54 : decode cX6_restore 54 = .ok (.aload_n 0, 1) := by decide +kernel
theorem dX6_restore_55 : decode cX6_restore 55 = .ok (.getfield 13, 3) := by decide +kernel
theorem dX6_restore_58 : decode cX6_restore 58 = .ok (.iload_n 2, 1) := by decide +kernel
theorem dX6_restore_59 : decode cX6_restore 59 = .ok (.aload_n 0, 1) := by decide +kernel
theorem dX6_restore_60 : decode cX6_restore 60 = .ok (.getfield 32, 3) := by decide +kernel
theorem dX6_restore_63 : decode cX6_restore 63 = .ok (.bipush 64, 2) := by decide +kernel
theorem dX6_restore_65 : decode cX6_restore 65 = .ok (.iload_n 1, 1) := by decide +kernel
theorem dX6_restore_66 : decode cX6_restore 66 = .ok (.imul, 1) := by decide +kernel
theorem dX6_restore_67 : decode cX6_restore 67 = .ok (.bipush 32, 2) := by decide +kernel
theorem dX6_restore_69 : decode cX6_restore 69 = .ok (.iadd, 1) := by decide +kernel
theorem dX6_restore_70 : decode cX6_restore 70 = .ok (.iload_n 2, 1) := by decide +kernel
theorem dX6_restore_71 : decode cX6_restore 71 = .ok (.iadd, 1) := by decide +kernel
theorem dX6_restore_72 : decode cX6_restore 72 = .ok (.iaload, 1) := by decide +kernel
theorem dX6_restore_73 : decode cX6_restore 73 = .ok (.iastore, 1) := by decide +kernel
theorem dX6_restore_74 : decode cX6_restore 74 = .ok (.aload_n 0, 1) := by decide +kernel
theorem dX6_restore_75 : decode cX6_restore 75 = .ok (.getfield 16, 3) := by decide +kernel
theorem dX6_restore_78 : decode cX6_restore 78 = .ok (.iload_n 2, 1) := by decide +kernel
theorem dX6_restore_79 : decode cX6_restore 79 = .ok (.aload_n 0, 1) := by decide +kernel
theorem dX6_restore_80 : decode cX6_restore 80 = .ok (.getfield 35, 3) := by decide +kernel
theorem dX6_restore_83 : decode cX6_restore 83 = .ok (.iload_n 1, 1) := by decide +kernel
theorem dX6_restore_84 : decode cX6_restore 84 = .ok (.laload, 1) := by decide +kernel
theorem dX6_restore_85 : decode cX6_restore 85 = .ok (.iload_n 2, 1) := by decide +kernel
theorem dX6_restore_86 : decode cX6_restore 86 = .ok (.lshr, 1) := by decide +kernel
theorem dX6_restore_87 : decode cX6_restore 87 = .ok (.lconst 1, 1) := by decide +kernel
theorem dX6_restore_88 : decode cX6_restore 88 = .ok (.land, 1) := by decide +kernel
theorem dX6_restore_89 : decode cX6_restore 89 = .ok (.lconst 1, 1) := by decide +kernel
theorem dX6_restore_90 : decode cX6_restore 90 = .ok (.lcmp, 1) := by decide +kernel
theorem dX6_restore_91 : decode cX6_restore 91 = .ok (.ifCond .ne 7, 3) := by decide +kernel
theorem dX6_restore_94 : decode cX6_restore 94 = .ok (.iconst 1, 1) := by decide +kernel
theorem dX6_restore_95 : decode cX6_restore 95 = .ok (.goto 4, 3) := by decide +kernel
theorem dX6_restore_98 : decode cX6_restore 98 = .ok (.iconst 0, 1) := by decide +kernel
theorem dX6_restore_99 : decode cX6_restore 99 = .ok (.bastore, 1) := by decide +kernel
theorem dX6_restore_100 : decode cX6_restore 100 = .ok (.aload_n 0, 1) := by decide +kernel
theorem dX6_restore_101 : decode cX6_restore 101 = .ok (.dup, 1) := by decide +kernel
theorem dX6_restore_102 : decode cX6_restore 102 = .ok (.getfield 55, 3) := by decide +kernel
theorem dX6_restore_105 : decode cX6_restore 105 = .ok (.aload_n 0, 1) := by decide +kernel
theorem dX6_restore_106 : decode cX6_restore 106 = .ok (.getfield 16, 3) := by decide +kernel
theorem dX6_restore_109 : decode cX6_restore 109 = .ok (.iload_n 2, 1) := by decide +kernel
theorem dX6_restore_110 : decode cX6_restore 110 = .ok (.baload, 1) := by decide +kernel
theorem dX6_restore_111 : decode cX6_restore 111 = .ok (.ifCond .eq 7, 3) := by decide +kernel
theorem dX6_restore_114 : decode cX6_restore 114 = .ok (.iconst 1, 1) := by decide +kernel
theorem dX6_restore_115 : decode cX6_restore 115 = .ok (.goto 4, 3) := by decide +kernel
theorem dX6_restore_118 : decode cX6_restore 118 = .ok (.iconst 0, 1) := by decide +kernel
theorem dX6_restore_119 : decode cX6_restore 119 = .ok (.iadd, 1) := by decide +kernel
theorem dX6_restore_120 : decode cX6_restore 120 = .ok (.putfield 55, 3) := by decide +kernel
theorem dX6_restore_123 : decode cX6_restore 123 = .ok (.iinc 2 1, 3) := by decide +kernel
theorem dX6_restore_126 : decode cX6_restore 126 = .ok (.goto (-95), 3) := by decide +kernel
theorem dX6_restore_129 : decode cX6_restore 129 = .ok (.iconst 1, 1) := by decide +kernel
theorem dX6_restore_130 : decode cX6_restore 130 = .ok (.ireturn, 1) := by decide +kernel
set_option maxRecDepth 20000 in
theorem ggX6_told_X6_in : GoodIn wsX6_told wsX6_in := goodIn_r _ [6] (by decide +kernel) (by decide +kernel)
set_option maxRecDepth 20000 in
theorem gX6_told_X6_in : GoodIn wsX6_told (va_wsS RX6 44 yX6_in wsX6_in) := goodIn_app (goodIn_of _ (by decide +kernel)) ggX6_told_X6_in
set_option maxRecDepth 20000 in
theorem ggX6_told_X6_layPart : GoodIn wsX6_told wsX6_layPart := goodIn_r _ [10, 2, 11, 12, 1, 13, 14, 15, 5, 16, 17, 18, 19, 20, 21, 3, 4, 6, 51, 52, 53, 54, 55, 56, 57, 58, 59, 60, 61, 62, 63, 64, 65, 66] (by decide +kernel) (by decide +kernel)
set_option maxRecDepth 20000 in
theorem gX6_told_X6_layPart : GoodIn wsX6_told (wsV RX6 86 RX6 yX6_layPart wsX6_layPart) := goodIn_app (goodIn_of _ (by decide +kernel)) ggX6_told_X6_layPart
set_option maxRecDepth 20000 in
theorem ggX6_told_X6_chainSet : GoodIn wsX6_told wsX6_chainSet := goodIn_r _ [25, 7, 8, 9, 5, 10, 2, 11, 12, 1, 13, 14, 15, 16, 17, 18, 19, 20, 21, 3, 4, 6, 26, 27, 28, 29, 30, 31, 32, 33, 34, 35, 36, 37, 38, 39, 40, 41, 42, 51, 52, 53, 54, 55, 56, 57, 58, 59, 60, 61, 62, 63, 64, 65, 66] (by decide +kernel) (by decide +kernel)
set_option maxRecDepth 20000 in
theorem gX6_told_X6_chainSet : GoodIn wsX6_told (wsV RX6 97 RX6 yX6_chainSet wsX6_chainSet) := goodIn_app (goodIn_of _ (by decide +kernel)) ggX6_told_X6_chainSet
set_option maxRecDepth 20000 in
theorem ggX6_told_X6_bits : GoodIn wsX6_told wsX6_bits := goodIn_r _ [45] (by decide +kernel) (by decide +kernel)
set_option maxRecDepth 20000 in
theorem gX6_told_X6_bits : GoodIn wsX6_told (va_wsS RX6 103 yX6_bits wsX6_bits) := goodIn_app (goodIn_of _ (by decide +kernel)) ggX6_told_X6_bits
set_option maxRecDepth 20000 in
theorem ggX6_told_X6_restOf : GoodIn wsX6_told wsX6_restOf := goodIn_r _ [49, 50, 22, 23, 24, 5, 25, 7, 8, 9, 10, 2, 11, 12, 1, 13, 14, 15, 16, 17, 18, 19, 20, 21, 3, 4, 6, 26, 27, 28, 29, 30, 31, 32, 33, 34, 35, 36, 37, 38, 39, 40, 41, 42, 43, 44, 45, 51, 52, 53, 54, 55, 56, 57, 58, 59, 60, 61, 62, 63, 64, 65, 66] (by decide +kernel) (by decide +kernel)
set_option maxRecDepth 20000 in
theorem gX6_told_X6_restOf : GoodIn wsX6_told (wsV RX6 111 RX6 yX6_restOf wsX6_restOf) := goodIn_app (goodIn_of _ (by decide +kernel)) ggX6_told_X6_restOf
theorem dX6_told_0 : decode cX6_told 0 = .ok (.iload_n 1, 1) := by decide +kernel
theorem dX6_told_1 : decode cX6_told 1 = .ok (.iconst 0, 1) := by decide +kernel
theorem dX6_told_2 : decode cX6_told 2 = .ok (.iconst 4, 1) := by decide +kernel
theorem dX6_told_3 : decode cX6_told 3 = .ok (.invokestatic 44, 3) := by decide +kernel
theorem dX6_told_6 : decode cX6_told 6 = .ok (.ifCond .ne 6, 3) := by decide +kernel
theorem dX6_told_9 : decode cX6_told 9 = .ok (.bipush (-2), 2) := by decide +kernel
theorem dX6_told_11 : decode cX6_told 11 = .ok (.ireturn, 1) := by decide +kernel
theorem dX6_told_12 : decode cX6_told 12 = .ok (.iconst 0, 1) := by decide +kernel
theorem dX6_told_13 : decode cX6_told 13 = .ok (.istore_n 2, 1) := by decide +kernel
theorem dX6_told_14 : decode cX6_told 14 = .ok (.iconst 0, 1) := by decide +kernel
theorem dX6_told_15 : decode cX6_told 15 = .ok (.istore_n 3, 1) := by decide +kernel
theorem dX6_told_16 : decode cX6_told 16 = .ok (.iconst 0, 1) := by decide +kernel
theorem dX6_told_17 : decode cX6_told 17 = .ok (.istore 4, 2) := by decide +kernel
theorem dX6_told_19 : decode cX6_told 19 = .ok (.bipush (-6), 2) := by decide +kernel
theorem dX6_told_21 : decode cX6_told 21 = .ok (.istore 5, 2) := by decide +kernel
theorem dX6_told_23 : decode cX6_told 23 = .ok (.iconst 1, 1) := by decide +kernel
theorem dX6_told_24 : decode cX6_told 24 = .ok (.istore 6, 2) := by decide +kernel
theorem dX6_told_26 : decode cX6_told 26 = .ok (.iload 6, 2) := by decide +kernel
theorem dX6_told_28 : decode cX6_told 28 = .ok (.bipush 64, 2) := by decide +kernel
theorem dX6_told_30 : decode cX6_told 30 = .ok (.if_icmp .ge 103, 3) := by decide +kernel
theorem dX6_told_33 : decode cX6_told 33 = .ok (.aload_n 0, 1) := by decide +kernel
theorem dX6_told_34 : decode cX6_told 34 = .ok (.iload 6, 2) := by decide +kernel
theorem dX6_told_36 : decode cX6_told 36 = .ok (.invokevirtual 86, 3) := by decide +kernel
theorem dX6_told_39 : decode cX6_told 39 = .ok (.ifCond .eq 88, 3) := by decide +kernel
theorem dX6_told_42 : decode cX6_told 42 = .ok (.iinc 2 1, 3) := by decide +kernel
theorem dX6_told_45 : decode cX6_told 45 = .ok (.aload_n 0, 1) := by decide +kernel
theorem dX6_told_46 : decode cX6_told 46 = .ok (.getfield 72, 3) := by decide +kernel
theorem dX6_told_49 : decode cX6_told 49 = .ok (.iload 5, 2) := by decide +kernel
theorem dX6_told_51 : decode cX6_told 51 = .ok (.if_icmp .le 10, 3) := by decide +kernel
theorem dX6_told_54 : decode cX6_told 54 = .ok (.aload_n 0, 1) := by decide +kernel
theorem dX6_told_55 : decode cX6_told 55 = .ok (.getfield 72, 3) := by decide +kernel
theorem dX6_told_58 : decode cX6_told 58 = .ok (.goto 5, 3) := by decide +kernel
theorem dX6_told_61 : decode cX6_told 61 = .ok (.iload 5, 2) := by decide +kernel
theorem dX6_told_63 : decode cX6_told 63 = .ok (.istore 5, 2) := by decide +kernel
theorem dX6_told_65 : decode cX6_told 65 = .ok (.iconst 0, 1) := by decide +kernel
theorem dX6_told_66 : decode cX6_told 66 = .ok (.istore 7, 2) := by decide +kernel
theorem dX6_told_68 : decode cX6_told 68 = .ok (.iload 7, 2) := by decide +kernel
theorem dX6_told_70 : decode cX6_told 70 = .ok (.iconst 2, 1) := by decide +kernel
theorem dX6_told_71 : decode cX6_told 71 = .ok (.if_icmp .ge 56, 3) := by decide +kernel
theorem dX6_told_74 : decode cX6_told 74 = .ok (.iload_n 1, 1) := by decide +kernel
theorem dX6_told_75 : decode cX6_told 75 = .ok (.iconst 2, 1) := by decide +kernel
theorem dX6_told_76 : decode cX6_told 76 = .ok (.if_icmp .eq 8, 3) := by decide +kernel
theorem dX6_told_79 : decode cX6_told 79 = .ok (.iload_n 1, 1) := by decide +kernel
theorem dX6_told_80 : decode cX6_told 80 = .ok (.iconst 3, 1) := by decide +kernel
theorem dX6_told_81 : decode cX6_told 81 = .ok (.if_icmp .ne 46, 3) := by decide +kernel
theorem dX6_told_84 : decode cX6_told 84 = .ok (.iload_n 3, 1) := by decide +kernel
theorem dX6_told_85 : decode cX6_told 85 = .ok (.aload_n 0, 1) := by decide +kernel
theorem dX6_told_86 : decode cX6_told 86 = .ok (.iload 6, 2) := by decide +kernel
theorem dX6_told_88 : decode cX6_told 88 = .ok (.iload 7, 2) := by decide +kernel
theorem dX6_told_90 : decode cX6_told 90 = .ok (.invokevirtual 97, 3) := by decide +kernel
theorem dX6_told_93 : decode cX6_told 93 = .ok (.invokestatic 103, 3) := by decide +kernel
theorem dX6_told_96 : decode cX6_told 96 = .ok (.iadd, 1) := by decide +kernel
theorem dX6_told_97 : decode cX6_told 97 = .ok (.istore_n 3, 1) := by decide +kernel
theorem dX6_told_98 : decode cX6_told 98 = .ok (.iload 4, 2) := by decide +kernel
theorem dX6_told_100 : decode cX6_told 100 = .ok (.iload 6, 2) := by decide +kernel
theorem dX6_told_102 : decode cX6_told 102 = .ok (.iconst 1, 1) := by decide +kernel
theorem dX6_told_103 : decode cX6_told 103 = .ok (.if_icmp .le 14, 3) := by decide +kernel
theorem dX6_told_106 : decode cX6_told 106 = .ok (.aload_n 0, 1) := by decide +kernel
theorem dX6_told_107 : decode cX6_told 107 = .ok (.iload 6, 2) := by decide +kernel
theorem dX6_told_109 : decode cX6_told 109 = .ok (.iload 7, 2) := by decide +kernel
theorem dX6_told_111 : decode cX6_told 111 = .ok (.invokevirtual 111, 3) := by decide +kernel
theorem dX6_told_114 : decode cX6_told 114 = .ok (.goto 4, 3) := by decide +kernel
theorem dX6_told_117 : decode cX6_told 117 = .ok (.iconst 0, 1) := by decide +kernel
theorem dX6_told_118 : decode cX6_told 118 = .ok (.iadd, 1) := by decide +kernel
theorem dX6_told_119 : decode cX6_told 119 = .ok (.istore 4, 2) := by decide +kernel
theorem dX6_told_121 : decode cX6_told 121 = .ok (.iinc 7 1, 3) := by decide +kernel
theorem dX6_told_124 : decode cX6_told 124 = .ok (.goto (-56), 3) := by decide +kernel
theorem dX6_told_127 : decode cX6_told 127 = .ok (.iinc 6 1, 3) := by decide +kernel
theorem dX6_told_130 : decode cX6_told 130 = .ok (.goto (-104), 3) := by decide +kernel
theorem dX6_told_133 : decode cX6_told 133 = .ok (.iload_n 1, 1) := by decide +kernel
theorem dX6_told_134 : decode cX6_told 134 = .ok (.ifCond .ne 10, 3) := by decide +kernel
theorem dX6_told_137 : decode cX6_told 137 = .ok (.aload_n 0, 1) := by decide +kernel
theorem dX6_told_138 : decode cX6_told 138 = .ok (.getfield 55, 3) := by decide +kernel
theorem dX6_told_141 : decode cX6_told 141 = .ok (.goto 33, 3) := by decide +kernel
theorem dX6_told_144 : decode cX6_told 144 = .ok (.iload_n 1, 1) := by decide +kernel
theorem dX6_told_145 : decode cX6_told 145 = .ok (.iconst 1, 1) := by decide +kernel
theorem dX6_told_146 : decode cX6_told 146 = .ok (.if_icmp .ne 7, 3) := by decide +kernel
theorem dX6_told_149 : decode cX6_told 149 = .ok (.iload_n 2, 1) := by decide +kernel
theorem dX6_told_150 : decode cX6_told 150 = .ok (.goto 24, 3) := by decide +kernel
theorem dX6_told_153 : decode cX6_told 153 = .ok (.iload_n 1, 1) := by decide +kernel
theorem dX6_told_154 : decode cX6_told 154 = .ok (.iconst 2, 1) := by decide +kernel
theorem dX6_told_155 : decode cX6_told 155 = .ok (.if_icmp .ne 7, 3) := by decide +kernel
theorem dX6_told_158 : decode cX6_told 158 = .ok (.iload_n 3, 1) := by decide +kernel
theorem dX6_told_159 : decode cX6_told 159 = .ok (.goto 15, 3) := by decide +kernel
theorem dX6_told_162 : decode cX6_told 162 = .ok (.iload_n 1, 1) := by decide +kernel
theorem dX6_told_163 : decode cX6_told 163 = .ok (.iconst 3, 1) := by decide +kernel
theorem dX6_told_164 : decode cX6_told 164 = .ok (.if_icmp .ne 8, 3) := by decide +kernel
theorem dX6_told_167 : decode cX6_told 167 = .ok (.iload 4, 2) := by decide +kernel
theorem dX6_told_169 : decode cX6_told 169 = .ok (.goto 5, 3) := by decide +kernel
theorem dX6_told_172 : decode cX6_told 172 = .ok (.iload 5, 2) := by decide +kernel
theorem dX6_told_174 : decode cX6_told 174 = .ok (.ireturn, 1) := by decide +kernel
theorem dJ9_max_7cf53_0 : decode cJ9_max_7cf53 0 = .ok (.iload_n 0, 1) := by decide +kernel
theorem dJ9_max_7cf53_1 : decode cJ9_max_7cf53 1 = .ok (.iload_n 1, 1) := by decide +kernel
theorem dJ9_max_7cf53_2 : decode cJ9_max_7cf53 2 = .ok (.if_icmp .lt 7, 3) := by decide +kernel
theorem dJ9_max_7cf53_5 : decode cJ9_max_7cf53 5 = .ok (.iload_n 0, 1) := by decide +kernel
theorem dJ9_max_7cf53_6 : decode cJ9_max_7cf53 6 = .ok (.goto 4, 3) := by decide +kernel
theorem dJ9_max_7cf53_9 : decode cJ9_max_7cf53 9 = .ok (.iload_n 1, 1) := by decide +kernel
theorem dJ9_max_7cf53_10 : decode cJ9_max_7cf53 10 = .ok (.ireturn, 1) := by decide +kernel
theorem dJ9_min_7cf53_0 : decode cJ9_min_7cf53 0 = .ok (.iload_n 0, 1) := by decide +kernel
theorem dJ9_min_7cf53_1 : decode cJ9_min_7cf53 1 = .ok (.iload_n 1, 1) := by decide +kernel
theorem dJ9_min_7cf53_2 : decode cJ9_min_7cf53 2 = .ok (.if_icmp .gt 7, 3) := by decide +kernel
theorem dJ9_min_7cf53_5 : decode cJ9_min_7cf53 5 = .ok (.iload_n 0, 1) := by decide +kernel
theorem dJ9_min_7cf53_6 : decode cJ9_min_7cf53 6 = .ok (.goto 4, 3) := by decide +kernel
theorem dJ9_min_7cf53_9 : decode cJ9_min_7cf53 9 = .ok (.iload_n 1, 1) := by decide +kernel
theorem dJ9_min_7cf53_10 : decode cJ9_min_7cf53 10 = .ok (.ireturn, 1) := by decide +kernel
